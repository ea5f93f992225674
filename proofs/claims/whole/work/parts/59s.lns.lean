-- the village's lines, one by one
/-- both go on, or both tell the same place; rows of the class may have grown -/
def VOA (fq : Option (Int32 × Mm)) (fk : Option ((Int32 × (Nat → Nat) × Mm) × Nat × Nat)) (sh : Sh) (ln : Nat → Nat) (μq μk : Mm) (T : Nat → Nat) (z d : Nat) (Λo : Option LW) (x2 : Int32) : Prop :=
  (∃ aq ak ln' kc ks V n N w0 r b, fq = some (nI 1, aq) ∧ fk = some ((nI 1, ln', ak), kc, ks) ∧ GR d ln ln' kc ks ∧ VL sh ln' aq ak T z b d V n N w0 r Λo x2 ∧ QR μq aq ∧ FrV d μk ak) ∨
  (∃ aq ak x, fq = some (nI 0, aq) ∧ fk = some ((nI 0, ln, ak), 0, 0) ∧ aq (0, 0) 15 = nI x ∧ ak (6, 0) 7 = nI x ∧ QR μq aq ∧ FrW d μk ak)
theorem FrV.wr {d : Nat} {μ : Mm} {x : Int32} : FrW d μ (mst μ (6, 0) 7 x) := by
  rw [mst_row]
  exact ⟨fun q g1 _ _ _ _ => mrow_ne g1, fun i hi => by rw [mrow_self, q_upd, if_neg (by omega)]⟩
theorem wr7 {μ : Mm} {x : Int32} : mst μ (6, 0) 7 x (6, 0) 7 = x := by rw [mst_row, mrow_self, q_upd, if_pos rfl]
section LNS
variable {sh : Sh} {ln : Nat → Nat} {μ a μq μk : Mm} {T : Nat → Nat} {z b b0 d V n N w0 : Nat} {r r1 : Nat → Int32} {Λo : Option LW} {x2 : Int32}
theorem q_early (h : RS μ V n N w0 r) : f_X11_isEarly μ = some (bI (decide (r 7 = nI 0 ∧ r 8 = nI 0))) := by
  have h7 := h.2.2.2.2.2.2.2.2.2.1
  have h8 := h.2.2.2.2.2.2.2.2.2.2
  have e7 : μ (1, 0) (7 : Int32).toNatClampNeg = r 7 := by rw [h.1]; rfl
  have e8 : μ (1, 0) (8 : Int32).toNatClampNeg = r 8 := by rw [h.1]; rfl
  rw [f_X11_isEarly, e7, e8, show (7 : Int32) = nI 7 from rfl, q_ck (by omega) (by omega), show (8 : Int32) = nI 8 from rfl, q_ck (by omega) (by omega)]
  rcases h7 with h7 | h7 <;> rcases h8 with h8 | h8 <;> rw [h7, h8] <;> rfl
/-- the number of values is told -/
theorem STR.val (h : STR sh ln μ d V 0 N w0 r Λo) {v : Nat} (hv : 2 ≤ v ∧ v ≤ 4) : STR sh ln (mst μ (13, d) 0 (nI v)) d v 0 N w0 (upd r 0 (nI v)) Λo := by
  obtain ⟨g1, g2, g3, g4, g5, g6, g7, g8⟩ := h
  have hb := g1.1.b
  have hN : N = 1 := by rw [hb.2.2.1, Nat.pow_zero]
  have em : ∀ i, i ≠ 0 → mst μ (13, d) 0 (nI v) (13, d) i = μ (13, d) i := fun i hi => by rw [mst_row, mrow_self, q_upd, if_neg hi]
  have e12 : ∀ c, mst μ (13, d) 0 (nI v) (12, c) = μ (12, c) := fun c => by rw [mst_row, mrow_neA (by omega)]
  have eu : ∀ i, i ≠ 0 → upd r 0 (nI v) i = r i := fun i hi => by rw [q_upd, if_neg hi]
  have elf : ∀ w, lf (upd r 0 (nI v)) w = lf r w := fun w => by unfold lf; rw [eu _ (by omega)]
  have hlg := g1.1.hlg
  have hW : WF v 0 N w0 (upd r 0 (nI v)) := by
    refine ⟨⟨hv.1, hv.2, by rw [hN, Nat.pow_zero], hb.2.2.2.1, by omega, hb.2.2.2.2.2⟩, ⟨by rw [q_upd, if_pos rfl], by rw [eu _ (by omega)]; exact g1.1.v1, by rw [eu _ (by omega)]; exact g1.1.v10, by rw [eu _ (by omega)]; exact g1.1.v6⟩, fun w hw => by rw [eu _ (by omega), elf]; exact g1.1.hl hw, by rw [elf]; exact g1.1.h0, fun p w hp => by omega, fun p hp => by omega, ⟨lgd r, hlg.2, by rw [eu _ (by omega)]; exact hlg.1⟩, ?_, ?_, ?_⟩
    · rw [eu _ (by omega)]; exact g1.1.2.2.2.2.2.2.2.1
    · rw [eu _ (by omega)]; exact g1.1.2.2.2.2.2.2.2.2.1
    · rw [eu _ (by omega)]; exact g1.1.2.2.2.2.2.2.2.2.2
  refine ⟨⟨hW, ⟨by rw [mst_row, mrow_self, q_upd, if_pos rfl], by rw [em _ (by omega)]; exact g1.c1, by rw [em _ (by omega)]; exact g1.c2, by rw [em _ (by omega)]; exact g1.c3⟩, g1.2.2.1, fun p hp => by omega, fun w hw => by rw [e12, eu _ (by omega)]; exact g1.2.2.2.2.1 w hw, fun p w hp => by omega⟩, g2.kp ⟨em _ (by omega), em _ (by omega)⟩ (e12 _) (eu _ (by omega)) (fun i h0 h1 => eu i (by omega)) hlg.2, g3.to (em _ (by omega)) (fun q hq => by
    rw [mst_row]
    exact mrow_ne (fun y => by rw [y] at hq; rcases hq with hq | hq <;> injection hq <;> contradiction)), ?_, ?_, ?_, ?_, ?_⟩
  · cases Λo with
    | none => show upd r 0 (nI v) 3 = nI 0; rw [eu 3 (by omega)]; exact g4
    | some Λ =>
      obtain ⟨h1, h2, h3⟩ := g4
      refine ⟨by rw [eu _ (by omega)]; exact h1, ⟨by rw [eu _ (by omega)]; exact h2.1, fun k hk => ?_, fun i hi => ?_⟩, h3⟩
      · rw [eu _ (by omega), eu _ (by omega), eu _ (by omega)]; exact h2.2.1 k hk
      · rw [eu _ (by omega), eu _ (by omega)]; exact h2.2.2 i hi
  · rw [em _ (by omega), eu _ (by omega)]; exact g5
  · rw [em _ (by omega), eu _ (by omega)]; exact g6
  · rw [em _ (by omega), eu _ (by omega)]; exact g7
  · rw [em _ (by omega), eu _ (by omega), eu _ (by omega)]; exact g8
theorem STR.cl (h : STR sh ln μ d V n N w0 r Λo) : μ (13, d) 7 = bI (decide (¬ (r 7 = nI 0 ∧ r 8 = nI 0))) := h.2.2.2.2.2.2.2
theorem v_values (hV : VL sh ln μq μk T z b d V n N w0 r Λo x2) (hX : VX sh ln μk d) (h15 : μq (0, 0) 15 = nI b0) : VO (f_X11_readValues μq) (f_X9_readValues sh ln μk (nI b0)) sh ln μq μk T z d Λo x2 := by
  obtain ⟨hR, hQ, hK, hS, hE⟩ := hV
  have hb := hR.2.b
  have hT := hQ.1.2.2.1
  have e1 := q_early hR
  have ek : f_X9_readValues sh ln μk (nI b0) = (if (μk (13, d) 7) = 0 then (if (μk (13, d) 1) ≤ 0 then (f_X8_takeNumber_0 sh ln μk (2 : Int32) (4 : Int32)).bind fun x34 => if x34.1 = 0 then some ((0 : Int32), x34.2) else (if x34.2 (6, 0) 12 = 0 then none else (ce (sh 2 ((x34.2 (6, 0) 12).toNatClampNeg - 1) = 1) (some ((1 : Int32), (mst x34.2 (13, (x34.2 (6, 0) 12).toNatClampNeg - 1) 0 (μk (6, 0) 10)))))) else some (nI 0, mst μk (6, 0) 7 (nI b0))) else some (nI 0, mst μk (6, 0) 7 (nI b0))) := by
    rw [f_X9_readValues, if_neg hX.nz, hX.c, hX.s, if_neg hX.nz, hX.s]
    rfl
  rw [ek, hS.cl, hS.1.c1]
  by_cases c : r 7 = nI 0 ∧ r 8 = nI 0
  · rw [decide_eq_true c] at e1
    rw [decide_eq_false (fun x => x c), if_pos (show bI false = 0 from rfl)]
    have eq1 : f_X11_readValues μq = (if nI n ≤ 0 then (f_X11_number μq (2 : Int32) (4 : Int32)).bind fun x19 => if x19.1 < 0 then if x19.1 < 0 then some ((0 : Int32), x19.2) else (some ((1 : Int32), x19.2)) else (ck 7114 (0 : Int32) (if x19.1 < 0 then some ((0 : Int32), (mst x19.2 (1, 0) (0 : Int32).toNatClampNeg x19.1)) else (some ((1 : Int32), (mst x19.2 (1, 0) (0 : Int32).toNatClampNeg x19.1))))) else (some ((0 : Int32), μq))) := by
      rw [f_X11_readValues, e1, Option.bind_some, if_neg (show ¬ bI true = 0 by decide), q_people hR, Option.bind_some]
    have qn : (nI n ≤ (0 : Int32)) = (n ≤ 0) := q_le (b := 0) (by omega) (by omega)
    rw [eq1]
    by_cases c0 : n = 0
    · subst c0
      rw [if_pos (qn.mpr (Nat.le_refl 0)), if_pos (qn.mpr (Nat.le_refl 0))]
      obtain ⟨a1, qf, q15, qy, qno⟩ := t_number hQ (2 : Int32) (4 : Int32)
      have hi := okN_lit (T := T) (z := z) (b := b) (lo := 2) (hi := 4) (fun c => nmv_le c) (hT b) (by omega)
      have ht := k_takeN0 (sh := sh) hK (2 : Int32) (4 : Int32)
      by_cases c2 : okN T z b (2 : Int32) (4 : Int32)
      · left
        have hv := hi.mp c2
        obtain ⟨qe, Q1⟩ := qy c2
        obtain ⟨k2, e2, kf, K2, n2⟩ := ht.1 c2
        obtain ⟨v, hvv⟩ : ∃ v, v = nmv T z b := ⟨_, rfl⟩
        rw [← hvv] at hv qe n2
        have S2 := (hS.kf kf.F).val (v := v) hv.2
        have R2 := hR.qf qf
        have em : mst a1 (1, 0) 0 (nI v) = mrow a1 (1, 0) (upd r 0 (nI v)) := by rw [mst_row, R2.1]
        have X2 := hX.fr (kf.F.V (d := d))
        refine ⟨mst a1 (1, 0) 0 (nI v), mst k2 (13, d) 0 (nI v), v, 0, N, w0, upd r 0 (nI v), nx T z b, ?_, ?_, ⟨?_, ?_, ?_, S2, ⟨fun _ => ?_, by rw [q_upd, if_neg (by omega)]; exact hE.2⟩⟩, ?_, ?_⟩
        · rw [qe, Option.bind_some]
          show (if nI v < 0 then (if nI v < 0 then some ((0 : Int32), a1) else (some ((1 : Int32), a1))) else ck 7114 (0 : Int32) (if nI v < 0 then some ((0 : Int32), (mst a1 (1, 0) (0 : Int32).toNatClampNeg (nI v))) else (some ((1 : Int32), (mst a1 (1, 0) (0 : Int32).toNatClampNeg (nI v)))))) = _
          rw [if_neg (show ¬ nI v < (0 : Int32) from nI_nneg (by omega)), if_neg (show ¬ nI v < (0 : Int32) from nI_nneg (by omega)), show (0 : Int32) = nI 0 from rfl, q_ck (by omega) (by omega)]
          rfl
        · rw [e2, Option.bind_some, if_neg (show ¬ (nI 1, k2).1 = 0 by show ¬ nI 1 = 0; decide)]
          show (if k2 (6, 0) 12 = 0 then none else (ce (sh 2 ((k2 (6, 0) 12).toNatClampNeg - 1) = 1) (some ((1 : Int32), (mst k2 (13, (k2 (6, 0) 12).toNatClampNeg - 1) 0 (μk (6, 0) 10)))))) = _
          rw [if_neg X2.nz, X2.c, X2.s, n2]
          rfl
        · rw [em]; exact RS.set S2.1.1 _
        · rw [em]; exact Q1.row (by omega) (by omega)
        · exact K2.S FrS.mst
        · have := hE.1 c
          exact ⟨fun i g0 g1 => by rw [q_upd, if_neg (by omega)]; exact this.1 i g0 g1, fun i g0 g1 => by rw [q_upd, if_neg (by omega)]; exact this.2 i g0 g1⟩
        · rw [em]
          refine qf.R.tr ⟨Fr.rf.mr (by decide), fun i _ _ _ _ => by rw [mrow_neA (by omega)]⟩
        · exact kf.F.V.tr FrS.mst.V
      · right
        refine ⟨a1, mst μk (6, 0) 7 (nI b), b, ?_, ?_, q15, wr7, qf.R, FrV.wr⟩
        · rw [qno c2]; rfl
        · rw [ht.2 c2]; rfl
    · right
      rw [if_neg (fun x => c0 (by have := qn.mp x; omega)), if_neg (fun x => c0 (by have := qn.mp x; omega))]
      exact ⟨μq, _, b0, rfl, rfl, h15, wr7, QR.rf, FrV.wr⟩
  · right
    rw [decide_eq_false c] at e1
    rw [decide_eq_true c, if_neg (show ¬ bI true = 0 by decide)]
    exact ⟨μq, _, b0, by rw [f_X11_readValues, e1]; rfl, rfl, h15, wr7, QR.rf, FrV.wr⟩
theorem EZ_joR {v : Nat} (h : EZ r) (hN : N * V ≤ 512) : EZ (joR n N V w0 v r) := ⟨fun i g0 g1 => by rw [joR_ne (by omega) (by omega) (by omega) (by omega)]; exact h.1 i g0 g1, fun i g0 g1 => by rw [joR_ne (by omega) (by omega) (by omega) (by omega)]; exact h.2 i g0 g1⟩
theorem v_person (hV : VL sh ln μq μk T z b d V n N w0 r Λo x2) (hX : VX sh ln μk d) (h15 : μq (0, 0) 15 = nI b0) : VOA (f_X11_readPerson μq) (f_X9_readPersonA sh ln μk (nI b0)) sh ln μq μk T z d Λo x2 := by
  obtain ⟨hR, hQ, hK, hS, hE⟩ := hV
  have hb := hR.2.b
  have hT := hQ.1.2.2.1
  have e1 := q_early hR
  have eroom : f_X6_hasRoom sh ln d μk = some (bI (decide (N * V ≤ 512))) := by
    have hNV : N * V ≤ 2048 := Nat.mul_le_mul hb.2.2.2.1 hb.2.1
    rw [f_X6_hasRoom, hS.1.c1, hS.1.c2, hS.1.c0, pk_mul]
    have q1 : ((9 : Int32) ≤ nI n) = (9 ≤ n) := q_le (a := 9) (by omega) (by omega)
    have q2 : ((512 : Int32) < nI (N * V)) = (512 < N * V) := q_lt (a := 512) (by omega) (by omega)
    by_cases c : N * V ≤ 512
    · have := (join_b hb (v := 0) (by omega) c).2.1
      rw [decide_eq_true c, if_neg (fun x => by have := q1.mp x; omega), if_neg (fun x => by have := q2.mp x; omega)]
      rfl
    · rw [decide_eq_false c]
      by_cases c9 : 9 ≤ n
      · rw [if_pos (q1.mpr c9)]; rfl
      · rw [if_neg (fun x => c9 (q1.mp x)), if_pos (q2.mpr (by omega))]; rfl
  have wf : ((f_X8_wrongAt_0 sh ln μk (nI b0)).bind fun x22 => cb x22.1 (some ((x22.1, ln, x22.2), 0, 0))) = some ((nI 0, ln, mst μk (6, 0) 7 (nI b0)), 0, 0) := by
    rw [f_X8_wrongAt_0, Option.bind_some]
    exact q_cb0
  have ek : f_X9_readPersonA sh ln μk (nI b0) = (if (μk (13, d) 7) = 0 then (if bI (decide (N * V ≤ 512)) = 0 then some ((nI 0, ln, mst μk (6, 0) 7 (nI b0)), 0, 0) else ((f_X8_takeNumber_0 sh ln μk (0 : Int32) (nI V - (1 : Int32))).bind fun x42 => if x42.1 = 0 then some (((0 : Int32), ln, x42.2), 0, 0) else (if x42.2 (6, 0) 12 = 0 then none else (ce (sh 2 ((x42.2 (6, 0) 12).toNatClampNeg - 1) = 1) ((f_X6_joinA sh ln ((x42.2 (6, 0) 12).toNatClampNeg - 1) x42.2 (μk (6, 0) 10)).bind fun x55 => addc x55.2.1 x55.2.2 (some (((1 : Int32), x55.1.2.1, x55.1.2.2), 0, 0))))))) else some ((nI 0, ln, mst μk (6, 0) 7 (nI b0)), 0, 0)) := by
    rw [f_X9_readPersonA, if_neg hX.nz, hX.c, hX.s, if_neg hX.nz, hX.s, eroom, Option.bind_some, wf, if_neg hX.nz, hX.s, hS.1.c0]
  rw [ek, hS.cl]
  by_cases c : r 7 = nI 0 ∧ r 8 = nI 0
  · rw [decide_eq_true c] at e1
    rw [decide_eq_false (fun x => x c), if_pos (show bI false = 0 from rfl)]
    have eq1 : f_X11_readPerson μq = _ := (q_b1 e1 (fun _ => rfl))
    have qn : (nI (N * V) ≤ (512 : Int32)) = (N * V ≤ 512) := q_le (b := 512) (by have : N * V ≤ 2048 := Nat.mul_le_mul hb.2.2.2.1 hb.2.1; omega) (by omega)
    rw [eq1, q_worlds hR, Option.bind_some, q_values hR, Option.bind_some, pk_mul]
    by_cases c1 : N * V ≤ 512
    · rw [if_pos (qn.mpr c1), decide_eq_true c1, if_neg (show ¬ bI true = 0 by decide), Option.bind_some]
      obtain ⟨a1, qf, q15, qy, qno⟩ := t_number hQ (0 : Int32) (nI V - (1 : Int32))
      have hi := okN_iff (T := T) (z := z) (b := b) (m := V) (fun c => nmv_le c) (hT b) (by omega)
      have ht := k_takeN0 (sh := sh) hK (0 : Int32) (nI V - (1 : Int32))
      by_cases c2 : okN T z b (0 : Int32) (nI V - (1 : Int32))
      · left
        have hv := hi.mp c2
        obtain ⟨qe, Q1⟩ := qy c2
        obtain ⟨k2, e2, kf, K2, n2⟩ := ht.1 c2
        obtain ⟨v, hvv⟩ : ∃ v, v = nmv T z b := ⟨_, rfl⟩
        rw [← hvv] at hv qe n2
        have S1 := hS.kf kf.F
        have hEz := hE.1 c
        obtain ⟨ln', k3, kc, ks, ej, G3, S3, F3⟩ := k_joinA S1 hX.2.2.2.2.1 hX.2.2.2.2.2 hX.2.1 hv.2 c1 hEz
        have R2 := hR.qf qf
        have X2 := hX.fr (kf.F.V (d := d))
        have hlast : ∃ af, ((if (0 : Int32) ≤ nI v then ck 7114 (1 : Int32) (ck 7114 (1 : Int32) (ck 7114 (10 : Int32) ((f_X11_values (mst a1 (1, 0) (1 : Int32).toNatClampNeg ((a1 (1, 0) (1 : Int32).toNatClampNeg) + (1 : Int32)))).bind fun x61 => ck 7114 (10 : Int32) (ck 7114 (6 : Int32) ((f_X11_values (mst (mst a1 (1, 0) (1 : Int32).toNatClampNeg ((a1 (1, 0) (1 : Int32).toNatClampNeg) + (1 : Int32))) (1, 0) (10 : Int32).toNatClampNeg (((mst a1 (1, 0) (1 : Int32).toNatClampNeg ((a1 (1, 0) (1 : Int32).toNatClampNeg) + (1 : Int32))) (1, 0) (10 : Int32).toNatClampNeg) * x61))).bind fun x80 => ck 7114 (6 : Int32) (Wh (fun z : Mm × Int32 => f_X11_readPerson_L89 z.1 z.2) ((mst (mst (mst a1 (1, 0) (1 : Int32).toNatClampNeg ((a1 (1, 0) (1 : Int32).toNatClampNeg) + (1 : Int32))) (1, 0) (10 : Int32).toNatClampNeg (((mst a1 (1, 0) (1 : Int32).toNatClampNeg ((a1 (1, 0) (1 : Int32).toNatClampNeg) + (1 : Int32))) (1, 0) (10 : Int32).toNatClampNeg) * x61)) (1, 0) (6 : Int32).toNatClampNeg ((((mst (mst a1 (1, 0) (1 : Int32).toNatClampNeg ((a1 (1, 0) (1 : Int32).toNatClampNeg) + (1 : Int32))) (1, 0) (10 : Int32).toNatClampNeg (((mst a1 (1, 0) (1 : Int32).toNatClampNeg ((a1 (1, 0) (1 : Int32).toNatClampNeg) + (1 : Int32))) (1, 0) (10 : Int32).toNatClampNeg) * x61)) (1, 0) (6 : Int32).toNatClampNeg) * x80) + nI v)), (0 : Int32)))))))) else (some ((0 : Int32), a1))) = some (nI 1, af)) ∧ af = mrow a1 (1, 0) (joR n N V w0 v r) := by
          have l1 : (1 : Int32).toNatClampNeg = 1 := rfl
          have l10 : (10 : Int32).toNatClampNeg = 10 := rfl
          have l6 : (6 : Int32).toNatClampNeg = 6 := rfl
          have ck1 : ∀ {X : Type} (x : Option X), ck 7114 (1 : Int32) x = x := fun x => q_ck (i := 1) (by omega) (by omega)
          have ck10 : ∀ {X : Type} (x : Option X), ck 7114 (10 : Int32) x = x := fun x => q_ck (i := 10) (by omega) (by omega)
          have ck6 : ∀ {X : Type} (x : Option X), ck 7114 (6 : Int32) x = x := fun x => q_ck (i := 6) (by omega) (by omega)
          have m1 : mst a1 (1, 0) 1 (nI n + (1 : Int32)) = mrow a1 (1, 0) (upd r 1 (nI (n + 1))) := by rw [mst_row, R2.1, show (1 : Int32) = nI 1 from rfl, nI_add]
          have hv1 : f_X11_values (mrow a1 (1, 0) (upd r 1 (nI (n + 1)))) = some (nI V) := by
            simp (disch := omega) only [Option.bind_some, Option.map_some, Option.bind_none, q_lit, nI_add, pk_mul, q_sub, q_addn, q_cl, q_le, q_lt, q_eq, q_ck, q_cd, q_cb0, q_cb1, q_div, q_rem, q_shl1, q_shr, q_and, q_or, q_tb, if_pos, if_neg, if_true, if_false, not_true, not_false_iff, eq_self, Bool.true_eq_false, Bool.false_eq_true, q_bI0, q_bI1, q_cbI, Nat.or_zero, mst_row, mrow_neA, mrow_neB, mrow_self, q_upd, f_X11_values, R2.2.v0]
          have m2 : mst (mrow a1 (1, 0) (upd r 1 (nI (n + 1)))) (1, 0) 10 (nI (N * V)) = mrow a1 (1, 0) (upd (upd r 1 (nI (n + 1))) 10 (nI (N * V))) := by rw [mst_row, mrow_mrow, mrow_self]
          have hv2 : f_X11_values (mrow a1 (1, 0) (upd (upd r 1 (nI (n + 1))) 10 (nI (N * V)))) = some (nI V) := by
            simp (disch := omega) only [Option.bind_some, Option.map_some, Option.bind_none, q_lit, nI_add, pk_mul, q_sub, q_addn, q_cl, q_le, q_lt, q_eq, q_ck, q_cd, q_cb0, q_cb1, q_div, q_rem, q_shl1, q_shr, q_and, q_or, q_tb, if_pos, if_neg, if_true, if_false, not_true, not_false_iff, eq_self, Bool.true_eq_false, Bool.false_eq_true, q_bI0, q_bI1, q_cbI, Nat.or_zero, mst_row, mrow_neA, mrow_neB, mrow_self, q_upd, f_X11_values, R2.2.v0]
          have m3 : mst (mrow a1 (1, 0) (upd (upd r 1 (nI (n + 1))) 10 (nI (N * V)))) (1, 0) 6 (nI (w0 * V + v)) = mrow a1 (1, 0) (upd (upd (upd r 1 (nI (n + 1))) 10 (nI (N * V))) 6 (nI (w0 * V + v))) := by rw [mst_row, mrow_mrow, mrow_self]
          have v10 : mrow a1 (1, 0) (upd r 1 (nI (n + 1))) (1, 0) 10 = nI N := by rw [mrow_self, q_upd, if_neg (by omega)]; exact R2.2.v10
          have v6 : mrow a1 (1, 0) (upd (upd r 1 (nI (n + 1))) 10 (nI (N * V))) (1, 0) 6 = nI w0 := by rw [mrow_self, q_upd, if_neg (by omega), q_upd, if_neg (by omega)]; exact R2.2.v6
          have a11 : a1 (1, 0) 1 = nI n := by rw [R2.1]; exact R2.2.v1
          obtain ⟨r3, hr3⟩ : ∃ r3, r3 = upd (upd (upd r 1 (nI (n + 1))) 10 (nI (N * V))) 6 (nI (w0 * V + v)) := ⟨_, rfl⟩
          have hloop : Wh (fun z : Mm × Int32 => f_X11_readPerson_L89 z.1 z.2) (mrow a1 (1, 0) r3, (0 : Int32)) = some (nI 1, mrow a1 (1, 0) (joR n N V w0 v r)) := by
            have hjo : joR n N V w0 v r = fun i => if 20 ≤ i ∧ i < 20 + N * V then nI 1 else r3 i := by
              funext i
              show (if i = 1 then nI (n + 1) else if i = 10 then nI (N * V) else if i = 6 then nI (w0 * V + v) else if 20 ≤ i ∧ i < 20 + N * V then nI 1 else r i) = _
              rw [hr3, q_upd, q_upd, q_upd]
              by_cases g : 20 ≤ i ∧ i < 20 + N * V
              · rw [if_neg (by omega), if_neg (by omega), if_neg (by omega), if_pos g, if_pos g]
              · rw [if_neg g, if_neg g]
                by_cases g1 : i = 1
                · rw [if_pos g1, if_neg (by omega), if_neg (by omega), if_pos g1]
                · rw [if_neg g1, if_neg g1]
                  by_cases g10 : i = 10
                  · rw [if_pos g10, if_neg (by omega), if_pos g10]
                  · rw [if_neg g10, if_neg g10]
            have r310 : r3 10 = nI (N * V) := by rw [hr3, q_upd, if_neg (by omega), q_upd, if_pos rfl]
            refine Wh_it (N * V) (fun k => (mrow a1 (1, 0) (fun i => if 20 ≤ i ∧ i < 20 + k then nI 1 else r3 i), nI k)) ?_ (fun k hk => ?_) ?_
            · have : (fun i => if 20 ≤ i ∧ i < 20 + 0 then nI 1 else r3 i) = r3 := by funext i; exact if_neg (by omega)
              rw [this]; rfl
            · have hw : f_X11_worlds (mrow a1 (1, 0) (fun i => if 20 ≤ i ∧ i < 20 + k then nI 1 else r3 i)) = some (nI (N * V)) := by
                rw [f_X11_worlds, show (10 : Int32) = nI 10 from rfl, q_ck (by omega) (by omega), q_cl (by omega), mrow_self, if_neg (by omega), r310]
              have ec := cpy_s2 (f := fun _ => nI 1) (g := r3) (b := 20) (k := k)
              show f_X11_readPerson_L89 (mrow a1 (1, 0) (fun i => if 20 ≤ i ∧ i < 20 + k then nI 1 else r3 i)) (nI k) = _
              rw [f_X11_readPerson_L89, hw, Option.bind_some, if_neg (by rw [q_le (by omega) (by omega)]; omega), show (20 : Int32) = nI 20 from rfl, nI_add, q_ck (by omega) (by omega), q_cl (by omega), mst_row, mrow_mrow, mrow_self, show (1 : Int32) = nI 1 from rfl, nI_add, ec]
            · have hw : f_X11_worlds (mrow a1 (1, 0) (fun i => if 20 ≤ i ∧ i < 20 + N * V then nI 1 else r3 i)) = some (nI (N * V)) := by
                rw [f_X11_worlds, show (10 : Int32) = nI 10 from rfl, q_ck (by omega) (by omega), q_cl (by omega), mrow_self, if_neg (by omega), r310]
              show f_X11_readPerson_L89 (mrow a1 (1, 0) (fun i => if 20 ≤ i ∧ i < 20 + N * V then nI 1 else r3 i)) (nI (N * V)) = _
              rw [f_X11_readPerson_L89, hw, Option.bind_some, if_pos (Int32.le_refl _), hjo]
              rfl
          refine ⟨_, ?_, rfl⟩
          rw [if_pos (show (0 : Int32) ≤ nI v from nI_le (a := 0) (by omega) (by omega)), ck1, ck1, ck10, l1, a11, m1, hv1, Option.bind_some, ck10, ck6, l10, v10, pk_mul, m2, hv2, Option.bind_some, ck6, l6, v6, pk_mul, nI_add, m3, ← hr3]
          exact hloop
        obtain ⟨af, eaf, haf⟩ := hlast
        refine ⟨af, k3, ln', kc + 0, ks + 0, V, n + 1, N * V, w0 * V + v, joR n N V w0 v r, nx T z b, ?_, ?_, G3, ⟨?_, ?_, ?_, S3, ⟨fun _ => EZ_joR hEz c1, by rw [joR_ne (by omega) (by omega) (by omega) (by omega)]; exact hE.2⟩⟩, ?_, ?_⟩
        · rw [qe, Option.bind_some]
          exact eaf
        · rw [e2, Option.bind_some, if_neg (show ¬ (nI 1, k2).1 = 0 by show ¬ nI 1 = 0; decide)]
          show (if k2 (6, 0) 12 = 0 then none else (ce (sh 2 ((k2 (6, 0) 12).toNatClampNeg - 1) = 1) ((f_X6_joinA sh ln ((k2 (6, 0) 12).toNatClampNeg - 1) k2 (μk (6, 0) 10)).bind fun x55 => addc x55.2.1 x55.2.2 (some (((1 : Int32), x55.1.2.1, x55.1.2.2), 0, 0))))) = _
          rw [if_neg X2.nz, X2.c, X2.s, n2, ej, Option.bind_some]
          rfl
        · rw [haf]; exact RS.set S3.1.1 _
        · rw [haf]; exact Q1.row (by omega) (by omega)
        · exact (K2.S F3).gr G3
        · rw [haf]
          refine qf.R.tr ⟨Fr.rf.mr (by decide), fun i _ _ _ _ => by rw [mrow_neA (by omega)]⟩
        · exact kf.F.V.tr F3.V
      · right
        refine ⟨a1, mst μk (6, 0) 7 (nI b), b, ?_, ?_, q15, wr7, qf.R, FrV.wr⟩
        · rw [qno c2]; rfl
        · rw [ht.2 c2]; rfl
    · right
      rw [if_neg (fun x => c1 (qn.mp x)), decide_eq_false c1, if_pos (show bI false = 0 from rfl)]
      exact ⟨μq, _, b0, rfl, rfl, h15, wr7, QR.rf, FrV.wr⟩
  · right
    rw [decide_eq_false c] at e1
    rw [decide_eq_true c, if_neg (show ¬ bI true = 0 by decide)]
    exact ⟨μq, _, b0, by rw [f_X11_readPerson, e1]; rfl, rfl, h15, wr7, QR.rf, FrV.wr⟩
end LNS
