-- acts: the reference
def AS : List Nat := [1, 8, 9, 10, 22, 23, 24]
def RACT (f : Option (Int32 × Mm)) (μ : Mm) (V n N w0 : Nat) (r' : Nat → Int32) (v : Int32) : Prop := ∃ a, f = some (v, a) ∧ RS a V n N w0 r' ∧ Fr AS μ a
section ACTQ
variable {μ : Mm} {V n N w0 : Nat} {r : Nat → Int32} {Λo : Option LW}
theorem q_notice (h : RS μ V n N w0 r) {p : Nat} (hp : p < n) : f_X11_notice μ (nI p) = some (nI (fig V n p w0)) := by
  have hb := h.2.b
  rw [f_X11_notice, q_here h, Option.bind_some, q_noticeIn h hp hb.2.2.2.2.2, Option.bind_some]
theorem q_treats (h : RS μ V n N w0 r) (hRL : LRw r Λo) {p q : Nat} (hp : p < n) (hq : q < n) (b : Bool) :
    RACT (f_X11_treats μ (nI p) (nI q) (bI b)) μ V n N w0 (trtR V n N w0 Λo b p q r) (mnn r Λo p q (cmm r Λo V n N p q w0)) := by
  have hb := h.2.b
  obtain ⟨a0, e0, hF0⟩ := q_mannerIn h hRL hp hq hb.2.2.2.2.2 h.2.h0
  have h0 := h.fr hF0 (by decide)
  obtain ⟨a1, e1, hF1, hM⟩ := q_mannersCome h0 hRL hp hq
  have h1 := h0.fr hF1 (by decide)
  have hF : Fr AS μ a1 := (hF0.mono (by decide)).tr (hF1.mono (by decide))
  have hh : ∃ x, Wh (fun z : Mm × Int32 => f_X11_treats_L21 (nI p) (nI q) (bI b) (mnn r Λo p q (cmm r Λo V n N p q w0)) z.1 z.2) (a1, (0 : Int32)) = some x ∧ ∃ a, x = (mnn r Λo p q (cmm r Λo V n N p q w0), a) ∧ RS a V n N w0 (trtR V n N w0 Λo b p q r) ∧ Fr AS μ a := by
    refine Wh_inv1 n (fun k s => ∃ a, s = (a, nI k) ∧ RS a V n N w0 (rtp b q N (cmm r Λo V n N p q) r k) ∧ Fr [1, 10] a1 a) _ ⟨a1, rfl, h1, Fr.rf⟩ ?_ ?_
    · rintro k _ hk ⟨a, rfl, hS, hFa⟩
      have er : rtp b q N (cmm r Λo V n N p q) r (k + 1) = if b = true ∨ k = q then rpt (cmm r Λo V n N p q) N k (rtp b q N (cmm r Λo V n N p q) r k) else rtp b q N (cmm r Λo V n N p q) r k := rfl
      by_cases c : b = true ∨ k = q
      · obtain ⟨T, e2⟩ := q_parts hS hk (cm := cmm r Λo V n N p q) (fun w hw hl => by
          rw [hFa 9 (by decide)]
          exact hM w hw (by rw [← rtp_lf h.2 (b := b) (q := q) (cm := cmm r Λo V n N p q) (k := k) (by omega) (by omega)]; exact hl)) (fun w _ => cmm_lt ⟨hb.1, hb.2.1⟩)
        rw [if_pos c] at er
        have e2' : f_X11_parts a (nI k) = some (mrow (mrow a (10, 0) T) (1, 0) (rpt (cmm r Λo V n N p q) N k (rtp b q N (cmm r Λo V n N p q) r k))) := e2
        refine ⟨(mrow (mrow a (10, 0) T) (1, 0) (rpt (cmm r Λo V n N p q) N k (rtp b q N (cmm r Λo V n N p q) r k)), nI (k + 1)), ?_, _, rfl, ?_, (hFa.mr (by decide)).mr (by decide)⟩
        · show f_X11_treats_L21 (nI p) (nI q) (bI b) (mnn r Λo p q (cmm r Λo V n N p q w0)) a (nI k) = _
          cases b
          · have c' : k = q := by rcases c with c | c; exact absurd c (by decide); exact c
            subst c'
            simp (disch := omega) only [Option.bind_some, Option.map_some, Option.bind_none, q_lit, nI_add, pk_mul, q_sub, q_addn, q_cl, q_le, q_lt, q_eq, q_ck, q_cd, q_cb0, q_cb1, q_div, q_rem, q_shl1, q_shr, q_and, q_or, q_tb, if_pos, if_neg, if_true, if_false, not_true, not_false_iff, eq_self, Bool.true_eq_false, Bool.false_eq_true, q_bI0, q_bI1, q_cbI, Nat.or_zero, mst_row, mrow_neA, mrow_neB, mrow_self, q_upd, f_X11_treats_L21, q_people hS, e2', bI_f]
          · simp (disch := omega) only [Option.bind_some, Option.map_some, Option.bind_none, q_lit, nI_add, pk_mul, q_sub, q_addn, q_cl, q_le, q_lt, q_eq, q_ck, q_cd, q_cb0, q_cb1, q_div, q_rem, q_shl1, q_shr, q_and, q_or, q_tb, if_pos, if_neg, if_true, if_false, not_true, not_false_iff, eq_self, Bool.true_eq_false, Bool.false_eq_true, q_bI0, q_bI1, q_cbI, Nat.or_zero, mst_row, mrow_neA, mrow_neB, mrow_self, q_upd, f_X11_treats_L21, q_people hS, e2', bI_t]
        · rw [er]
          exact RS.set (rpt_WF hS.2 hk _) _
      · rw [if_neg c] at er
        refine ⟨(a, nI (k + 1)), ?_, a, rfl, by rw [er]; exact hS, hFa⟩
        show f_X11_treats_L21 (nI p) (nI q) (bI b) (mnn r Λo p q (cmm r Λo V n N p q w0)) a (nI k) = _
        have cb : b = false := by cases b; rfl; exact absurd (Or.inl rfl) c
        subst cb
        have c' : ¬ k = q := fun e => c (Or.inr e)
        simp (disch := omega) only [Option.bind_some, Option.map_some, Option.bind_none, q_lit, nI_add, pk_mul, q_sub, q_addn, q_cl, q_le, q_lt, q_eq, q_ck, q_cd, q_cb0, q_cb1, q_div, q_rem, q_shl1, q_shr, q_and, q_or, q_tb, if_pos, if_neg, if_true, if_false, not_true, not_false_iff, eq_self, Bool.true_eq_false, Bool.false_eq_true, q_bI0, q_bI1, q_cbI, Nat.or_zero, mst_row, mrow_neA, mrow_neB, mrow_self, q_upd, f_X11_treats_L21, q_people hS, c', bI_f]
    · rintro _ ⟨a, rfl, hS, hFa⟩
      obtain ⟨a2, e2, hS2, hF2⟩ := q_tells hS (bI b) (nI p) (nI q) (mnn r Λo p q (cmm r Λo V n N p q w0))
      refine ⟨_, ?_, a2, rfl, hS2, (hF.tr (hFa.mono (by decide))).tr (hF2.mono (by decide))⟩
      show f_X11_treats_L21 (nI p) (nI q) (bI b) (mnn r Λo p q (cmm r Λo V n N p q w0)) a (nI n) = _
      have ele : (nI n ≤ nI n) := Int32.le_refl _
      rw [f_X11_treats_L21, q_people hS, Option.bind_some, if_pos ele]
      cases b
      · rw [if_pos (show bI false = 0 from rfl), show (0 : Int32) = bI false from rfl, e2]; rfl
      · rw [if_neg (show ¬ bI true = 0 by decide), show (1 : Int32) = bI true from rfl, e2]; rfl
  obtain ⟨_, e, a, rfl, hS, hFa⟩ := hh
  refine ⟨a, ?_, hS, hFa⟩
  rw [f_X11_treats, q_here h, Option.bind_some, e0, Option.bind_some, e1, Option.bind_some]
  exact e
theorem q_turnB (h : RS μ V n N w0 r) {p q : Nat} (hp : p < n) (hq : q < n) :
    RACT ((f_X11_seesFrom μ (nI p) (nI q)).bind fun x43 => (f_X11_notice x43 (nI q)).bind fun x52 => (f_X11_tells x43 (2 : Int32) (nI p) (nI q) x52).bind fun x55 => (f_X11_notice x55 (nI q)).bind fun x60 => some (x60, x55)) μ V n N w0
      (TL V n N w0 (nI 2) (nI p) (nI q) (nI (fig V n q w0)) (rpt (fig V n q) N p (rse p q r))) (nI (fig V n q w0)) := by
  obtain ⟨a1, e1, h1, hF1⟩ := q_seesFrom h hp hq
  obtain ⟨a2, e2, h2, hF2⟩ := q_tells h1 (nI 2) (nI p) (nI q) (nI (fig V n q w0))
  refine ⟨a2, ?_, h2, (hF1.mono (by decide)).tr (hF2.mono (by decide))⟩
  rw [e1, Option.bind_some, q_notice h1 hq, Option.bind_some, show (2 : Int32) = nI 2 from rfl, e2, Option.bind_some, q_notice h2 hq, Option.bind_some]
theorem q_readB (h : RS μ V n N w0 r) {p : Nat} (hp : p < n) :
    RACT ((f_X11_readsOut μ (nI p)).bind fun x26 => (f_X11_notice x26 (nI p)).bind fun x35 => (f_X11_tells x26 (5 : Int32) (nI p) (-1 : Int32) x35).bind fun x38 => (f_X11_notice x38 (nI p)).bind fun x43 => some (x43, x38)) μ V n N w0
      (TL V n N w0 (nI 5) (nI p) (-nI 1) (nI (fig V n p w0)) (drp (fun w => nI (fig V n p w)) N w0 r)) (nI (fig V n p w0)) := by
  obtain ⟨a1, e1, h1, hF1⟩ := q_readsOut h hp
  obtain ⟨a2, e2, h2, hF2⟩ := q_tells h1 (nI 5) (nI p) (-nI 1) (nI (fig V n p w0))
  refine ⟨a2, ?_, h2, (hF1.mono (by decide)).tr (hF2.mono (by decide))⟩
  rw [e1, Option.bind_some, q_notice h1 hp, Option.bind_some, show (5 : Int32) = nI 5 from rfl, show (-1 : Int32) = -nI 1 from rfl, e2, Option.bind_some, q_notice h2 hp, Option.bind_some]
theorem q_queryB (h : RS μ V n N w0 r) {p q v : Nat} (hp : p < n) (hq : q < n) (hv : v < V) :
    RACT ((f_X11_answersCome μ (nI p) (nI q) (nI v)).bind fun x58 => (f_X11_here x58).bind fun x66 => ck 512 x66 ((f_X11_drops x58).bind fun x73 => (f_X11_tells x73 (7 : Int32) (nI p) (nI q) (x58 (9, 0) x66.toNatClampNeg)).bind fun x83 => some ((x58 (9, 0) x66.toNatClampNeg), x83))) μ V n N w0
      (TL V n N w0 (nI 7) (nI p) (nI q) (nI (ans (poss (lf r) (lab r p) (fig V n q) N (lab r p w0)) v)) (drp (fun w => nI (ans (poss (lf r) (lab r p) (fig V n q) N (lab r p w)) v)) N w0 r)) (nI (ans (poss (lf r) (lab r p) (fig V n q) N (lab r p w0)) v)) := by
  have hb := h.2.b
  obtain ⟨R, C, e1, hC⟩ := q_answersCome h hp hq hv
  have h1 := (h.row (a := 8) (b := 0) R (by omega)).row (a := 9) (b := 0) C (by omega)
  have ed := q_drops h1
  rw [mrow_self, drp_congr h.2 (c := C) (c' := fun w => nI (ans (poss (lf r) (lab r p) (fig V n q) N (lab r p w)) v)) (fun w hw hl => by rw [hC w hw hl, hC w0 hb.2.2.2.2.2 h.2.h0])] at ed
  have h2 := RS.set (drp_WF (fun w => nI (ans (poss (lf r) (lab r p) (fig V n q) N (lab r p w)) v)) h.2) (mrow (mrow μ (8, 0) R) (9, 0) C)
  obtain ⟨a2, e2, h3, hF2⟩ := q_tells h2 (nI 7) (nI p) (nI q) (nI (ans (poss (lf r) (lab r p) (fig V n q) N (lab r p w0)) v))
  have eC : mrow (mrow μ (8, 0) R) (9, 0) C (9, 0) w0 = nI (ans (poss (lf r) (lab r p) (fig V n q) N (lab r p w0)) v) := by rw [mrow_self]; exact hC w0 hb.2.2.2.2.2 h.2.h0
  refine ⟨a2, ?_, h3, ((((Fr.rf (S := AS)).mr (by decide)).mr (by decide)).mr (by decide)).tr (hF2.mono (by decide))⟩
  rw [e1, Option.bind_some, q_here h1, Option.bind_some, q_ck (by omega) (by omega), q_cl (by omega), ed, Option.bind_some, eC, show (7 : Int32) = nI 7 from rfl, e2, Option.bind_some]
theorem q_dayB (h : RS μ V n N w0 r) :
    RACT ((f_X11_says μ).bind fun x10 => ck 7114 (4 : Int32) (ck 7114 (4 : Int32) ((f_X11_tells (mst x10.2 (1, 0) (4 : Int32).toNatClampNeg ((x10.2 (1, 0) (4 : Int32).toNatClampNeg) + (1 : Int32))) (4 : Int32) (-1 : Int32) (-1 : Int32) x10.1).bind fun x29 => some (x10.1, x29)))) μ V n N w0
      (TL V n N w0 (nI 4) (-nI 1) (-nI 1) (nI (suO r V n N w0 n)) (dayR V n N w0 r)) (nI (suO r V n N w0 n)) := by
  obtain ⟨a1, e1, h1, hF1⟩ := q_says h
  have eu : ∀ i, i ≠ 4 → dayR V n N w0 r i = drp (fun w => nI (suO r V n N w n)) N w0 r i := fun i hi => by unfold dayR; rw [q_upd, if_neg hi]
  have hW1 := h1.2
  have hlg := hW1.hlg
  have hW : WF V n N w0 (dayR V n N w0 r) := hW1.chg (fun i h0 _ => eu i (by omega)) (eu _ (by omega)) (eu _ (by omega)) (eu _ (by omega)) ⟨_, hlg.2, by rw [eu _ (by omega)]; exact hlg.1⟩ (by rw [eu _ (by omega)]; exact hW1.2.2.2.2.2.2.2.1) (by rw [eu _ (by omega)]; exact hW1.2.2.2.2.2.2.2.2.1) (by rw [eu _ (by omega)]; exact hW1.2.2.2.2.2.2.2.2.2)
  have em : mst a1 (1, 0) (4 : Int32).toNatClampNeg (a1 (1, 0) (4 : Int32).toNatClampNeg + (1 : Int32)) = mrow a1 (1, 0) (dayR V n N w0 r) := by
    have e4 : drp (fun w => nI (suO r V n N w n)) N w0 r 4 = r 4 := drp_ne (by omega)
    rw [show (4 : Int32).toNatClampNeg = 4 from rfl, mst_row, h1.1, e4]
    rfl
  have h2 := RS.set hW a1
  obtain ⟨a2, e2, h3, hF2⟩ := q_tells h2 (nI 4) (-nI 1) (-nI 1) (nI (suO r V n N w0 n))
  refine ⟨a2, ?_, h3, ((hF1.mono (by decide)).mr (by decide)).tr (hF2.mono (by decide))⟩
  rw [e1, Option.bind_some]
  show ck 7114 (4 : Int32) (ck 7114 (4 : Int32) ((f_X11_tells (mst a1 (1, 0) (4 : Int32).toNatClampNeg (a1 (1, 0) (4 : Int32).toNatClampNeg + (1 : Int32))) (4 : Int32) (-1 : Int32) (-1 : Int32) (nI (suO r V n N w0 n))).bind fun x29 => some (nI (suO r V n N w0 n), x29))) = _
  have eck : ∀ x : Option (Int32 × Mm), ck 7114 (4 : Int32) x = x := fun x => by rw [show (4 : Int32) = nI 4 from rfl, q_ck (by omega) (by omega)]
  rw [eck, eck, em, show (4 : Int32) = nI 4 from rfl, show (-1 : Int32) = -nI 1 from rfl, e2, Option.bind_some]
theorem q_askB (h : RS μ V n N w0 r) {p : Nat} (hp : p < n) :
    RACT ((f_X11_lays μ (nI p) (nI p)).bind fun x27 => Wh (fun z : Mm × Int32 => f_X11_ask_L32 (nI p) z.1 z.2) (x27, (0 : Int32))) μ V n N w0
      (TL V n N w0 (nI 3) (nI p) (-nI 1) (bI (suR r V n N p w0)) (drp (fun w => bI (suR r V n N p w)) N w0 r)) (bI (suR r V n N p w0)) := by
  have hb := h.2.b
  obtain ⟨_, e0, R, rfl, hR⟩ := q_lays h hp hp
  have hh : ∃ x, Wh (fun z : Mm × Int32 => f_X11_ask_L32 (nI p) z.1 z.2) (mrow μ (8, 0) R, (0 : Int32)) = some x ∧ ∃ a, x = (bI (suR r V n N p w0), a) ∧ RS a V n N w0 (TL V n N w0 (nI 3) (nI p) (-nI 1) (bI (suR r V n N p w0)) (drp (fun w => bI (suR r V n N p w)) N w0 r)) ∧ Fr AS μ a := by
    refine Wh_inv1 N (fun k s => ∃ C, s = (mrow (mrow μ (8, 0) R) (9, 0) C, nI k) ∧ ∀ w, w < k → lf r w = true → C w = bI (suR r V n N p w)) _ ⟨μ (9, 0), by rw [show μ (9, 0) = mrow μ (8, 0) R (9, 0) from (mrow_neA (by omega)).symm, mrow_id]; rfl, fun w hw => by omega⟩ ?_ ?_
    · rintro k _ hk ⟨C, rfl, hC⟩
      have h' := (h.row (a := 8) (b := 0) R (by omega)).row (a := 9) (b := 0) C (by omega)
      have hCu : ∀ x, (lf r k = true → x = bI (suR r V n N p k)) → ∀ w, w < k + 1 → lf r w = true → upd C k x w = bI (suR r V n N p w) := fun x hx w hw hl => by
        rw [q_upd]
        by_cases e : w = k
        · rw [if_pos e, e]; rw [e] at hl; exact hx hl
        · rw [if_neg e]; exact hC w (by omega) hl
      by_cases c : lf r k = true
      · have hl := (h.2.hb hp hk).2
        have h16 : poss (lf r) (lab r p) (fig V n p) N (lab r p k) < 16 := poss_16 ⟨hb.1, hb.2.1⟩
        have hs1 : one (poss (lf r) (lab r p) (fig V n p) N (lab r p k)) = suR r V n N p k := one_sur (poss_ne0 hk c)
        refine ⟨(mrow (mrow μ (8, 0) R) (9, 0) (upd C k (bI (suR r V n N p k))), nI (k + 1)), ?_, _, rfl, hCu _ (fun _ => rfl)⟩
        show f_X11_ask_L32 (nI p) (mrow (mrow μ (8, 0) R) (9, 0) C) (nI k) = _
        cases hsu : suR r V n N p k
        · rw [hsu] at hs1
          simp (disch := omega) only [Option.bind_some, Option.map_some, Option.bind_none, q_lit, nI_add, pk_mul, q_sub, q_addn, q_cl, q_le, q_lt, q_eq, q_ck, q_cd, q_cb0, q_cb1, q_div, q_rem, q_shl1, q_shr, q_and, q_or, q_tb, if_pos, if_neg, if_true, if_false, not_true, not_false_iff, eq_self, Bool.true_eq_false, Bool.false_eq_true, q_bI0, q_bI1, q_cbI, Nat.or_zero, mst_row, mrow_neA, mrow_neB, mrow_self, q_upd, f_X11_ask_L32, q_worlds h', q_isLeft h' hk, c, q_label h' hp hk, hR (lab r p k) (by omega), q_isOne (show poss (lf r) (lab r p) (fig V n p) N (lab r p k) < 2147483648 by omega), hs1, mrow_mrow, bI_f]
        · rw [hsu] at hs1
          simp (disch := omega) only [Option.bind_some, Option.map_some, Option.bind_none, q_lit, nI_add, pk_mul, q_sub, q_addn, q_cl, q_le, q_lt, q_eq, q_ck, q_cd, q_cb0, q_cb1, q_div, q_rem, q_shl1, q_shr, q_and, q_or, q_tb, if_pos, if_neg, if_true, if_false, not_true, not_false_iff, eq_self, Bool.true_eq_false, Bool.false_eq_true, q_bI0, q_bI1, q_cbI, Nat.or_zero, mst_row, mrow_neA, mrow_neB, mrow_self, q_upd, f_X11_ask_L32, q_worlds h', q_isLeft h' hk, c, q_label h' hp hk, hR (lab r p k) (by omega), q_isOne (show poss (lf r) (lab r p) (fig V n p) N (lab r p k) < 2147483648 by omega), hs1, mrow_mrow, bI_t]
      · have c' := Bool.not_eq_true _ ▸ c
        refine ⟨(mrow (mrow μ (8, 0) R) (9, 0) (upd C k (nI 0)), nI (k + 1)), ?_, _, rfl, hCu _ (fun e => absurd e c)⟩
        show f_X11_ask_L32 (nI p) (mrow (mrow μ (8, 0) R) (9, 0) C) (nI k) = _
        simp (disch := omega) only [Option.bind_some, Option.map_some, Option.bind_none, q_lit, nI_add, pk_mul, q_sub, q_addn, q_cl, q_le, q_lt, q_eq, q_ck, q_cd, q_cb0, q_cb1, q_div, q_rem, q_shl1, q_shr, q_and, q_or, q_tb, if_pos, if_neg, if_true, if_false, not_true, not_false_iff, eq_self, Bool.true_eq_false, Bool.false_eq_true, q_bI0, q_bI1, q_cbI, Nat.or_zero, mst_row, mrow_neA, mrow_neB, mrow_self, q_upd, f_X11_ask_L32, q_worlds h', q_isLeft h' hk, c', mrow_mrow, bI_f]
    · rintro _ ⟨C, rfl, hC⟩
      have h' := (h.row (a := 8) (b := 0) R (by omega)).row (a := 9) (b := 0) C (by omega)
      have ed := q_drops h'
      rw [mrow_self, drp_congr h.2 (c := C) (c' := fun w => bI (suR r V n N p w)) (fun w hw hl => by rw [hC w hw hl, hC w0 hb.2.2.2.2.2 h.2.h0])] at ed
      have h2 := RS.set (drp_WF (fun w => bI (suR r V n N p w)) h.2) (mrow (mrow μ (8, 0) R) (9, 0) C)
      obtain ⟨a2, e2, h3, hF2⟩ := q_tells h2 (nI 3) (nI p) (-nI 1) (bI (suR r V n N p w0))
      have eC : C w0 = bI (suR r V n N p w0) := hC w0 hb.2.2.2.2.2 h.2.h0
      refine ⟨_, ?_, a2, rfl, h3, ((((Fr.rf (S := AS)).mr (by decide)).mr (by decide)).mr (by decide)).tr (hF2.mono (by decide))⟩
      show f_X11_ask_L32 (nI p) (mrow (mrow μ (8, 0) R) (9, 0) C) (nI N) = _
      cases hsu : suR r V n N p w0
      · rw [hsu] at eC e2
        have e2' : f_X11_tells (mrow (mrow (mrow μ (8, 0) R) (9, 0) C) (1, 0) (drp (fun w => bI (suR r V n N p w)) N w0 r)) (nI 3) (nI p) (-nI 1) (nI 0) = some a2 := e2
        simp (disch := omega) only [Option.bind_some, Option.map_some, Option.bind_none, q_lit, nI_add, pk_mul, q_sub, q_addn, q_cl, q_le, q_lt, q_eq, q_ck, q_cd, q_cb0, q_cb1, q_div, q_rem, q_shl1, q_shr, q_and, q_or, q_tb, if_pos, if_neg, if_true, if_false, not_true, not_false_iff, eq_self, Bool.true_eq_false, Bool.false_eq_true, q_bI0, q_bI1, q_cbI, Nat.or_zero, mst_row, mrow_neA, mrow_neB, mrow_self, q_upd, f_X11_ask_L32, f_X11_ask_J100, q_worlds h', Nat.le_refl, q_here h', eC, ed, e2', bI_f]
      · rw [hsu] at eC e2
        have e2' : f_X11_tells (mrow (mrow (mrow μ (8, 0) R) (9, 0) C) (1, 0) (drp (fun w => bI (suR r V n N p w)) N w0 r)) (nI 3) (nI p) (-nI 1) (nI 1) = some a2 := e2
        simp (disch := omega) only [Option.bind_some, Option.map_some, Option.bind_none, q_lit, nI_add, pk_mul, q_sub, q_addn, q_cl, q_le, q_lt, q_eq, q_ck, q_cd, q_cb0, q_cb1, q_div, q_rem, q_shl1, q_shr, q_and, q_or, q_tb, if_pos, if_neg, if_true, if_false, not_true, not_false_iff, eq_self, Bool.true_eq_false, Bool.false_eq_true, q_bI0, q_bI1, q_cbI, Nat.or_zero, mst_row, mrow_neA, mrow_neB, mrow_self, q_upd, f_X11_ask_L32, f_X11_ask_J100, q_worlds h', Nat.le_refl, q_here h', eC, ed, e2', bI_t]
  obtain ⟨_, e, a, rfl, hS, hFa⟩ := hh
  exact ⟨a, by rw [e0, Option.bind_some]; exact e, hS, hFa⟩
theorem q_claimB (h : RS μ V n N w0 r) {m v : Nat} (hm : m < 10) (hv2 : v < V) :
    RACT (Wh (fun z : Mm × Int32 => f_X11_claim_L89 (nI m) (nI v) z.1 z.2) (μ, (0 : Int32))) μ V n N w0
      (TL V n N w0 (nI 6) (nI v) (-nI 1) (nI m) (drp (fun w => bI (decide (m ≤ hv V n v w n))) N w0 r)) (nI (hv V n v w0 n)) := by
  have hb := h.2.b
  have hh : ∃ x, Wh (fun z : Mm × Int32 => f_X11_claim_L89 (nI m) (nI v) z.1 z.2) (μ, (0 : Int32)) = some x ∧ ∃ a, x = (nI (hv V n v w0 n), a) ∧ RS a V n N w0 (TL V n N w0 (nI 6) (nI v) (-nI 1) (nI m) (drp (fun w => bI (decide (m ≤ hv V n v w n))) N w0 r)) ∧ Fr AS μ a := by
    refine Wh_inv1 N (fun k s => ∃ C, s = (mrow μ (9, 0) C, nI k) ∧ ∀ w, w < k → C w = bI (decide (m ≤ hv V n v w n))) _ ⟨μ (9, 0), by rw [mrow_id]; rfl, fun w hw => by omega⟩ ?_ ?_
    · rintro k _ hk ⟨C, rfl, hC⟩
      have h' := h.row (a := 9) (b := 0) C (by omega)
      have hl := hv_le V n v k n
      refine ⟨(mrow μ (9, 0) (upd C k (bI (decide (m ≤ hv V n v k n)))), nI (k + 1)), ?_, _, rfl, fun w hw => ?_⟩
      · show f_X11_claim_L89 (nI m) (nI v) (mrow μ (9, 0) C) (nI k) = _
        by_cases c : m ≤ hv V n v k n
        · rw [decide_eq_true c]
          simp (disch := omega) only [Option.bind_some, Option.map_some, Option.bind_none, q_lit, nI_add, pk_mul, q_sub, q_addn, q_cl, q_le, q_lt, q_eq, q_ck, q_cd, q_cb0, q_cb1, q_div, q_rem, q_shl1, q_shr, q_and, q_or, q_tb, if_pos, if_neg, if_true, if_false, not_true, not_false_iff, eq_self, Bool.true_eq_false, Bool.false_eq_true, q_bI0, q_bI1, q_cbI, Nat.or_zero, mst_row, mrow_neA, mrow_neB, mrow_self, q_upd, f_X11_claim_L89, q_worlds h', q_haveIn h' hk (show v < 2147483648 by omega), mrow_mrow, bI_t]
        · rw [decide_eq_false c]
          simp (disch := omega) only [Option.bind_some, Option.map_some, Option.bind_none, q_lit, nI_add, pk_mul, q_sub, q_addn, q_cl, q_le, q_lt, q_eq, q_ck, q_cd, q_cb0, q_cb1, q_div, q_rem, q_shl1, q_shr, q_and, q_or, q_tb, if_pos, if_neg, if_true, if_false, not_true, not_false_iff, eq_self, Bool.true_eq_false, Bool.false_eq_true, q_bI0, q_bI1, q_cbI, Nat.or_zero, mst_row, mrow_neA, mrow_neB, mrow_self, q_upd, f_X11_claim_L89, q_worlds h', q_haveIn h' hk (show v < 2147483648 by omega), mrow_mrow, bI_f]
      · rw [q_upd]
        by_cases e : w = k
        · rw [if_pos e, e]
        · rw [if_neg e]; exact hC w (by omega)
    · rintro _ ⟨C, rfl, hC⟩
      have h' := h.row (a := 9) (b := 0) C (by omega)
      have ed := q_drops h'
      rw [mrow_self, drp_congr h.2 (c := C) (c' := fun w => bI (decide (m ≤ hv V n v w n))) (fun w hw hl => by rw [hC w hw, hC w0 hb.2.2.2.2.2])] at ed
      have h2 := RS.set (drp_WF (fun w => bI (decide (m ≤ hv V n v w n))) h.2) (mrow μ (9, 0) C)
      obtain ⟨a2, e2, h3, hF2⟩ := q_tells h2 (nI 6) (nI v) (-nI 1) (nI m)
      refine ⟨_, ?_, a2, rfl, h3, (((Fr.rf (S := AS)).mr (by decide)).mr (by decide)).tr (hF2.mono (by decide))⟩
      show f_X11_claim_L89 (nI m) (nI v) (mrow μ (9, 0) C) (nI N) = _
      simp (disch := omega) only [Option.bind_some, Option.map_some, Option.bind_none, q_lit, nI_add, pk_mul, q_sub, q_addn, q_cl, q_le, q_lt, q_eq, q_ck, q_cd, q_cb0, q_cb1, q_div, q_rem, q_shl1, q_shr, q_and, q_or, q_tb, if_pos, if_neg, if_true, if_false, not_true, not_false_iff, eq_self, Bool.true_eq_false, Bool.false_eq_true, q_bI0, q_bI1, q_cbI, Nat.or_zero, mst_row, mrow_neA, mrow_neB, mrow_self, q_upd, f_X11_claim_L89, q_worlds h', Nat.le_refl, ed, e2, q_here h3, q_haveIn h3 hb.2.2.2.2.2 (show v < 2147483648 by omega)]
  obtain ⟨_, e, a, rfl, hS, hFa⟩ := hh
  exact ⟨a, e, hS, hFa⟩
end ACTQ
