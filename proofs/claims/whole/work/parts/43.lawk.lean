-- the class's law: one row of code
def cs (s m : Nat) : Nat := if s ≤ 5 then 1000 + s else if s = 6 then m else 1993 + s
/-- the class's code row i holds it, lines beginning at b -/
def LWk (sh : Sh) (μ : Mm) (i : Nat) (Λ : LW) (b : Nat → Nat) : Prop :=
  sh 1 i = b Λ.1 ∧ b Λ.1 ≤ 512 ∧ b 0 = 0 ∧ μ (14, i) 1 = nI Λ.1 ∧ ∀ k, k < Λ.1 →
    b (k + 1) = b k + (Λ.2.2.1 (k + 1) - Λ.2.2.1 k) + (if Λ.2.2.1 k = Λ.2.2.1 (k + 1) then 1 else 0) + 2 ∧
    (∀ t, t < Λ.2.2.1 (k + 1) - Λ.2.2.1 k → μ (15, i) (b k + t) = nI (cs (Λ.2.2.2.1 (Λ.2.2.1 k + t)) (Λ.2.2.2.2 (Λ.2.2.1 k + t)))) ∧
    (Λ.2.2.1 k = Λ.2.2.1 (k + 1) → μ (15, i) (b k) = nI 1) ∧
    μ (15, i) (b k + (Λ.2.2.1 (k + 1) - Λ.2.2.1 k) + (if Λ.2.2.1 k = Λ.2.2.1 (k + 1) then 1 else 0)) = nI (Λ.2.1 k) ∧
    μ (15, i) (b k + (Λ.2.2.1 (k + 1) - Λ.2.2.1 k) + (if Λ.2.2.1 k = Λ.2.2.1 (k + 1) then 1 else 0) + 1) = nI 2006
theorem LWk_mono {sh : Sh} {μ : Mm} {i : Nat} {Λ : LW} {b : Nat → Nat} (h : LWk sh μ i Λ b) {k : Nat} (hk : k ≤ Λ.1) : b k ≤ b Λ.1 := by
  obtain ⟨d, hd⟩ : ∃ d, d = Λ.1 - k := ⟨_, rfl⟩
  induction d generalizing k with
  | zero => rw [show k = Λ.1 by omega]; exact Nat.le_refl _
  | succ d ih =>
    have h1 := (h.2.2.2.2 k (by omega)).1
    have h2 := ih (k := k + 1) (by omega) (by omega)
    omega
theorem k_join7 {a b : Int32} : f_X2_joined (nI 2000) a b = some (a + b) := by
  simp (disch := omega) only [Option.bind_some, Option.map_some, Option.bind_none, q_lit, nI_add, pk_mul, q_sub, q_addn, q_cl, q_le, q_lt, q_eq, q_ck, q_cd, q_cb0, q_cb1, q_div, q_rem, q_shl1, q_shr, q_and, q_or, q_tb, if_pos, if_neg, if_true, if_false, not_true, not_false_iff, eq_self, Bool.true_eq_false, Bool.false_eq_true, q_bI0, q_bI1, q_cbI, Nat.or_zero, mst_row, mrow_neA, mrow_neB, mrow_self, q_upd, f_X2_joined]
theorem k_join8 {a b : Int32} : f_X2_joined (nI 2001) a b = some (bI (decide (a < b))) := by
  unfold f_X2_joined
  rw [if_neg (by decide), if_pos (by decide)]
  by_cases c : a < b
  · rw [decide_eq_true c, if_neg (by rw [nle_of_lt]; exact fun e => e c)]; rfl
  · rw [decide_eq_false c, if_pos (by rw [nle_of_lt]; exact c)]; rfl
theorem k_join9 {a b : Int32} : f_X2_joined (nI 2002) a b = some (bI (decide (b < a))) := by
  unfold f_X2_joined
  rw [if_neg (by decide), if_neg (by decide), if_pos (by decide)]
  by_cases c : b < a
  · rw [decide_eq_true c, if_neg (by rw [nle_of_lt]; exact fun e => e c)]; rfl
  · rw [decide_eq_false c, if_pos (by rw [nle_of_lt]; exact c)]; rfl
theorem k_join11 {a b : Int32} (ha : is01 a) (hb : is01 b) : f_X2_joined (nI 2004) a b = some (bI (decide (a + b = nI 2))) := by
  rw [← (and01 ha hb).1]
  simp (disch := omega) only [Option.bind_some, Option.map_some, Option.bind_none, q_lit, nI_add, pk_mul, q_sub, q_addn, q_cl, q_le, q_lt, q_eq, q_ck, q_cd, q_cb0, q_cb1, q_div, q_rem, q_shl1, q_shr, q_and, q_or, q_tb, if_pos, if_neg, if_true, if_false, not_true, not_false_iff, eq_self, Bool.true_eq_false, Bool.false_eq_true, q_bI0, q_bI1, q_cbI, Nat.or_zero, mst_row, mrow_neA, mrow_neB, mrow_self, q_upd, f_X2_joined]
theorem k_join12 {a b : Int32} (ha : is01 a) (hb : is01 b) : f_X2_joined (nI 2005) a b = some (bI (decide (¬ (a + b ≤ nI 0)))) := by
  rw [← (and01 ha hb).2]
  simp (disch := omega) only [Option.bind_some, Option.map_some, Option.bind_none, q_lit, nI_add, pk_mul, q_sub, q_addn, q_cl, q_le, q_lt, q_eq, q_ck, q_cd, q_cb0, q_cb1, q_div, q_rem, q_shl1, q_shr, q_and, q_or, q_tb, if_pos, if_neg, if_true, if_false, not_true, not_false_iff, eq_self, Bool.true_eq_false, Bool.false_eq_true, q_bI0, q_bI1, q_cbI, Nat.or_zero, mst_row, mrow_neA, mrow_neB, mrow_self, q_upd, f_X2_joined]
section LAWK
variable {sh : Sh} {ln : Nat → Nat} {μ : Mm} {i : Nat} {Λ : LW} {b : Nat → Nat} {E : Nat → Int32}
theorem k_lstep (hL : LN ln) (hW : LWk sh μ i Λ b) (hT : LWt Λ) (hE : ∀ q, q < 6 → μ (12, 8) q = E q) (E4 : is01 (E 4)) (E5 : is01 (E 5)) {k t : Nat} (hk : k < Λ.1) (ht : t < Λ.2.2.1 (k + 1) - Λ.2.2.1 k)
    {R : Nat → Int32} (hrep : rep R (evR Λ E k t)) (v0 : Int32) : ∃ R', f_X2_total_L8 sh ln i 8 9 (mrow μ (12, 9) R) v0 (nI (evR Λ E k t).length) (nI (b k + t)) = some (.inl (mrow μ (12, 9) R', v0, nI (evR Λ E k (t + 1)).length, nI (b k + (t + 1)))) ∧ rep R' (evR Λ E k (t + 1)) := by
  have hl8 : ln 8 = 6 := hL.2.2.2.2.2.2.2.2.1
  have hl9 : ln 9 = 64 := hL.2.2.2.2.2.2.2.2.2.1
  obtain ⟨hsz, h512, hb0, _, hlines⟩ := hW
  have hW : LWk sh μ i Λ b := ⟨hsz, h512, hb0, ‹_›, hlines⟩
  have hkk := hlines k hk
  have hbm := LWk_mono hW (show k + 1 ≤ Λ.1 by omega)
  have hfk := LW_mono hT (show k + 1 ≤ Λ.1 by omega)
  have hcode := hkk.2.1 t ht
  obtain ⟨s, hs⟩ : ∃ s, s = Λ.2.2.2.1 (Λ.2.2.1 k + t) := ⟨_, rfl⟩
  obtain ⟨m, hm⟩ : ∃ m, m = Λ.2.2.2.2 (Λ.2.2.1 k + t) := ⟨_, rfl⟩
  have hst := hT.2.2.2.2.1 (Λ.2.2.1 k + t) (by omega)
  obtain ⟨l', hl', hlen'⟩ := (hT.2.2.2.2.2 k hk).2 (t + 1) (by omega)
  obtain ⟨l, hl, hty⟩ := Option.bind_eq_some_iff.mp hl'
  obtain ⟨l2, hl2, hlen⟩ := (hT.2.2.2.2.2 k hk).2 t (by omega)
  rw [hl] at hl2
  cases hl2
  have hok := evR_ok (E := E) E4 E5 k t l hl
  have hlv := tyOk_len hok
  have ev : evR Λ E k (t + 1) = evN E s m (evR Λ E k t) := by rw [hs, hm]; rfl
  rw [ev]
  rw [← hs] at hty
  rw [← hs, ← hm] at hst hcode
  obtain ⟨v, hv⟩ : ∃ v, v = evR Λ E k t := ⟨_, rfl⟩
  rw [← hv] at hrep hok hlv ⊢
  obtain ⟨c, hc⟩ : ∃ c, c = b k + t := ⟨_, rfl⟩
  rw [show b k + (t + 1) = c + 1 by omega, ← hc]
  rw [← hc] at hcode
  have hcs : c < sh 1 i := by omega
  have hs5 : sh 1 i ≤ 512 := by omega
  have hvl : v.length ≤ 40 := by omega
  rcases tyN_inv hty with ⟨hs3, rfl⟩ | ⟨hs3, rfl⟩ | ⟨hs3, rfl⟩ | ⟨hs3, u, rfl, rfl⟩ | ⟨hs3, u, rfl, rfl⟩ | ⟨hs3, u, rfl, rfl⟩ | ⟨hs3, u, rfl, rfl⟩
  · have ee : evN E s m v = E s :: v := by unfold evN; rw [if_pos (by omega)]
    refine ⟨upd R v.length (E s), ?_, by rw [ee]; exact rep_push hrep⟩
    have hcc : cs s m = 1000 + s := if_pos (by omega)
    rw [ee]
    rw [hcc] at hcode
    have ea : f_X1_at sh ln 8 (mrow μ (12, 9) R) (nI s) = some (E s) := by rw [k_at (by omega) (by omega), mrow_neB (by omega), hE s (by omega)]
    have ep : f_X1_put sh ln 9 (mrow μ (12, 9) R) (nI v.length) (E s) = some (mrow μ (12, 9) (upd R v.length (E s))) := by rw [k_put (by omega) (by omega), mrow_mrow, mrow_self]
    have e1 : nI (1000 + s) - nI 1000 = nI s := by rw [q_sub (by omega), Nat.add_sub_cancel_left]
    simp (disch := omega) only [Option.bind_some, Option.map_some, Option.bind_none, q_lit, nI_add, pk_mul, q_sub, q_addn, q_cl, q_le, q_lt, q_eq, q_ck, q_cd, q_cb0, q_cb1, q_div, q_rem, q_shl1, q_shr, q_and, q_or, q_tb, if_pos, if_neg, if_true, if_false, not_true, not_false_iff, eq_self, Bool.true_eq_false, Bool.false_eq_true, q_bI0, q_bI1, q_cbI, Nat.or_zero, mst_row, mrow_neA, mrow_neB, mrow_self, q_upd, f_X2_total_L8, hcode, e1, ea, ep, List.length_cons]
  · have ee : evN E s m v = E s :: v := by unfold evN; rw [if_pos (by omega)]
    refine ⟨upd R v.length (E s), ?_, by rw [ee]; exact rep_push hrep⟩
    have hcc : cs s m = 1000 + s := if_pos (by omega)
    rw [ee]
    rw [hcc] at hcode
    have ea : f_X1_at sh ln 8 (mrow μ (12, 9) R) (nI s) = some (E s) := by rw [k_at (by omega) (by omega), mrow_neB (by omega), hE s (by omega)]
    have ep : f_X1_put sh ln 9 (mrow μ (12, 9) R) (nI v.length) (E s) = some (mrow μ (12, 9) (upd R v.length (E s))) := by rw [k_put (by omega) (by omega), mrow_mrow, mrow_self]
    have e1 : nI (1000 + s) - nI 1000 = nI s := by rw [q_sub (by omega), Nat.add_sub_cancel_left]
    simp (disch := omega) only [Option.bind_some, Option.map_some, Option.bind_none, q_lit, nI_add, pk_mul, q_sub, q_addn, q_cl, q_le, q_lt, q_eq, q_ck, q_cd, q_cb0, q_cb1, q_div, q_rem, q_shl1, q_shr, q_and, q_or, q_tb, if_pos, if_neg, if_true, if_false, not_true, not_false_iff, eq_self, Bool.true_eq_false, Bool.false_eq_true, q_bI0, q_bI1, q_cbI, Nat.or_zero, mst_row, mrow_neA, mrow_neB, mrow_self, q_upd, f_X2_total_L8, hcode, e1, ea, ep, List.length_cons]
  · have ee : evN E s m v = nI m :: v := by unfold evN; rw [if_neg (by omega), if_pos hs3]
    refine ⟨upd R v.length (nI m), ?_, by rw [ee]; exact rep_push hrep⟩
    have hcc : cs s m = m := by unfold cs; rw [if_neg (by omega), if_pos hs3]
    rw [ee]
    rw [hcc] at hcode
    have ep : f_X1_put sh ln 9 (mrow μ (12, 9) R) (nI v.length) (nI m) = some (mrow μ (12, 9) (upd R v.length (nI m))) := by rw [k_put (by omega) (by omega), mrow_mrow, mrow_self]
    simp (disch := omega) only [Option.bind_some, Option.map_some, Option.bind_none, q_lit, nI_add, pk_mul, q_sub, q_addn, q_cl, q_le, q_lt, q_eq, q_ck, q_cd, q_cb0, q_cb1, q_div, q_rem, q_shl1, q_shr, q_and, q_or, q_tb, if_pos, if_neg, if_true, if_false, not_true, not_false_iff, eq_self, Bool.true_eq_false, Bool.false_eq_true, q_bI0, q_bI1, q_cbI, Nat.or_zero, mst_row, mrow_neA, mrow_neB, mrow_self, q_upd, f_X2_total_L8, hcode, ep, List.length_cons]
  · obtain ⟨x, w, rfl, hx, hw⟩ := tyOk_c hok
    have ee : evN E s m (x :: w) = (nI 1 - x) :: w := by unfold evN; rw [if_neg (by omega), if_neg (by omega), if_pos hs3]
    have r0 : R w.length = x := hrep.1
    refine ⟨upd R w.length (nI 1 - x), ?_, by rw [ee]; exact rep_push hrep.2⟩
    have hcc : cs s m = 2003 := by unfold cs; rw [if_neg (by omega), if_neg (by omega)]; omega
    rw [ee]
    rw [hcc] at hcode
    rw [List.length_cons] at hvl ⊢
    have l1 : nI (w.length + 1) - nI 1 = nI w.length := by rw [q_sub (by omega)]; rfl
    have ea : f_X1_at sh ln 9 (mrow μ (12, 9) R) (nI w.length) = some x := by rw [k_at (by omega) (by omega), mrow_self, r0]
    have ep : f_X1_put sh ln 9 (mrow μ (12, 9) R) (nI w.length) (nI 1 - x) = some (mrow μ (12, 9) (upd R w.length (nI 1 - x))) := by rw [k_put (by omega) (by omega), mrow_mrow, mrow_self]
    simp (disch := omega) only [Option.bind_some, Option.map_some, Option.bind_none, q_lit, nI_add, pk_mul, q_sub, q_addn, q_cl, q_le, q_lt, q_eq, q_ck, q_cd, q_cb0, q_cb1, q_div, q_rem, q_shl1, q_shr, q_and, q_or, q_tb, if_pos, if_neg, if_true, if_false, not_true, not_false_iff, eq_self, Bool.true_eq_false, Bool.false_eq_true, q_bI0, q_bI1, q_cbI, Nat.or_zero, mst_row, mrow_neA, mrow_neB, mrow_self, q_upd, f_X2_total_L8, hcode, l1, ea, ep, List.length_cons]
  · obtain ⟨y, w, rfl, hx, hw⟩ := tyOk_c hok
    obtain ⟨a, w, rfl, hy, hw⟩ := tyOk_c hw
    have ee : evN E s m (y :: a :: w) = (a + y) :: w := by unfold evN; rw [if_neg (by omega), if_neg (by omega), if_neg (by omega)]; simp [hs3]
    have r0 : R (w.length + 1) = y := hrep.1
    have r1 : R w.length = a := hrep.2.1
    refine ⟨upd R w.length (a + y), ?_, by rw [ee]; exact rep_push hrep.2.2⟩
    have hcc : cs s m = 2000 := by unfold cs; rw [if_neg (by omega), if_neg (by omega)]; omega
    rw [ee]
    rw [hcc] at hcode
    rw [List.length_cons, List.length_cons] at hvl ⊢
    have l1 : nI (w.length + 1 + 1) + -nI 1 = nI (w.length + 1) := by rw [q_addn (by omega)]; rfl
    have l2 : nI (w.length + 1 + 1) - nI 1 = nI (w.length + 1) := by rw [q_sub (by omega)]; rfl
    have l3 : nI (w.length + 1 + 1) - nI 2 = nI w.length := by rw [q_sub (by omega)]; rfl
    have ea : f_X1_at sh ln 9 (mrow μ (12, 9) R) (nI w.length) = some a := by rw [k_at (by omega) (by omega), mrow_self, r1]
    have eb : f_X1_at sh ln 9 (mrow μ (12, 9) R) (nI (w.length + 1)) = some y := by rw [k_at (by omega) (by omega), mrow_self, r0]
    have ep : f_X1_put sh ln 9 (mrow μ (12, 9) R) (nI w.length) (a + y) = some (mrow μ (12, 9) (upd R w.length (a + y))) := by rw [k_put (by omega) (by omega), mrow_mrow, mrow_self]
    simp (disch := omega) only [Option.bind_some, Option.map_some, Option.bind_none, q_lit, nI_add, pk_mul, q_sub, q_addn, q_cl, q_le, q_lt, q_eq, q_ck, q_cd, q_cb0, q_cb1, q_div, q_rem, q_shl1, q_shr, q_and, q_or, q_tb, if_pos, if_neg, if_true, if_false, not_true, not_false_iff, eq_self, Bool.true_eq_false, Bool.false_eq_true, q_bI0, q_bI1, q_cbI, Nat.or_zero, mst_row, mrow_neA, mrow_neB, mrow_self, q_upd, f_X2_total_L8, hcode, l1, l2, l3, ea, eb, k_join7, ep, List.length_cons]
  · obtain ⟨y, w, rfl, hx, hw⟩ := tyOk_c hok
    obtain ⟨a, w, rfl, hy, hw⟩ := tyOk_c hw
    have r0 : R (w.length + 1) = y := hrep.1
    have r1 : R w.length = a := hrep.2.1
    rw [List.length_cons, List.length_cons] at hvl
    have l1 : nI (w.length + 1 + 1) + -nI 1 = nI (w.length + 1) := by rw [q_addn (by omega)]; rfl
    have l2 : nI (w.length + 1 + 1) - nI 1 = nI (w.length + 1) := by rw [q_sub (by omega)]; rfl
    have l3 : nI (w.length + 1 + 1) - nI 2 = nI w.length := by rw [q_sub (by omega)]; rfl
    have ea : f_X1_at sh ln 9 (mrow μ (12, 9) R) (nI w.length) = some a := by rw [k_at (by omega) (by omega), mrow_self, r1]
    have eb : f_X1_at sh ln 9 (mrow μ (12, 9) R) (nI (w.length + 1)) = some y := by rw [k_at (by omega) (by omega), mrow_self, r0]
    have ep : ∀ z, f_X1_put sh ln 9 (mrow μ (12, 9) R) (nI w.length) z = some (mrow μ (12, 9) (upd R w.length z)) := fun z => by rw [k_put (by omega) (by omega), mrow_mrow, mrow_self]
    rcases hs3 with hs3 | hs3
    · have ee : evN E s m (y :: a :: w) = bI (decide (a < y)) :: w := by unfold evN; rw [if_neg (by omega), if_neg (by omega), if_neg (by omega)]; simp [hs3]
      refine ⟨upd R w.length (bI (decide (a < y))), ?_, by rw [ee]; exact rep_push hrep.2.2⟩
      have hcc : cs s m = 2001 := by unfold cs; rw [if_neg (by omega), if_neg (by omega)]; omega
      rw [ee]
      rw [hcc] at hcode
      rw [List.length_cons, List.length_cons]
      simp (disch := omega) only [Option.bind_some, Option.map_some, Option.bind_none, q_lit, nI_add, pk_mul, q_sub, q_addn, q_cl, q_le, q_lt, q_eq, q_ck, q_cd, q_cb0, q_cb1, q_div, q_rem, q_shl1, q_shr, q_and, q_or, q_tb, if_pos, if_neg, if_true, if_false, not_true, not_false_iff, eq_self, Bool.true_eq_false, Bool.false_eq_true, q_bI0, q_bI1, q_cbI, Nat.or_zero, mst_row, mrow_neA, mrow_neB, mrow_self, q_upd, f_X2_total_L8, hcode, l1, l2, l3, ea, eb, k_join8, ep, List.length_cons]
    · have ee : evN E s m (y :: a :: w) = bI (decide (y < a)) :: w := by unfold evN; rw [if_neg (by omega), if_neg (by omega), if_neg (by omega)]; simp [hs3]
      refine ⟨upd R w.length (bI (decide (y < a))), ?_, by rw [ee]; exact rep_push hrep.2.2⟩
      have hcc : cs s m = 2002 := by unfold cs; rw [if_neg (by omega), if_neg (by omega)]; omega
      rw [ee]
      rw [hcc] at hcode
      rw [List.length_cons, List.length_cons]
      simp (disch := omega) only [Option.bind_some, Option.map_some, Option.bind_none, q_lit, nI_add, pk_mul, q_sub, q_addn, q_cl, q_le, q_lt, q_eq, q_ck, q_cd, q_cb0, q_cb1, q_div, q_rem, q_shl1, q_shr, q_and, q_or, q_tb, if_pos, if_neg, if_true, if_false, not_true, not_false_iff, eq_self, Bool.true_eq_false, Bool.false_eq_true, q_bI0, q_bI1, q_cbI, Nat.or_zero, mst_row, mrow_neA, mrow_neB, mrow_self, q_upd, f_X2_total_L8, hcode, l1, l2, l3, ea, eb, k_join9, ep, List.length_cons]
  · obtain ⟨y, w, rfl, hx, hw⟩ := tyOk_c hok
    obtain ⟨a, w, rfl, hy, hw⟩ := tyOk_c hw
    have r0 : R (w.length + 1) = y := hrep.1
    have r1 : R w.length = a := hrep.2.1
    rw [List.length_cons, List.length_cons] at hvl
    have l1 : nI (w.length + 1 + 1) + -nI 1 = nI (w.length + 1) := by rw [q_addn (by omega)]; rfl
    have l2 : nI (w.length + 1 + 1) - nI 1 = nI (w.length + 1) := by rw [q_sub (by omega)]; rfl
    have l3 : nI (w.length + 1 + 1) - nI 2 = nI w.length := by rw [q_sub (by omega)]; rfl
    have ea : f_X1_at sh ln 9 (mrow μ (12, 9) R) (nI w.length) = some a := by rw [k_at (by omega) (by omega), mrow_self, r1]
    have eb : f_X1_at sh ln 9 (mrow μ (12, 9) R) (nI (w.length + 1)) = some y := by rw [k_at (by omega) (by omega), mrow_self, r0]
    have ep : ∀ z, f_X1_put sh ln 9 (mrow μ (12, 9) R) (nI w.length) z = some (mrow μ (12, 9) (upd R w.length z)) := fun z => by rw [k_put (by omega) (by omega), mrow_mrow, mrow_self]
    rcases hs3 with hs3 | hs3
    · have ee : evN E s m (y :: a :: w) = bI (decide (a + y = nI 2)) :: w := by unfold evN; rw [if_neg (by omega), if_neg (by omega), if_neg (by omega)]; simp [hs3]
      refine ⟨upd R w.length (bI (decide (a + y = nI 2))), ?_, by rw [ee]; exact rep_push hrep.2.2⟩
      have hcc : cs s m = 2004 := by unfold cs; rw [if_neg (by omega), if_neg (by omega)]; omega
      rw [ee]
      rw [hcc] at hcode
      rw [List.length_cons, List.length_cons]
      simp (disch := omega) only [Option.bind_some, Option.map_some, Option.bind_none, q_lit, nI_add, pk_mul, q_sub, q_addn, q_cl, q_le, q_lt, q_eq, q_ck, q_cd, q_cb0, q_cb1, q_div, q_rem, q_shl1, q_shr, q_and, q_or, q_tb, if_pos, if_neg, if_true, if_false, not_true, not_false_iff, eq_self, Bool.true_eq_false, Bool.false_eq_true, q_bI0, q_bI1, q_cbI, Nat.or_zero, mst_row, mrow_neA, mrow_neB, mrow_self, q_upd, f_X2_total_L8, hcode, l1, l2, l3, ea, eb, k_join11 (hy rfl) (hx rfl), ep, List.length_cons]
    · have hs12 : s = 12 := by omega
      have ee : evN E s m (y :: a :: w) = bI (decide (¬ (a + y ≤ nI 0))) :: w := by unfold evN; rw [if_neg (by omega), if_neg (by omega), if_neg (by omega)]; simp [hs12]
      refine ⟨upd R w.length (bI (decide (¬ (a + y ≤ nI 0)))), ?_, by rw [ee]; exact rep_push hrep.2.2⟩
      have hcc : cs s m = 2005 := by unfold cs; rw [if_neg (by omega), if_neg (by omega)]; omega
      rw [ee]
      rw [hcc] at hcode
      rw [List.length_cons, List.length_cons]
      simp (disch := omega) only [Option.bind_some, Option.map_some, Option.bind_none, q_lit, nI_add, pk_mul, q_sub, q_addn, q_cl, q_le, q_lt, q_eq, q_ck, q_cd, q_cb0, q_cb1, q_div, q_rem, q_shl1, q_shr, q_and, q_or, q_tb, if_pos, if_neg, if_true, if_false, not_true, not_false_iff, eq_self, Bool.true_eq_false, Bool.false_eq_true, q_bI0, q_bI1, q_cbI, Nat.or_zero, mst_row, mrow_neA, mrow_neB, mrow_self, q_upd, f_X2_total_L8, hcode, l1, l2, l3, ea, eb, k_join12 (hy rfl) (hx rfl), ep, List.length_cons]
theorem k_line (hL : LN ln) (hW : LWk sh μ i Λ b) (hT : LWt Λ) (hE : ∀ q, q < 6 → μ (12, 8) q = E q) (E4 : is01 (E 4)) (E5 : is01 (E 5)) {k : Nat} (hk : k < Λ.1) {v0 Z : Int32}
    (hv : ∀ R, ∃ R', Wh (fun z : Mm × Int32 × Int32 × Int32 => f_X2_total_L8 sh ln i 8 9 z.1 z.2.1 z.2.2.1 z.2.2.2) (mrow μ (12, 9) R, v0 + (if hldL Λ E k = true then nI (Λ.2.1 k) else nI 0), nI 0, nI (b (k + 1))) = some (Z, mrow μ (12, 9) R')) (R : Nat → Int32) :
    ∃ R', Wh (fun z : Mm × Int32 × Int32 × Int32 => f_X2_total_L8 sh ln i 8 9 z.1 z.2.1 z.2.2.1 z.2.2.2) (mrow μ (12, 9) R, v0, nI 0, nI (b k)) = some (Z, mrow μ (12, 9) R') := by
  have hl9 : ln 9 = 64 := hL.2.2.2.2.2.2.2.2.2.1
  obtain ⟨hsz, h512, hb0, _, hlines⟩ := hW
  have hW : LWk sh μ i Λ b := ⟨hsz, h512, hb0, ‹_›, hlines⟩
  obtain ⟨hb1, _, hone, hamt, hact⟩ := hlines k hk
  have hbm := LWk_mono hW (show k + 1 ≤ Λ.1 by omega)
  have ham := (hT.2.2.2.1 k hk).1
  -- behind the steps of the line
  have hend : ∀ R, rep R (evR Λ E k (Λ.2.2.1 (k + 1) - Λ.2.2.1 k)) → ∃ R', Wh (fun z : Mm × Int32 × Int32 × Int32 => f_X2_total_L8 sh ln i 8 9 z.1 z.2.1 z.2.2.1 z.2.2.2) (mrow μ (12, 9) R, v0, nI (evR Λ E k (Λ.2.2.1 (k + 1) - Λ.2.2.1 k)).length, nI (b k + (Λ.2.2.1 (k + 1) - Λ.2.2.1 k))) = some (Z, mrow μ (12, 9) R') := by
    intro R hR
    have hty := (hT.2.2.2.2.2 k hk).1
    have hok := evR_ok (E := E) E4 E5 k _ _ hty
    obtain ⟨c, hc⟩ : ∃ c, c = b k + (Λ.2.2.1 (k + 1) - Λ.2.2.1 k) := ⟨_, rfl⟩
    rw [← hc] at hamt hact hb1 ⊢
    -- the last two: an amount, and the act
    have hl2 : ∀ R x c', c' + 2 = b (k + 1) → μ (15, i) c' = nI (Λ.2.1 k) → μ (15, i) (c' + 1) = nI 2006 → R 0 = x → (if x = nI 1 then nI (Λ.2.1 k) else nI 0) = (if hldL Λ E k = true then nI (Λ.2.1 k) else nI 0) →
        ∃ R', Wh (fun z : Mm × Int32 × Int32 × Int32 => f_X2_total_L8 sh ln i 8 9 z.1 z.2.1 z.2.2.1 z.2.2.2) (mrow μ (12, 9) R, v0, nI 1, nI c') = some (Z, mrow μ (12, 9) R') := by
      intro R x c' hc1 hc2 hc3 hx hh
      have e1 : f_X2_total_L8 sh ln i 8 9 (mrow μ (12, 9) R) v0 (nI 1) (nI c') = some (.inl (mrow μ (12, 9) (upd R 1 (nI (Λ.2.1 k))), v0, nI 2, nI (c' + 1))) := by
        have ep : f_X1_put sh ln 9 (mrow μ (12, 9) R) (nI 1) (nI (Λ.2.1 k)) = some (mrow μ (12, 9) (upd R 1 (nI (Λ.2.1 k)))) := by rw [k_put (by omega) (by omega), mrow_mrow, mrow_self]
        have hcl : c' < sh 1 i := by omega
        have hs5 : sh 1 i ≤ 512 := by omega
        simp (disch := omega) only [Option.bind_some, Option.map_some, Option.bind_none, q_lit, nI_add, pk_mul, q_sub, q_addn, q_cl, q_le, q_lt, q_eq, q_ck, q_cd, q_cb0, q_cb1, q_div, q_rem, q_shl1, q_shr, q_and, q_or, q_tb, if_pos, if_neg, if_true, if_false, not_true, not_false_iff, eq_self, Bool.true_eq_false, Bool.false_eq_true, q_bI0, q_bI1, q_cbI, Nat.or_zero, mst_row, mrow_neA, mrow_neB, mrow_self, q_upd, f_X2_total_L8, hc2, ep]
      have e2 : f_X2_total_L8 sh ln i 8 9 (mrow μ (12, 9) (upd R 1 (nI (Λ.2.1 k)))) v0 (nI 2) (nI (c' + 1)) = some (.inl (mrow μ (12, 9) (upd R 1 (nI (Λ.2.1 k))), v0 + (if hldL Λ E k = true then nI (Λ.2.1 k) else nI 0), nI 0, nI (b (k + 1)))) := by
        have ea : f_X1_at sh ln 9 (mrow μ (12, 9) (upd R 1 (nI (Λ.2.1 k)))) (nI 0) = some x := by rw [k_at (by omega) (by omega), mrow_self, q_upd, if_neg (by omega), hx]
        have eb : f_X1_at sh ln 9 (mrow μ (12, 9) (upd R 1 (nI (Λ.2.1 k)))) (nI 1) = some (nI (Λ.2.1 k)) := by rw [k_at (by omega) (by omega), mrow_self, q_upd, if_pos rfl]
        have hcl : c' + 1 < sh 1 i := by omega
        have hs5 : sh 1 i ≤ 512 := by omega
        have l3 : nI 2 - nI 2 = nI 0 := by decide
        have l2 : nI 2 - nI 1 = nI 1 := by decide
        have l4 : nI 2 + -nI 2 = nI 0 := by decide
        have l5 : nI (c' + 1 + 1) = nI (b (k + 1)) := by rw [← hc1]
        rw [← hh]
        by_cases cx : x = nI 1
        · simp (disch := omega) only [Option.bind_some, Option.map_some, Option.bind_none, q_lit, nI_add, pk_mul, q_sub, q_addn, q_cl, q_le, q_lt, q_eq, q_ck, q_cd, q_cb0, q_cb1, q_div, q_rem, q_shl1, q_shr, q_and, q_or, q_tb, if_pos, if_neg, if_true, if_false, not_true, not_false_iff, eq_self, Bool.true_eq_false, Bool.false_eq_true, q_bI0, q_bI1, q_cbI, Nat.or_zero, mst_row, mrow_neA, mrow_neB, mrow_self, q_upd, f_X2_total_L8, hc3, l2, l3, l4, ea, eb, cx, l5]
        · simp (disch := omega) only [Option.bind_some, Option.map_some, Option.bind_none, q_lit, nI_add, pk_mul, q_sub, q_addn, q_cl, q_le, q_lt, q_eq, q_ck, q_cd, q_cb0, q_cb1, q_div, q_rem, q_shl1, q_shr, q_and, q_or, q_tb, if_pos, if_neg, if_true, if_false, not_true, not_false_iff, eq_self, Bool.true_eq_false, Bool.false_eq_true, q_bI0, q_bI1, q_cbI, Nat.or_zero, mst_row, mrow_neA, mrow_neB, mrow_self, q_upd, f_X2_total_L8, hc3, l2, l3, l4, ea, eb, cx, l5]
      obtain ⟨R', hR'⟩ := hv (upd R 1 (nI (Λ.2.1 k)))
      exact ⟨R', Wh_step e1 (Wh_step e2 hR')⟩
    by_cases ce : Λ.2.2.1 k = Λ.2.2.1 (k + 1)
    · have hv0 : evR Λ E k (Λ.2.2.1 (k + 1) - Λ.2.2.1 k) = [] := by
        rw [if_pos ce] at hok
        exact tyOk_n hok
      rw [if_pos ce] at hamt hact hb1
      have hcb : c = b k := by omega
      have h1 := hone ce
      rw [← hcb] at h1
      rw [hv0, List.length_nil]
      have e1 : f_X2_total_L8 sh ln i 8 9 (mrow μ (12, 9) R) v0 (nI 0) (nI c) = some (.inl (mrow μ (12, 9) (upd R 0 (nI 1)), v0, nI 1, nI (c + 1))) := by
        have ep : f_X1_put sh ln 9 (mrow μ (12, 9) R) (nI 0) (nI 1) = some (mrow μ (12, 9) (upd R 0 (nI 1))) := by rw [k_put (by omega) (by omega), mrow_mrow, mrow_self]
        have hcl : c < sh 1 i := by omega
        have hs5 : sh 1 i ≤ 512 := by omega
        simp (disch := omega) only [Option.bind_some, Option.map_some, Option.bind_none, q_lit, nI_add, pk_mul, q_sub, q_addn, q_cl, q_le, q_lt, q_eq, q_ck, q_cd, q_cb0, q_cb1, q_div, q_rem, q_shl1, q_shr, q_and, q_or, q_tb, if_pos, if_neg, if_true, if_false, not_true, not_false_iff, eq_self, Bool.true_eq_false, Bool.false_eq_true, q_bI0, q_bI1, q_cbI, Nat.or_zero, mst_row, mrow_neA, mrow_neB, mrow_self, q_upd, f_X2_total_L8, h1, ep]
      obtain ⟨R', hR'⟩ := hl2 (upd R 0 (nI 1)) (nI 1) (c + 1) (by omega) hamt hact (by rw [q_upd, if_pos rfl]) (by
        unfold hldL; rw [hv0]; rw [if_pos rfl]; exact (if_pos rfl).symm)
      exact ⟨R', Wh_step e1 hR'⟩
    · rw [if_neg ce] at hok hamt hact hb1
      obtain ⟨x, u, hx, h01, hu⟩ := tyOk_c hok
      have hun := tyOk_n hu
      subst hun
      have hlen : (evR Λ E k (Λ.2.2.1 (k + 1) - Λ.2.2.1 k)).length = 1 := by rw [hx]; rfl
      rw [hlen]
      rw [hx] at hR
      exact hl2 R x c (by omega) hamt hact hR.1 (by
        unfold hldL
        rw [hx]
        by_cases cx : x = nI 1
        · simp [cx]
        · simp [cx])
  -- the steps of the line
  have hall : ∀ d t, d + t = Λ.2.2.1 (k + 1) - Λ.2.2.1 k → ∀ R, rep R (evR Λ E k t) → ∃ R', Wh (fun z : Mm × Int32 × Int32 × Int32 => f_X2_total_L8 sh ln i 8 9 z.1 z.2.1 z.2.2.1 z.2.2.2) (mrow μ (12, 9) R, v0, nI (evR Λ E k t).length, nI (b k + t)) = some (Z, mrow μ (12, 9) R') := by
    intro d
    induction d with
    | zero =>
      intro t ht R hR
      have ht' : t = Λ.2.2.1 (k + 1) - Λ.2.2.1 k := by omega
      subst ht'
      exact hend R hR
    | succ d ih =>
      intro t ht R hR
      obtain ⟨R1, e1, hR1⟩ := k_lstep hL hW hT hE E4 E5 hk (show t < Λ.2.2.1 (k + 1) - Λ.2.2.1 k by omega) hR v0
      obtain ⟨R', hR'⟩ := ih (t + 1) (by omega) R1 hR1
      exact ⟨R', Wh_step e1 hR'⟩
  exact hall (Λ.2.2.1 (k + 1) - Λ.2.2.1 k) 0 (by omega) R trivial
theorem k_total (hL : LN ln) (hW : LWk sh μ i Λ b) (hT : LWt Λ) (hE : ∀ q, q < 6 → μ (12, 8) q = E q) (E4 : is01 (E 4)) (E5 : is01 (E 5)) :
    ∃ R', f_X2_total sh ln i 8 9 μ = some (MB (some Λ) E, mrow μ (12, 9) R') := by
  have hb0 := hW.2.2.1
  have hall : ∀ d k, d + k = Λ.1 → ∀ R, ∃ R', Wh (fun z : Mm × Int32 × Int32 × Int32 => f_X2_total_L8 sh ln i 8 9 z.1 z.2.1 z.2.2.1 z.2.2.2) (mrow μ (12, 9) R, MBs Λ E k, nI 0, nI (b k)) = some (MBs Λ E Λ.1, mrow μ (12, 9) R') := by
    intro d
    induction d with
    | zero =>
      intro k hk R
      have hk' : k = Λ.1 := by omega
      subst hk'
      refine ⟨R, Wh_end ?_⟩
      show f_X2_total_L8 sh ln i 8 9 (mrow μ (12, 9) R) (MBs Λ E Λ.1) (nI 0) (nI (b Λ.1)) = _
      have h512 := hW.2.1
      simp (disch := omega) only [Option.bind_some, Option.map_some, Option.bind_none, q_lit, nI_add, pk_mul, q_sub, q_addn, q_cl, q_le, q_lt, q_eq, q_ck, q_cd, q_cb0, q_cb1, q_div, q_rem, q_shl1, q_shr, q_and, q_or, q_tb, if_pos, if_neg, if_true, if_false, not_true, not_false_iff, eq_self, Bool.true_eq_false, Bool.false_eq_true, q_bI0, q_bI1, q_cbI, Nat.or_zero, mst_row, mrow_neA, mrow_neB, mrow_self, q_upd, f_X2_total_L8, hW.1, Nat.le_refl]
    | succ d ih =>
      intro k hk R
      exact k_line hL hW hT hE E4 E5 (show k < Λ.1 by omega) (fun R => ih (k + 1) (by omega) R) R
  obtain ⟨R', e⟩ := hall Λ.1 0 (by omega) (μ (12, 9))
  rw [mrow_id, hb0] at e
  exact ⟨R', e⟩
end LAWK
