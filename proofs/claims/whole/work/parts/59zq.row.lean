-- rows: one call of both
theorem smN_ge {f : Nat → Nat} {n p : Nat} (hp : p < n) : f p ≤ smN n f := by
  induction n with
  | zero => exact absurd hp (Nat.not_lt_zero _)
  | succ n ih =>
    show f p ≤ smN n f + f n
    by_cases c : p = n
    · rw [c]; omega
    · have := ih (by omega); omega
theorem nxp_0 {G : Nat → Int32} {n s : Nat} (hs : s + 1 < 2 ^ n) (h : WW G n s = 0) : nxp G n s = n := by
  have h1 : nxp G n s ≤ n := (oc_sp (fit G n s) n).1
  by_cases c : nxp G n s < n
  · obtain ⟨hm, hw⟩ := fit_ok c
    rw [WW_eq hs] at h
    have := smN_ge (f := fun p => if MF G s p = true then WW G n (s ||| 2 ^ p) else 0) c
    rw [h] at this
    have e : (if MF G s (nxp G n s) = true then WW G n (s ||| 2 ^ nxp G n s) else 0) = WW G n (s ||| 2 ^ nxp G n s) := if_pos hm
    have this' : (if MF G s (nxp G n s) = true then WW G n (s ||| 2 ^ nxp G n s) else 0) ≤ 0 := this
    rw [e] at this'
    omega
  · omega
theorem pv_out {G : Nat → Int32} {n k : Nat} (hk : n ≤ k) : ∀ f c s, pv G n k f c s = -nI 1 := by
  intro f
  induction f with
  | zero => intro c s; rfl
  | succ f ih =>
    intro c s
    unfold pv
    by_cases c1 : n ≤ c
    · rw [if_pos c1]
    · rw [if_neg c1]
      by_cases c2 : nxp G n s = n
      · rw [if_pos c2]
      · rw [if_neg c2, if_neg (by omega)]
        exact ih _ _
/-- what a call of rows answers -/
def rwV (G : Nat → Int32) (n : Nat) : Option Nat → Int32
  | none => nI (WW G n 0)
  | some k => pv G n k (n + 1) 0 0
def rwA : Option Nat → Int32
  | none => -nI 1
  | some k => nI k
def GT (T : Nat → Nat) (z : Nat) : Nat → Int32 := fun p => nI (FR T (z / 3) p)
section ROWQ
variable {μ : Mm} {V n N w0 z : Nat} {r : Nat → Int32} {T : Nat → Nat}
theorem q_rowE (h : RS μ V n N w0 r) {G : Nat → Int32} (hn : n ≤ 7) (hG : ∀ p, p < n → μ (33, 0) p = G p) (hW : ∀ s, s < 2 ^ n → μ (34, 0) s = nI (WW G n s)) {v3 : Int32} (q : Option Nat) (hq : ∀ k, q = some k → k < 2147483648) :
    f_X11_rows_L161 (rwA q) v3 μ (-nI 1) = some (.inr (rwV G n q, μ)) := by
  have hp := Nat.two_pow_pos n
  have h0 := hW 0 hp
  have hlt : WW G n 0 < 2147483648 := RT_lt hn hp
  have ew : (nI (WW G n 0) = (0 : Int32)) = (WW G n 0 = 0) := q_eq (b := 0) hlt (by omega)
  have ck0 : ∀ {X : Type} (x : Option X), ck 512 (0 : Int32) x = x := fun x => q_ck (i := 0) (by omega) (by omega)
  unfold f_X11_rows_L161
  rw [if_pos (show -nI 1 < (0 : Int32) by decide)]
  cases q with
  | none =>
    rw [if_pos (show rwA none = (-1 : Int32) from rfl), if_pos (show rwA none = (-1 : Int32) from rfl), ck0]
    show Option.map Sum.inr (some (μ (34, 0) 0, μ)) = _
    rw [h0]
    rfl
  | some k =>
    have hk := hq k rfl
    have hk1 : ¬ rwA (some k) = (-1 : Int32) := by
      intro e
      have : (0 : Int32) ≤ nI k := nI_le (a := 0) (by omega) hk
      rw [show nI k = (-1 : Int32) from e] at this
      exact absurd this (by decide)
    rw [if_neg hk1, ck0, show μ (34, 0) (0 : Int32).toNatClampNeg = nI (WW G n 0) from h0]
    show Option.map Sum.inr _ = some (.inr (pv G n k (n + 1) 0 0, μ))
    by_cases c : WW G n 0 = 0
    · rw [if_pos (ew.mpr c)]
      have : pv G n k (n + 1) 0 0 = -nI 1 := by
        unfold pv
        by_cases c1 : n ≤ 0
        · rw [if_pos c1]
        · have h1 : 2 ^ 1 ≤ 2 ^ n := Nat.pow_le_pow_right (by decide) (by omega)
          rw [if_neg c1, if_pos (nxp_0 (by omega) c)]
      rw [this, if_neg hk1]
      rfl
    · rw [if_neg (fun x => c (ew.mp x)), q_people h, Option.bind_some]
      have el : (nI k < nI n) = (k < n) := q_lt hk (by omega)
      by_cases c2 : k < n
      · rw [if_pos (show rwA (some k) < nI n from el.mpr c2)]
        have := q_place hn hG hW c2 (n + 1) 0 0 (-nI 1) (by omega) (by omega) hp bc_0 (by omega)
        have this' : Wh (fun z : Int32 × Int32 × Int32 => f_X11_rows_L292 (rwA (some k)) μ z.1 z.2.1 z.2.2) ((0 : Int32), (-1 : Int32), (0 : Int32)) = some (pv G n k (n + 1) 0 0, μ) := this
        rw [this']
        rfl
      · rw [if_neg (show ¬ rwA (some k) < nI n from fun x => c2 (el.mp x)), pv_out (by omega), if_neg hk1]
        rfl
theorem q_rowsL (h : RS μ V n N w0 r) (hz : z ≤ 400) (hn : n ≤ 7) (h256 : ∀ i, T i < 256) (h14 : μ (0, 0) 14 = nI z) (hT : ∀ i, i < 400 → μ (11, 0) i = sgn (T i)) (hok : okB T z n 2 false = true) (q : Option Nat) (hq : ∀ k, q = some k → k < 2147483648) :
    Wh (fun s : Mm × Int32 => f_X11_rows_L45 (rwA q) s.1 s.2) (μ, (0 : Int32)) = some (rwV (GT T z) n q, mrow (mrow μ (33, 0) (GF T n (z / 3) (μ (33, 0)))) (34, 0) (tbI (GT T z) n (2 ^ n) (μ (34, 0)))) := by
  have h2 : 2 ^ n ≤ 2 ^ 7 := Nat.pow_le_pow_right (by decide) hn
  have hpos := Nat.two_pow_pos n
  have h3 := (okB_at hok).1
  refine Wh_it n (fun k => (mrow μ (33, 0) (fun p => if p < k then 0 else μ (33, 0) p), nI k)) ?_ (fun k hk => ?_) ?_
  · have : (fun p => if p < 0 then (0 : Int32) else μ (33, 0) p) = μ (33, 0) := by funext p; exact if_neg (by omega)
    rw [this, mrow_id]; rfl
  · show f_X11_rows_L45 (rwA q) (mrow μ (33, 0) (fun p => if p < k then 0 else μ (33, 0) p)) (nI k) = _
    have h' := h.row (a := 33) (b := 0) (fun p => if p < k then 0 else μ (33, 0) p) (by omega)
    have eu : upd (fun p => if p < k then (0 : Int32) else μ (33, 0) p) k 0 = fun p => if p < k + 1 then 0 else μ (33, 0) p := by
      funext p
      rw [q_upd]
      by_cases e : p = k
      · rw [if_pos e, if_pos (by omega)]
      · rw [if_neg e]
        by_cases c : p < k
        · rw [if_pos c, if_pos (by omega)]
        · rw [if_neg c, if_neg (by omega)]
    unfold f_X11_rows_L45
    rw [q_people h', Option.bind_some, if_neg (show ¬ nI n ≤ nI k by rw [q_le (by omega) (by omega)]; omega), q_ck (by omega) (by omega), q_cl (by omega), mst_row, mrow_self, mrow_mrow, eu, show (1 : Int32) = nI 1 from rfl, nI_add]
  · show f_X11_rows_L45 (rwA q) (mrow μ (33, 0) (fun p => if p < n then 0 else μ (33, 0) p)) (nI n) = _
    have h' := h.row (a := 33) (b := 0) (fun p => if p < n then 0 else μ (33, 0) p) (by omega)
    unfold f_X11_rows_L45
    rw [q_people h', Option.bind_some, if_pos (show nI n ≤ nI n from Int32.le_refl _)]
    have e0 : (fun p => if p < n then (0 : Int32) else μ (33, 0) p) = GF T n 0 (μ (33, 0)) := rfl
    rw [e0]
    have hg : Wh (fun s : Mm × Int32 => f_X11_rows_L68 (rwA q) s.1 s.2) (mrow μ (33, 0) (GF T n 0 (μ (33, 0))), (0 : Int32)) = some (rwV (GT T z) n q, mrow (mrow μ (33, 0) (GF T n (z / 3) (μ (33, 0)))) (34, 0) (tbI (GT T z) n (2 ^ n) (μ (34, 0)))) := by
      refine Wh_it (z / 3) (fun k => (mrow μ (33, 0) (GF T n k (μ (33, 0))), nI (3 * k))) rfl (fun k hk => q_gath hz hn h256 h14 hT hok hk) ?_
      show f_X11_rows_L68 (rwA q) (mrow μ (33, 0) (GF T n (z / 3) (μ (33, 0)))) (nI (3 * (z / 3))) = _
      obtain ⟨m, hm⟩ : ∃ m, m = mrow μ (33, 0) (GF T n (z / 3) (μ (33, 0))) := ⟨_, rfl⟩
      have hR : RS m V n N w0 r := by rw [hm]; exact h.row _ (by omega)
      have m14 : m (0, 0) 14 = nI z := by rw [hm, mrow_neA (by omega)]; exact h14
      have mG : ∀ p, p < n → m (33, 0) p = GT T z p := fun p hp => by rw [hm, mrow_self]; exact if_pos hp
      have m34 : m (34, 0) = μ (34, 0) := by rw [hm, mrow_neA (by omega)]
      have ea : ((1 : Int32) <<< (nI n &&& 31)) - (1 : Int32) = dwn n 0 := by rw [pow_sh (by omega), show (1 : Int32) = nI 1 from rfl, q_sub (by omega), dwn_lt hpos]; rfl
      rw [← hm]
      unfold f_X11_rows_L68
      rw [m14, if_pos (show nI z ≤ nI (3 * (z / 3)) by rw [q_le (by omega) (by omega)]; omega), q_people hR, Option.bind_some, ea]
      have hw : Wh (fun s : Mm × Int32 => f_X11_rows_L161 (rwA q) (dwn n 0) s.1 s.2) (m, dwn n 0) = some (rwV (GT T z) n q, mrow m (34, 0) (tbI (GT T z) n (2 ^ n) (μ (34, 0)))) := by
        refine Wh_it (2 ^ n) (fun i => (mrow m (34, 0) (tbI (GT T z) n i (μ (34, 0))), dwn n i)) (by rw [tbI_0, ← m34, mrow_id]) (fun i hi => ?_) ?_
        · show f_X11_rows_L161 (rwA q) (dwn n 0) (mrow m (34, 0) (tbI (GT T z) n i (μ (34, 0)))) (dwn n i) = _
          have hway := q_way (hR.row (a := 34) (b := 0) (tbI (GT T z) n i (μ (34, 0))) (by omega)) hn (fun p hp => by rw [mrow_neA (by omega)]; exact mG p hp) (v1 := rwA q) (v3 := dwn n 0) (i := i) (s := 2 ^ n - 1 - i) (base := μ (34, 0)) (G := GT T z) (by omega) (mrow_self _ _ _)
          rw [mrow_mrow] at hway
          rw [← dwn_s hi, dwn_lt hi]
          unfold f_X11_rows_L161
          rw [if_neg (show ¬ nI (2 ^ n - 1 - i) < (0 : Int32) from nI_nneg (by omega)), dwn_lt hpos]
          rw [dwn_lt hpos] at hway
          have ee : (nI (2 ^ n - 1 - i) = nI (2 ^ n - 1 - 0)) = (2 ^ n - 1 - i = 2 ^ n - 1 - 0) := q_eq (by omega) (by omega)
          by_cases c : i = 0
          · rw [if_pos (ee.mpr (by omega))]
            rw [show st0 i = 1 from if_pos c] at hway
            exact hway
          · rw [if_neg (fun x => by have := ee.mp x; omega)]
            rw [show st0 i = 0 from if_neg c] at hway
            exact hway
        · show f_X11_rows_L161 (rwA q) (dwn n 0) (mrow m (34, 0) (tbI (GT T z) n (2 ^ n) (μ (34, 0)))) (dwn n (2 ^ n)) = _
          rw [dwn_end]
          exact q_rowE (hR.row _ (by omega)) hn (fun p hp => by rw [mrow_neA (by omega)]; exact mG p hp) (fun s hs => by rw [mrow_self]; exact if_pos ⟨by omega, hs⟩) q hq
      rw [hw]
      rfl
    rw [hg]
    rfl
end ROWQ
section ROWK
variable {sh : Sh} {ln : Nat → Nat} {μ : Mm} {j n z : Nat} {T : Nat → Nat}
theorem k_standInRow (h1 : μ (13, j) 1 = nI n) (hL : LN ln) (hz : z ≤ 400) (hn : n ≤ 7) (h256 : ∀ i, T i < 256) (hT : ∀ i, i < 400 → μ (12, 0) i = nI (T i)) (hok : okB T z n 2 false = true) (q : Option Nat) (hq : ∀ k, q = some k → k < 2147483648) :
    f_X5_standInRow sh ln j μ (nI z) (rwA q) = some (rwV (GT T z) n q, mrow (mrow μ (12, 13) (GF T n (z / 3) (μ (12, 13)))) (12, 11) (tbI (GT T z) n (2 ^ n) (μ (12, 11)))) := by
  have h2 : 2 ^ n ≤ 2 ^ 7 := Nat.pow_le_pow_right (by decide) hn
  have hpos := Nat.two_pow_pos n
  have hl : ln 11 = 512 := hL.2.2.2.2.2.2.2.2.2.2.2.1
  obtain ⟨m, hm⟩ : ∃ m, m = mrow μ (12, 13) (GF T n (z / 3) (μ (12, 13))) := ⟨_, rfl⟩
  have m1 : m (13, j) 1 = nI n := by rw [hm, mrow_neA (by omega)]; exact h1
  have mG : ∀ p, p < n → m (12, 13) p = GT T z p := fun p hp => by rw [hm, mrow_self]; exact if_pos hp
  have m11 : m (12, 11) = μ (12, 11) := by rw [hm, mrow_ne (by simp)]
  rw [f_X5_standInRow, h1, if_pos (show nI n ≤ (7 : Int32) by rw [show (7 : Int32) = nI 7 from rfl, q_le (by omega) (by omega)]; exact hn), k_gather h1 hL hz hn h256 hT hok, Option.bind_some, ← hm, ← m11]
  refine k_ways m1 hL hn mG ?_
  obtain ⟨f, hf⟩ : ∃ f, f = mrow m (12, 11) (tbI (GT T z) n (2 ^ n) (m (12, 11))) := ⟨_, rfl⟩
  have f1 : f (13, j) 1 = nI n := by rw [hf, mrow_neA (by omega)]; exact m1
  have fG : ∀ p, p < n → f (12, 13) p = GT T z p := fun p hp => by rw [hf, mrow_ne (by simp)]; exact mG p hp
  have fW : ∀ s, s < 2 ^ n → f (12, 11) s = nI (WW (GT T z) n s) := fun s hs => by rw [hf, mrow_self]; exact if_pos ⟨by omega, hs⟩
  rw [← hf]
  unfold f_X5_standInRow_L45
  rw [if_pos (show -nI 1 < (0 : Int32) by decide)]
  cases q with
  | none =>
    have := k_at (sh := sh) (ln := ln) (c := 11) (μ := f) (i := 0) (by omega) (by omega)
    rw [if_pos (show rwA none = (-1 : Int32) from rfl), show (0 : Int32) = nI 0 from rfl, this, Option.bind_some, fW 0 hpos]
    rfl
  | some k =>
    have hk := hq k rfl
    have hk1 : ¬ rwA (some k) = (-1 : Int32) := by
      intro e
      have : (0 : Int32) ≤ nI k := nI_le (a := 0) (by omega) hk
      rw [show nI k = (-1 : Int32) from e] at this
      exact absurd this (by decide)
    have hp := k_place (sh := sh) f1 hL hn fG fW hk (n + 1) 0 0 (by omega) hpos (by omega)
    have hp' : f_X5_placeInRow sh ln j f (rwA (some k)) = some (pv (GT T z) n k (n + 1) 0 0) := hp
    rw [if_neg hk1, hp', Option.bind_some]
    rfl
end ROWK
theorem from_m1 {v : Int32} (h : (-1 : Int32) ≤ v) : ∃ q : Option Nat, v = rwA q ∧ ∀ k, q = some k → k < 2147483648 := by
  by_cases c : v < 0
  · refine ⟨none, ?_, fun k hk => by cases hk⟩
    rw [Int32.le_iff_toInt_le] at h
    rw [Int32.lt_iff_toInt_lt] at c
    refine Int32.toInt_inj.mp ?_
    have e1 : (-1 : Int32).toInt = -1 := by decide
    have e0 : (0 : Int32).toInt = 0 := by decide
    have e2 : (rwA none).toInt = -1 := by decide
    rw [e1] at h
    rw [e0] at c
    rw [e2]
    omega
  · obtain ⟨k, hk, e⟩ := nI_of c
    exact ⟨some k, e, fun x hx => by cases hx; omega⟩
section ROWS
variable {sh : Sh} {ln : Nat → Nat} {μq μk : Mm} {V n N w0 : Nat} {r : Nat → Int32} {Λo : Option LW} {j d t c z : Nat} {T : Nat → Nat}
theorem s_rows (h : RLL sh ln μq μk V n N w0 r Λo j d t c T z) (v : Int32) : STP (f_X11_rows μq v) (lf0 sh ln (g_X10_rows sh ln μk v)) sh ln mdA := by
  have nw := h.nw
  have hL := h.2.2.1.1
  obtain ⟨t1, t2, t3, t4, t5, t6⟩ := h.2.2.2.1
  have hn9 := h.b.2.1
  have hu := h.us2
  obtain ⟨m0, hm0⟩ : ∃ m0, m0 = mst μk (2, 0) 1 (0 : Int32) := ⟨_, rfl⟩
  have hum := hu
  rw [← hm0] at hum
  have nw0 := hum.nw
  have S0 := hum.1.2.1
  have k5 := hum.2.2.2.1.2.2.2.2.1
  have q14 : usd μq z (0, 0) 14 = nI z := by unfold usd; rw [mrow_self]; rfl
  have q11 : ∀ i, i < 400 → usd μq z (11, 0) i = sgn (T i) := hu.2.2.2.1.2.2.2.2.2
  have q00 : usd μq z (0, 0) 0 = nI 0 := by
    unfold usd
    rw [mrow_self, q_upd, if_neg (by omega), q_upd, if_neg (by omega), q_upd, if_neg (by omega), q_upd, if_pos rfl]
  have hR := q_readThrees h.1.1 t4 t1 t2 t6 (show 2 ≤ 4 by decide) false
  have hK := k_tellsPairs (sh := sh) S0.1 hL t1 t2 k5
  have hR' : f_X11_readThrees μq (1 : Int32) (0 : Int32) = some (bI (okB T z n 2 false), usd μq z) := hR
  rw [f_X11_rows, hR', Option.bind_some]
  have hG : g_X10_rows sh ln μk v = (if bI (okB T z n 2 false) = 0 then some (.inr 3, m0) else (if (-1 : Int32) ≤ v then ((f_X5_standInRow sh ln j m0 (nI z) v).bind fun x57 => some (.inl x57.1, x57.2)) else (some (.inr 3, m0)))) := by
    rw [g_X10_rows, f_X7_use, Option.bind_some, t3]
    show ce (sh 2 (((mst μk (2, 0) 1 (0 : Int32)) (0, 0) 9).toNatClampNeg) = 1) _ = _
    rw [← hm0, nw0.run, nw0.c, hK, Option.bind_some, nw0.run']
  cases hb : okB T z n 2 false
  · rw [hb, if_pos (show bI false = 0 from rfl)] at hG
    refine ust_step h (by rw [hG, hm0]) ?_
    refine Eq.trans (if_pos (show bI false = 0 from rfl)) ?_
    rw [f_X11_rows_J22]
    exact q_t1
  · rw [hb, if_neg (show ¬ bI true = 0 by decide)] at hG
    by_cases cv : (-1 : Int32) ≤ v
    · rw [if_pos cv] at hG
      obtain ⟨q, rfl, hq⟩ := from_m1 cv
      have e7 : (nI n ≤ (7 : Int32)) = (n ≤ 7) := q_le (b := 7) (by omega) (by omega)
      by_cases c7 : n ≤ 7
      · have w1 := q_rowsL hu.1.1 t1 c7 t2 q14 q11 hb q hq
        have w2 := k_standInRow (sh := sh) (j := j) S0.1.c1 hL t1 c7 t2 k5 hb q hq
        rw [w2, Option.bind_some] at hG
        refine Or.inl ⟨rwV (GT T z) n q, _, sh, ln, _, 0, 0, ?_, by rw [hG]; rfl, ?_, ⟨V, n, N, w0, r, Λo, j, d, t, c, T, 0, hum.q (a := mrow (mrow (usd μq z) (33, 0) (GF T n (z / 3) (usd μq z (33, 0)))) (34, 0) (tbI (GT T z) n (2 ^ n) (usd μq z (34, 0)))) (b := mrow (mrow m0 (12, 13) (GF T n (z / 3) (m0 (12, 13)))) (12, 11) (tbI (GT T z) n (2 ^ n) (m0 (12, 11)))) ((hu.1.1.row _ (by omega)).row _ (by omega)) (fun i hi => ?_) ?_ ?_ ?_ ((FrX.rf.mr (by omega) (by omega)).mr (by omega) (by omega))⟩, PAY.rf⟩
        · refine Eq.trans (if_neg (show ¬ bI true = 0 by decide)) ?_
          rw [if_pos cv, f_X11_rows_J22]
          refine q_t0.trans ?_
          show ((f_X11_people (usd μq z)).bind fun x32 => if x32 ≤ (7 : Int32) then Wh (fun z : Mm × Int32 => f_X11_rows_L45 (rwA q) z.1 z.2) (usd μq z, (0 : Int32)) else (some ((-3 : Int32), usd μq z))) = _
          rw [q_people hu.1.1, Option.bind_some, if_pos (e7.mpr c7), w1]
        · rw [mrow_neA (by omega), mrow_neA (by omega)]; exact q00
        · rw [mrow_neA (by omega), mrow_neA (by omega)]
        · rw [mrow_neA (by omega), mrow_neA (by omega)]
        · rw [mrow_neA (by omega), mrow_neA (by omega)]
        · rw [mrow_neA (by omega), mrow_neA (by omega)]
      · have w2 : f_X5_standInRow sh ln j m0 (nI z) (rwA q) = some ((-3 : Int32), m0) := by
          rw [f_X5_standInRow, S0.1.c1, if_neg (fun x => c7 (e7.mp x))]
        rw [w2, Option.bind_some] at hG
        refine Or.inl ⟨(-3 : Int32), usd μq z, sh, ln, m0, 0, 0, ?_, by rw [hG]; rfl, q00, ⟨V, n, N, w0, r, Λo, j, d, t, c, T, 0, hum⟩, PAY.rf⟩
        refine Eq.trans (if_neg (show ¬ bI true = 0 by decide)) ?_
        rw [if_pos cv, f_X11_rows_J22]
        refine q_t0.trans ?_
        show ((f_X11_people (usd μq z)).bind fun x32 => if x32 ≤ (7 : Int32) then Wh (fun z : Mm × Int32 => f_X11_rows_L45 (rwA q) z.1 z.2) (usd μq z, (0 : Int32)) else (some ((-3 : Int32), usd μq z))) = _
        rw [q_people hu.1.1, Option.bind_some, if_neg (fun x => c7 (e7.mp x))]
    · rw [if_neg cv] at hG
      refine ust_step h (by rw [hG, hm0]) ?_
      refine Eq.trans (if_neg (show ¬ bI true = 0 by decide)) ?_
      rw [if_neg cv, f_X11_rows_J22]
      exact q_t1
end ROWS
