-- rows: placing
theorem bc_up : ∀ s, s < 128 → ∀ p, p < 7 → s.testBit p = false → bc (s ||| 2 ^ p) = bc s + 1 ∧ bc s ≤ 6 := by decide +kernel
theorem bc_all : ∀ n, n < 8 → bc (2 ^ n - 1) = n := by decide +kernel
theorem bc_0 : bc 0 = 0 := by decide +kernel
section PLCP
variable {G : Nat → Int32} {n : Nat}
theorem RT_le (hn : n ≤ 7) : ∀ i s, s < 2 ^ n → RT G n i s ≤ 7 ^ (7 - bc s) := by
  have h2 : 2 ^ n ≤ 2 ^ 7 := Nat.pow_le_pow_right (by decide) hn
  intro i
  induction i with
  | zero => intro s _; exact Nat.zero_le _
  | succ i ih =>
    intro s hs
    show (if s + i + 1 = 2 ^ n then st0 i + smN n (fun p => if MF G s p = true then RT G n i (s ||| 2 ^ p) else 0) else RT G n i s) ≤ _
    split
    · by_cases c0 : i = 0
      · subst c0
        rw [smN_0' (fun k => by split <;> rfl)]
        exact Nat.pow_pos (by decide)
      · rw [show st0 i = 0 from if_neg c0, Nat.zero_add]
        by_cases c6 : bc s ≤ 6
        · have : smN n (fun p => if MF G s p = true then RT G n i (s ||| 2 ^ p) else 0) ≤ n * 7 ^ (6 - bc s) := smN_le (fun p hp => by
            split
            · rename_i hm
              have hb := MF_tb hm
              have := (bc_up s (by omega) p (by omega) hb).1
              have h3 := ih (s ||| 2 ^ p) (or_up hs hp hb).2
              rw [this, show 7 - (bc s + 1) = 6 - bc s by omega] at h3
              exact h3
            · exact Nat.zero_le _)
          have e7 : 7 ^ (7 - bc s) = 7 ^ (6 - bc s) * 7 := by rw [show 7 - bc s = 6 - bc s + 1 by omega, Nat.pow_succ]
          have := Nat.mul_le_mul_right (7 ^ (6 - bc s)) hn
          omega
        · have : smN n (fun p => if MF G s p = true then RT G n i (s ||| 2 ^ p) else 0) ≤ n * 0 := smN_le (fun p hp => by
            split
            · rename_i hm
              exact absurd (bc_up s (by omega) p (by omega) (MF_tb hm)).2 c6
            · exact Nat.le_refl _)
          have h0 : 0 < 7 ^ (7 - bc s) := Nat.pow_pos (by decide)
          omega
    · exact ih s hs
theorem RT_lt (hn : n ≤ 7) {i s : Nat} (hs : s < 2 ^ n) : RT G n i s < 2147483648 := by
  have h1 := RT_le (G := G) hn i s hs
  have h2 : 7 ^ (7 - bc s) ≤ 7 ^ 7 := Nat.pow_le_pow_right (by decide) (by omega)
  omega
theorem RT_st {i m s : Nat} (h : 2 ^ n ≤ s + i) (hm : i ≤ m) : RT G n m s = RT G n i s := by
  induction m with
  | zero => rw [show i = 0 by omega]
  | succ m ih =>
    by_cases c : i = m + 1
    · rw [c]
    · show (if s + m + 1 = 2 ^ n then _ else RT G n m s) = _
      rw [if_neg (by omega)]
      exact ih (by omega)
/-- ways, once all is done -/
def WW (G : Nat → Int32) (n s : Nat) : Nat := RT G n (2 ^ n) s
theorem WW_eq {s : Nat} (hs : s + 1 < 2 ^ n) : WW G n s = smN n (fun p => if MF G s p = true then WW G n (s ||| 2 ^ p) else 0) := by
  unfold WW
  obtain ⟨i, hi⟩ : ∃ i, i = 2 ^ n - 1 - s := ⟨_, rfl⟩
  rw [RT_st (i := i + 1) (m := 2 ^ n) (by omega) (by omega)]
  show (if s + i + 1 = 2 ^ n then st0 i + smN n (fun p => if MF G s p = true then RT G n i (s ||| 2 ^ p) else 0) else RT G n i s) = _
  rw [if_pos (by omega), show st0 i = 0 from if_neg (by omega), Nat.zero_add]
  refine smN_congr (fun p hp => ?_)
  cases hm : MF G s p
  · rfl
  · have := or_up (by omega) hp (MF_tb hm)
    rw [if_pos rfl, if_pos rfl, RT_st (i := i) (m := 2 ^ n) (by omega) (by omega)]
def oc (f : Nat → Bool) : Nat → Nat
  | 0 => 0
  | k + 1 => if oc f k < k then oc f k else if f k = true then k else k + 1
theorem oc_sp (f : Nat → Bool) (k : Nat) : oc f k ≤ k ∧ (oc f k < k → f (oc f k) = true) ∧ ∀ p, p < oc f k → f p = false := by
  induction k with
  | zero => exact ⟨Nat.le_refl _, fun h => absurd h (Nat.lt_irrefl _), fun p hp => absurd hp (Nat.not_lt_zero _)⟩
  | succ k ih =>
    unfold oc
    by_cases c : oc f k < k
    · rw [if_pos c]
      exact ⟨by omega, fun _ => ih.2.1 c, ih.2.2⟩
    · rw [if_neg c]
      have e : oc f k = k := by omega
      rw [e] at ih
      by_cases c2 : f k = true
      · rw [if_pos c2]
        exact ⟨by omega, fun _ => c2, ih.2.2⟩
      · rw [if_neg c2]
        refine ⟨Nat.le_refl _, fun h => absurd h (Nat.lt_irrefl _), fun p hp => ?_⟩
        by_cases e2 : p = k
        · rw [e2]; cases hh : f k; rfl; exact absurd hh c2
        · exact ih.2.2 p (by omega)
def fit (G : Nat → Int32) (n s p : Nat) : Bool := MF G s p && decide (0 < WW G n (s ||| 2 ^ p))
def nxp (G : Nat → Int32) (n s : Nat) : Nat := oc (fit G n s) n
theorem nxp_lt {s : Nat} (hs : s + 1 < 2 ^ n) (h : 0 < WW G n s) : nxp G n s < n := by
  have sp := oc_sp (fit G n s) n
  by_cases c : nxp G n s < n
  · exact c
  · have e : oc (fit G n s) n = n := by have : ¬ oc (fit G n s) n < n := c; omega
    rw [e] at sp
    rw [WW_eq hs] at h
    have : smN n (fun p => if MF G s p = true then WW G n (s ||| 2 ^ p) else 0) ≤ n * 0 := smN_le (fun p hp => by
      split
      · rename_i hm
        have := sp.2.2 p hp
        unfold fit at this
        rw [hm, Bool.true_and] at this
        have := of_decide_eq_false this
        omega
      · exact Nat.le_refl _)
    omega
theorem fit_ok {s : Nat} (h : nxp G n s < n) : MF G s (nxp G n s) = true ∧ 0 < WW G n (s ||| 2 ^ nxp G n s) := by
  have := (oc_sp (fit G n s) n).2.1 h
  unfold fit at this
  rw [Bool.and_eq_true] at this
  exact ⟨this.1, of_decide_eq_true this.2⟩
/-- who stands at k -/
def pv (G : Nat → Int32) (n k : Nat) : Nat → Nat → Nat → Int32
  | 0, _, _ => -nI 1
  | f + 1, c, s => if n ≤ c then -nI 1 else if nxp G n s = n then -nI 1 else if c = k then nI (nxp G n s) else pv G n k f (c + 1) (s ||| 2 ^ nxp G n s)
end PLCP
section PLCQ
variable {μ : Mm} {V n N w0 : Nat} {r : Nat → Int32} {G : Nat → Int32}
theorem q_scan (hn : n ≤ 7) (hG : ∀ p, p < n → μ (33, 0) p = G p) (hW : ∀ s, s < 2 ^ n → μ (34, 0) s = nI (WW G n s)) {s : Nat} (hs : s < 2 ^ n) (hx : nxp G n s < n) {v1 v6 : Int32} :
    Wh (fun z : Int32 => f_X11_rows_L301 v1 (nI s) v6 μ z) ((0 : Int32)) = some (.inl (nI (s ||| 2 ^ nxp G n s), nI (nxp G n s), v6 + (1 : Int32))) := by
  have h2 : 2 ^ n ≤ 2 ^ 7 := Nat.pow_le_pow_right (by decide) hn
  have sp := oc_sp (fit G n s) n
  refine Wh_it (nxp G n s) (fun p => nI p) rfl (fun p hp => ?_) ?_
  · show f_X11_rows_L301 v1 (nI s) v6 μ (nI p) = _
    have hf := sp.2.2 p hp
    have e1 : nI p + (1 : Int32) = nI (p + 1) := by rw [show (1 : Int32) = nI 1 from rfl, nI_add]
    unfold f_X11_rows_L301
    rw [q_canStand hn hG hs (by omega), Option.bind_some, e1]
    unfold fit at hf
    cases hm : MF G s p
    · rw [if_pos (show bI false = 0 from rfl)]
    · rw [hm, Bool.true_and] at hf
      have hf' := of_decide_eq_false hf
      have hu := or_up hs (show p < n by omega) (MF_tb hm)
      rw [if_neg (show ¬ bI true = 0 by decide), pow_sh (by omega), q_or, q_ck (by omega) (by omega), q_cl (by omega), hW _ hu.2, if_pos (show nI (WW G n (s ||| 2 ^ p)) = 0 by rw [show WW G n (s ||| 2 ^ p) = 0 by omega]; rfl)]
  · show f_X11_rows_L301 v1 (nI s) v6 μ (nI (nxp G n s)) = _
    obtain ⟨hm, hw⟩ := fit_ok hx
    have hu := or_up hs hx (MF_tb hm)
    have hlt : WW G n (s ||| 2 ^ nxp G n s) < 2147483648 := RT_lt (G := G) hn (i := 2 ^ n) hu.2
    have hne : ¬ nI (WW G n (s ||| 2 ^ nxp G n s)) = (0 : Int32) := by
      rw [show (0 : Int32) = nI 0 from rfl, q_eq hlt (by omega)]; omega
    unfold f_X11_rows_L301
    rw [q_canStand hn hG hs hx, Option.bind_some, hm, if_neg (show ¬ bI true = 0 by decide), pow_sh (by omega), q_or, q_ck (by omega) (by omega), q_cl (by omega), hW _ hu.2, if_neg hne]
    rfl
theorem q_place (hn : n ≤ 7) (hG : ∀ p, p < n → μ (33, 0) p = G p) (hW : ∀ s, s < 2 ^ n → μ (34, 0) s = nI (WW G n s)) {k : Nat} (hk : k < n) : ∀ f c s l, c + f = n + 1 → c ≤ k → s < 2 ^ n → bc s = c → 0 < WW G n s →
    Wh (fun z : Int32 × Int32 × Int32 => f_X11_rows_L292 (nI k) μ z.1 z.2.1 z.2.2) (nI s, l, nI c) = some (pv G n k f c s, μ) := by
  have h2 : 2 ^ n ≤ 2 ^ 7 := Nat.pow_le_pow_right (by decide) hn
  intro f
  induction f with
  | zero => intro c s l h1 h2 h3 h4 h5; omega
  | succ f ih =>
    intro c s l h1 hc hs hb hw
    have hall : s + 1 < 2 ^ n := by
      by_cases e : s = 2 ^ n - 1
      · have := bc_all n (by omega)
        rw [← e, hb] at this
        omega
      · omega
    have hx := nxp_lt hall hw
    obtain ⟨hm, hw2⟩ := fit_ok hx
    have hu := or_up hs hx (MF_tb hm)
    have hb2 := (bc_up s (by omega) _ (by omega) (MF_tb hm)).1
    have e1 : nI c + (1 : Int32) = nI (c + 1) := by rw [show (1 : Int32) = nI 1 from rfl, nI_add]
    have hstep : f_X11_rows_L292 (nI k) μ (nI s) l (nI c) = some (.inl (nI (s ||| 2 ^ nxp G n s), nI (nxp G n s), nI (c + 1))) := by
      unfold f_X11_rows_L292
      rw [if_neg (show ¬ nI k < nI c by rw [q_lt (by omega) (by omega)]; omega), q_scan hn hG hW hs hx, e1]
    unfold pv
    rw [if_neg (by omega), if_neg (by omega)]
    refine Wh_step hstep ?_
    by_cases e : c = k
    · rw [if_pos e]
      refine Wh_end ?_
      show f_X11_rows_L292 (nI k) μ (nI (s ||| 2 ^ nxp G n s)) (nI (nxp G n s)) (nI (c + 1)) = _
      unfold f_X11_rows_L292
      rw [if_pos (show nI k < nI (c + 1) by rw [q_lt (by omega) (by omega)]; omega)]
      rfl
    · rw [if_neg e]
      exact ih (c + 1) (s ||| 2 ^ nxp G n s) (nI (nxp G n s)) (by omega) (by omega) hu.2 (by rw [hb2, hb]) hw2
end PLCQ
section PLCK
variable {sh : Sh} {ln : Nat → Nat} {μ : Mm} {j n : Nat} {G : Nat → Int32}
theorem k_scan (hL : LN ln) (hn : n ≤ 7) (hG : ∀ p, p < n → μ (12, 13) p = G p) (hW : ∀ s, s < 2 ^ n → μ (12, 11) s = nI (WW G n s)) {s : Nat} (hs : s < 2 ^ n) {v2 v4 : Int32} :
    Wh (fun z : Int32 × Int32 => f_X5_placeInRow_L25 sh ln j v2 (nI s) v4 μ z.1 z.2) ((-1 : Int32), nI n - (1 : Int32)) = some (if nxp G n s = n then .inr (-nI 1) else if v4 = v2 then .inr (nI (nxp G n s)) else .inl (nI (s ||| 2 ^ nxp G n s), v4 + (1 : Int32))) := by
  have h2 : 2 ^ n ≤ 2 ^ 7 := Nat.pow_le_pow_right (by decide) hn
  have hl : ln 11 = 512 := hL.2.2.2.2.2.2.2.2.2.2.2.1
  have sp := oc_sp (fit G n s) n
  have hh : ∃ x, Wh (fun z : Int32 × Int32 => f_X5_placeInRow_L25 sh ln j v2 (nI s) v4 μ z.1 z.2) ((-1 : Int32), nI n - (1 : Int32)) = some x ∧ x = (if nxp G n s = n then .inr (-nI 1) else if v4 = v2 then .inr (nI (nxp G n s)) else .inl (nI (s ||| 2 ^ nxp G n s), v4 + (1 : Int32))) := by
    refine Wh_inv1 n (fun i z => (∃ q, q < n ∧ n - i ≤ q ∧ fit G n s q = true ∧ (∀ p, n - i ≤ p → p < q → fit G n s p = false) ∧ z = (nI q, nI (n - i) - (1 : Int32))) ∨ ((∀ p, n - i ≤ p → p < n → fit G n s p = false) ∧ z = (-nI 1, nI (n - i) - (1 : Int32)))) _ (Or.inr ⟨fun p h1 h3 => by omega, rfl⟩) ?_ ?_
    · intro i z hi hI
      obtain ⟨p, hp⟩ : ∃ p, p = n - i - 1 := ⟨_, rfl⟩
      have ep : nI (n - i) - (1 : Int32) = nI p := by rw [show (1 : Int32) = nI 1 from rfl, q_sub (by omega), hp]
      have ep2 : nI p + (-1 : Int32) = nI (n - (i + 1)) - (1 : Int32) := by
        rw [show n - (i + 1) = p by omega]
        exact (Int32.sub_eq_add_neg ..).symm
      have hstep : ∀ v5, f_X5_placeInRow_L25 sh ln j v2 (nI s) v4 μ v5 (nI p) = some (.inl (if fit G n s p = true then nI p else v5, nI p + (-1 : Int32))) := fun v5 => by
        unfold f_X5_placeInRow_L25
        rw [if_neg (show ¬ nI p < (0 : Int32) from nI_nneg (by omega)), k_mayFollow hL hn hG hs (by omega), Option.bind_some]
        unfold fit
        cases hm : MF G s p
        · rw [if_pos (show bI false = 0 from rfl)]; rfl
        · have hu := or_up hs (show p < n by omega) (MF_tb hm)
          have hlt := RT_lt (G := G) hn (i := 2 ^ n) hu.2
          have el : (nI (WW G n (s ||| 2 ^ p)) ≤ (0 : Int32)) = (WW G n (s ||| 2 ^ p) ≤ 0) := q_le (b := 0) hlt (by omega)
          rw [if_neg (show ¬ bI true = 0 by decide), pow_sh (by omega), q_or, k_at (by omega) (by omega), Option.bind_some, hW _ hu.2]
          by_cases c : 0 < WW G n (s ||| 2 ^ p)
          · rw [if_neg (fun x => by have := el.mp x; omega), decide_eq_true c]; rfl
          · rw [if_pos (el.mpr (by omega)), decide_eq_false c]; rfl
      rcases hI with ⟨q, hq, hq2, hf, hlo, rfl⟩ | ⟨hlo, rfl⟩
      · refine ⟨_, by show f_X5_placeInRow_L25 sh ln j v2 (nI s) v4 μ (nI q) (nI (n - i) - (1 : Int32)) = _; rw [ep]; exact hstep _, ?_⟩
        left
        by_cases c : fit G n s p = true
        · refine ⟨p, by omega, by omega, c, fun x h1 h3 => by omega, ?_⟩
          rw [if_pos c, ep2]
        · refine ⟨q, hq, by omega, hf, fun x h1 h3 => ?_, ?_⟩
          · by_cases e : x = p
            · rw [e]; cases hh : fit G n s p; rfl; exact absurd hh c
            · exact hlo x (by omega) h3
          · rw [if_neg c, ep2]
      · refine ⟨_, by show f_X5_placeInRow_L25 sh ln j v2 (nI s) v4 μ (-nI 1) (nI (n - i) - (1 : Int32)) = _; rw [ep]; exact hstep _, ?_⟩
        by_cases c : fit G n s p = true
        · left
          refine ⟨p, by omega, by omega, c, fun x h1 h3 => by omega, ?_⟩
          rw [if_pos c, ep2]
        · right
          refine ⟨fun x h1 h3 => ?_, ?_⟩
          · by_cases e : x = p
            · rw [e]; cases hh : fit G n s p; rfl; exact absurd hh c
            · exact hlo x (by omega) h3
          · rw [if_neg c, ep2]
    · intro z hI
      have eneg : nI (n - n) - (1 : Int32) < 0 := by rw [Nat.sub_self]; decide
      rcases hI with ⟨q, hq, hq2, hf, hlo, rfl⟩ | ⟨hlo, rfl⟩
      · have hxn : nxp G n s = q := by
          have h1 : nxp G n s ≤ q := by
            by_cases c : q < nxp G n s
            · have := sp.2.2 q c
              rw [hf] at this; cases this
            · omega
          by_cases c : nxp G n s < q
          · have h3 := sp.2.1 (show oc (fit G n s) n < n by have : oc (fit G n s) n < q := c; omega)
            have h4 := hlo (nxp G n s) (by omega) c
            rw [show fit G n s (nxp G n s) = true from h3] at h4
            cases h4
          · omega
        refine ⟨_, ?_, rfl⟩
        show f_X5_placeInRow_L25 sh ln j v2 (nI s) v4 μ (nI q) (nI (n - n) - (1 : Int32)) = _
        unfold f_X5_placeInRow_L25
        have hq1 : ¬ nI q = (-1 : Int32) := by
          have : ∀ q, q < 7 → ¬ nI q = (-1 : Int32) := by decide
          exact this q (by omega)
        rw [if_pos eneg, if_neg hq1, hxn, if_neg (show ¬ q = n by omega), pow_sh (by omega), q_or]
        by_cases c : v4 = v2
        · rw [if_pos c, if_pos c]; rfl
        · rw [if_neg c, if_neg c]; rfl
      · have hxn : nxp G n s = n := by
          by_cases c : nxp G n s < n
          · have h3 := sp.2.1 c
            have h4 := hlo (nxp G n s) (by omega) c
            rw [show fit G n s (nxp G n s) = true from h3] at h4
            cases h4
          · have := sp.1
            have : nxp G n s ≤ n := this
            omega
        refine ⟨_, ?_, rfl⟩
        show f_X5_placeInRow_L25 sh ln j v2 (nI s) v4 μ (-nI 1) (nI (n - n) - (1 : Int32)) = _
        unfold f_X5_placeInRow_L25
        rw [if_pos eneg, if_pos (show -nI 1 = (-1 : Int32) from rfl), if_pos hxn]
        rfl
  obtain ⟨_, e, rfl⟩ := hh
  exact e
theorem k_place (h1 : μ (13, j) 1 = nI n) (hL : LN ln) (hn : n ≤ 7) (hG : ∀ p, p < n → μ (12, 13) p = G p) (hW : ∀ s, s < 2 ^ n → μ (12, 11) s = nI (WW G n s)) {k : Nat} (hk : k < 2147483648) : ∀ f c s, c + f = n + 1 → s < 2 ^ n →
    0 < f → Wh (fun z : Int32 × Int32 => f_X5_placeInRow_L5 sh ln j (nI k) μ z.1 z.2) (nI s, nI c) = some (pv G n k f c s) := by
  intro f
  induction f with
  | zero => intro c s h1 h2 h3; omega
  | succ f ih =>
    intro c s hc hs _
    unfold pv
    by_cases c1 : n ≤ c
    · rw [if_pos c1]
      refine Wh_end ?_
      show f_X5_placeInRow_L5 sh ln j (nI k) μ (nI s) (nI c) = _
      unfold f_X5_placeInRow_L5
      rw [h1, if_pos (show nI n ≤ nI c by rw [q_le (by omega) (by omega)]; exact c1)]
      rfl
    · rw [if_neg c1]
      have hsc := k_scan (sh := sh) (j := j) hL hn hG hW hs (v2 := nI k) (v4 := nI c)
      have ec : (nI c = nI k) = (c = k) := q_eq (by omega) hk
      have hf : f_X5_placeInRow_L5 sh ln j (nI k) μ (nI s) (nI c) = some (if nxp G n s = n then .inr (-nI 1) else if nI c = nI k then .inr (nI (nxp G n s)) else .inl (nI (s ||| 2 ^ nxp G n s), nI c + (1 : Int32))) := by
        unfold f_X5_placeInRow_L5
        rw [h1, if_neg (show ¬ nI n ≤ nI c by rw [q_le (by omega) (by omega)]; exact c1), hsc]
      by_cases c2 : nxp G n s = n
      · rw [if_pos c2] at hf ⊢
        exact Wh_end hf
      · rw [if_neg c2] at hf ⊢
        by_cases c3 : c = k
        · rw [if_pos (ec.mpr c3)] at hf
          rw [if_pos c3]
          exact Wh_end hf
        · rw [if_neg (fun x => c3 (ec.mp x)), show (1 : Int32) = nI 1 from rfl, nI_add] at hf
          rw [if_neg c3]
          have hx : nxp G n s < n := by
            have : nxp G n s ≤ n := (oc_sp (fit G n s) n).1
            omega
          obtain ⟨hm, hw2⟩ := fit_ok hx
          exact Wh_step hf (ih (c + 1) (s ||| 2 ^ nxp G n s) (by omega) (or_up hs hx (MF_tb hm)).2 (by omega))
end PLCK
