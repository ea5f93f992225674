-- the first one that fits
def fstN : Nat → (Nat → Bool) → Option Nat
  | 0, _ => none
  | m + 1, f => match fstN m f with
    | some k => some k
    | none => if f m = true then some m else none
def oN : Option Nat → Int32
  | some k => nI k
  | none => -nI 1
theorem fstN_none {m : Nat} {f : Nat → Bool} (h : ∀ i, i < m → f i = false) : fstN m f = none := by
  induction m with
  | zero => rfl
  | succ m ih =>
    rw [fstN, ih (fun i hi => h i (by omega))]
    simp [h m (by omega)]
theorem fstN_some {m k : Nat} {f : Nat → Bool} (hk : k < m) (hf : f k = true) (h : ∀ i, i < k → f i = false) : fstN m f = some k := by
  induction m with
  | zero => omega
  | succ m ih =>
    rw [fstN]
    by_cases e : k = m
    · subst e
      rw [fstN_none h]
      simp [hf]
    · rw [ih (by omega)]
theorem fstN_spec {m : Nat} {f : Nat → Bool} : (fstN m f = none ∧ ∀ i, i < m → f i = false) ∨ ∃ k, fstN m f = some k ∧ k < m ∧ f k = true ∧ ∀ i, i < k → f i = false := by
  induction m with
  | zero => exact Or.inl ⟨rfl, fun i hi => by omega⟩
  | succ m ih =>
    rcases ih with ⟨h1, h2⟩ | ⟨k, h1, h2, h3, h4⟩
    · by_cases c : f m = true
      · exact Or.inr ⟨m, by rw [fstN, h1]; simp [c], by omega, c, h2⟩
      · refine Or.inl ⟨by rw [fstN, h1]; simp [c], fun i hi => ?_⟩
        by_cases e : i = m
        · subst e; exact Bool.not_eq_true _ ▸ c
        · exact h2 i (by omega)
    · exact Or.inr ⟨k, by rw [fstN, h1], by omega, h3, h4⟩
theorem fstN_congr {m : Nat} {f g : Nat → Bool} (h : ∀ i, i < m → f i = g i) : fstN m f = fstN m g := by
  induction m with
  | zero => rfl
  | succ m ih => rw [fstN, fstN, ih (fun i hi => h i (by omega)), h m (by omega)]
theorem nar_b (b : Bool) : vp_nar .boolean (bI b) = bI b := by cases b <;> decide +kernel
theorem nar_1 : vp_nar .boolean (nI 1) = nI 1 := by decide +kernel
theorem nar_0 : vp_nar .boolean (nI 0) = nI 0 := by decide +kernel
theorem nI_nneg {k : Nat} (h : k < 2147483648) : ¬ nI k < nI 0 := by rw [q_lt h (by omega)]; omega
/-- the place of a world by a test and how many are ahead of it -/
def nthf (h : Nat → Bool) (k : Int32) (w : Nat) : Bool := h w && decide (nI (cnt w h) = k)
theorem k_become {sh : Sh} {ln : Nat → Nat} {c c1 : Nat} {μ : Mm} {m : Nat} (h0 : m ≤ ln c) (h1 : m ≤ ln c1) (hc : ln c < 2147483648) (hc1 : ln c1 < 2147483648) : f_X1_become sh ln c c1 μ (nI m) = some (mrow μ (12, c) (fun i => if i < m then μ (12, c1) i else μ (12, c) i)) := by
  have e1 : (if nI (ln c1) < nI m then nI (ln c1) else nI m) = nI m := if_neg (nI_nlt h1 (by omega))
  have e2 : (if (0 : Int32) < nI m then nI m else (0 : Int32)) = nI m := by
    by_cases h : 0 < m
    · exact if_pos (nI_lt h (by omega))
    · have e : m = 0 := by omega
      subst e
      rfl
  have e3 : f_X1_grow sh ln c μ (nI m) = some μ := by simp (disch := omega) only [Option.bind_some, Option.map_some, Option.bind_none, q_lit, nI_add, pk_mul, q_sub, q_addn, q_cl, q_le, q_lt, q_eq, q_ck, q_cd, q_cb0, q_cb1, q_div, q_rem, q_shl1, q_shr, q_and, q_or, q_tb, if_pos, if_neg, if_true, if_false, not_true, not_false_iff, eq_self, Bool.true_eq_false, Bool.false_eq_true, q_bI0, q_bI1, q_cbI, Nat.or_zero, mst_row, mrow_neA, mrow_neB, mrow_self, q_upd, f_X1_grow, h0]
  have e4 : ∀ x : Option Mm, cc (ln c1) (ln c) (nI 0) (nI 0) (nI m) x = x := fun x => by
    unfold cc
    rw [if_pos]
    rw [q_cl (by omega), q_cl (by omega)]
    exact ⟨nI_nneg (by omega), nI_nneg (by omega), nI_nneg (by omega), by omega, by omega⟩
  have e5 : va_cpy (μ (12, c1)) (μ (12, c)) 0 0 m = (fun i => if i < m then μ (12, c1) i else μ (12, c) i) := by
    funext i
    unfold va_cpy
    by_cases h : i < m
    · rw [if_pos ⟨by omega, by omega⟩, if_pos h, Nat.sub_zero, Nat.zero_add]
    · rw [if_neg (by omega), if_neg h]
  unfold f_X1_become
  rw [e1, e2, e3, Option.bind_some, show (0 : Int32) = nI 0 from rfl, e4, q_cl (by omega), q_cl (by omega), e5]
section TWO
variable {sh : Sh} {ln : Nat → Nat} {μ : Mm} {j V n N w0 : Nat} {r : Nat → Int32}
theorem k_heldAt (h : CS ln μ j V n N w0 r) {v : Int32} {t : Nat → Bool} (hv : (v = -nI 1 ∧ t = lf r) ∨ (∃ p, p < n ∧ v = nI p ∧ t = hld r p w0)) (k : Int32) : f_X4_heldAt sh ln j μ v k = some (oN (fstN N (nthf t k))) := by
  have hb := h.1.b
  have hh : ∃ x, f_X4_heldAt sh ln j μ v k = some x ∧ x = oN (fstN N (nthf t k)) := by
    unfold f_X4_heldAt
    refine Wh_inv N (fun i s => s = (nI (cnt i t), nI i) ∧ ∀ u, u < i → nthf t k u = false) _ ⟨rfl, fun u hu => by omega⟩ ?_ ?_
    · rintro i _ hi ⟨rfl, hA⟩
      have ht : (if v = -1 then f_X6_stands sh ln j μ (nI i) else f_X4_holdsWorld sh ln j μ v (nI i)) = some (bI (t i)) := by
        rcases hv with ⟨rfl, rfl⟩ | ⟨p, hp, rfl, rfl⟩
        · rw [if_pos (show (-nI 1 : Int32) = -1 from rfl), k_stands h hi]
        · have h3 : ∀ k, k < 9 → ¬ nI k = -1 := by decide +kernel
          rw [if_neg (h3 p (by omega)), k_holdsWorld h hp hi]
      have es : cnt (i + 1) t = cnt i t + (if t i = true then 1 else 0) := rfl
      have step : f_X4_heldAt_L6 sh ln j v k μ (nI (cnt i t)) (nI i) = if t i = false then some (.inl (nI (cnt i t), nI i + 1)) else (if nI (cnt i t) = k then some (.inr (nI i)) else some (.inl (nI (cnt i t) + 1, nI i + 1))) := by
        unfold f_X4_heldAt_L6
        rw [h.c2, if_neg (by rw [q_le (by omega) (by omega)]; omega)]
        by_cases c : v = -1
        · rw [if_pos c] at ht
          rw [if_pos c, ht, Option.bind_some]
          cases t i <;> simp [bI_t, bI_f, nI_0]
          exact fun e => absurd e (by decide)
        · rw [if_neg c] at ht
          rw [if_neg c, ht, Option.bind_some]
          cases t i <;> simp [bI_t, bI_f, nI_0]
          exact fun e => absurd e (by decide)
      show (∃ s', f_X4_heldAt_L6 sh ln j v k μ (nI (cnt i t)) (nI i) = some (.inl s') ∧ _) ∨ (∃ r, f_X4_heldAt_L6 sh ln j v k μ (nI (cnt i t)) (nI i) = some (.inr r) ∧ _)
      rw [step]
      by_cases c : t i = true
      · rw [if_neg (by rw [c]; decide)]
        by_cases c2 : nI (cnt i t) = k
        · rw [if_pos c2]
          refine Or.inr ⟨nI i, rfl, ?_⟩
          rw [fstN_some hi (by unfold nthf; simp [c, c2]) hA]
          rfl
        · rw [if_neg c2]
          refine Or.inl ⟨_, rfl, by rw [es, if_pos c, nI_1, nI_1], fun u hu => ?_⟩
          by_cases e : u = i
          · subst e; unfold nthf; simp [c2]
          · exact hA u (by omega)
      · have c := Bool.not_eq_true _ ▸ c
        rw [if_pos c]
        refine Or.inl ⟨_, rfl, by rw [es, if_neg (by rw [c]; decide), nI_1]; rfl, fun u hu => ?_⟩
        by_cases e : u = i
        · subst e; unfold nthf; simp [c]
        · exact hA u (by omega)
    · rintro _ ⟨rfl, hA⟩
      refine ⟨-nI 1, ?_, by rw [fstN_none hA]; rfl⟩
      show f_X4_heldAt_L6 sh ln j v k μ (nI (cnt N t)) (nI N) = _
      simp (disch := omega) only [Option.bind_some, Option.map_some, Option.bind_none, q_lit, nI_add, pk_mul, q_sub, q_addn, q_cl, q_le, q_lt, q_eq, q_ck, q_cd, q_cb0, q_cb1, q_div, q_rem, q_shl1, q_shr, q_and, q_or, q_tb, if_pos, if_neg, if_true, if_false, not_true, not_false_iff, eq_self, Bool.true_eq_false, Bool.false_eq_true, q_bI0, q_bI1, q_cbI, Nat.or_zero, mst_row, mrow_neA, mrow_neB, mrow_self, q_upd, f_X4_heldAt_L6, h.c2, Nat.le_refl]
  obtain ⟨_, e, rfl⟩ := hh
  exact e
theorem q_nth (h : RS μ V n N w0 r) {v : Int32} {t : Nat → Bool} (hv : (v = -nI 1 ∧ t = lf r) ∨ (∃ p, p < n ∧ v = nI p ∧ t = hld r p w0)) (k : Int32) : Wh (fun z : Int32 × Int32 => f_X11_nth_L38 v k μ z.1 z.2) (k, nI 0) = some (oN (fstN N (nthf t k)), μ) := by
  have hb := h.2.b
  have hw0 := hb.2.2.2.2.2
  by_cases hk0 : k < 0
  · have hN : fstN N (nthf t k) = none := fstN_none (fun i hi => by
      have hc := cnt_le i t
      unfold nthf
      have : ¬ nI (cnt i t) = k := fun e => by rw [← e] at hk0; exact nI_pos (by omega) hk0
      simp [this])
    rw [hN]
    refine Wh_end ?_
    show f_X11_nth_L38 v k μ k (nI 0) = _
    by_cases c : N ≤ 0
    · omega
    · unfold f_X11_nth_L38
      rw [q_worlds h, Option.bind_some, if_neg (by rw [q_le (by omega) (by omega)]; omega), if_pos hk0]
      rfl
  obtain ⟨kk, hkk, rfl⟩ := nI_of hk0
  have hkk : kk < 2147483648 := hkk
  have hh : ∃ x, Wh (fun z : Int32 × Int32 => f_X11_nth_L38 v (nI kk) μ z.1 z.2) (nI kk, nI 0) = some x ∧ x = (oN (fstN N (nthf t (nI kk))), μ) := by
    refine Wh_inv N (fun i s => s = (nI (kk - cnt i t), nI i) ∧ cnt i t ≤ kk ∧ ∀ u, u < i → nthf t (nI kk) u = false) _ ⟨rfl, Nat.zero_le _, fun u hu => by omega⟩ ?_ ?_
    · rintro i _ hi ⟨rfl, hle, hA⟩
      have hci := cnt_le i t
      have es : cnt (i + 1) t = cnt i t + (if t i = true then 1 else 0) := rfl
      have step : f_X11_nth_L38 v (nI kk) μ (nI (kk - cnt i t)) (nI i) = if t i = false then some (.inl (nI (kk - cnt i t), nI (i + 1))) else (if kk - cnt i t = 0 then some (.inr (nI i, μ)) else some (.inl (nI (kk - cnt i t - 1), nI (i + 1)))) := by
        rcases hv with ⟨rfl, rfl⟩ | ⟨p, hp, rfl, rfl⟩
        · by_cases c : lf r i = true
          · by_cases c2 : kk - cnt i (lf r) = 0
            · simp (disch := omega) only [Option.bind_some, Option.map_some, Option.bind_none, q_lit, nI_add, pk_mul, q_sub, q_addn, q_cl, q_le, q_lt, q_eq, q_ck, q_cd, q_cb0, q_cb1, q_div, q_rem, q_shl1, q_shr, q_and, q_or, q_tb, if_pos, if_neg, if_true, if_false, not_true, not_false_iff, eq_self, Bool.true_eq_false, Bool.false_eq_true, q_bI0, q_bI1, q_cbI, Nat.or_zero, mst_row, mrow_neA, mrow_neB, mrow_self, q_upd, f_X11_nth_L38, q_worlds h, q_isLeft h hi, c, c2]
            · simp (disch := omega) only [Option.bind_some, Option.map_some, Option.bind_none, q_lit, nI_add, pk_mul, q_sub, q_addn, q_cl, q_le, q_lt, q_eq, q_ck, q_cd, q_cb0, q_cb1, q_div, q_rem, q_shl1, q_shr, q_and, q_or, q_tb, if_pos, if_neg, if_true, if_false, not_true, not_false_iff, eq_self, Bool.true_eq_false, Bool.false_eq_true, q_bI0, q_bI1, q_cbI, Nat.or_zero, mst_row, mrow_neA, mrow_neB, mrow_self, q_upd, f_X11_nth_L38, q_worlds h, q_isLeft h hi, c, c2]
          · have c := Bool.not_eq_true _ ▸ c
            simp (disch := omega) only [Option.bind_some, Option.map_some, Option.bind_none, q_lit, nI_add, pk_mul, q_sub, q_addn, q_cl, q_le, q_lt, q_eq, q_ck, q_cd, q_cb0, q_cb1, q_div, q_rem, q_shl1, q_shr, q_and, q_or, q_tb, if_pos, if_neg, if_true, if_false, not_true, not_false_iff, eq_self, Bool.true_eq_false, Bool.false_eq_true, q_bI0, q_bI1, q_cbI, Nat.or_zero, mst_row, mrow_neA, mrow_neB, mrow_self, q_upd, f_X11_nth_L38, q_worlds h, q_isLeft h hi, c]
        · have h3 : ∀ k, k < 9 → ¬ nI k = -nI 1 := by decide +kernel
          have h4 := h3 p (by omega)
          have l1 := (h.2.hb hp hi).2
          have l2 := (h.2.hb hp hw0).2
          have hd : hld r p w0 i = (lf r i && decide (lab r p i = lab r p w0)) := rfl
          by_cases c : lf r i = true
          · by_cases c3 : lab r p i = lab r p w0
            · by_cases c2 : kk - cnt i (hld r p w0) = 0
              · simp (disch := omega) only [Option.bind_some, Option.map_some, Option.bind_none, q_lit, nI_add, pk_mul, q_sub, q_addn, q_cl, q_le, q_lt, q_eq, q_ck, q_cd, q_cb0, q_cb1, q_div, q_rem, q_shl1, q_shr, q_and, q_or, q_tb, if_pos, if_neg, if_true, if_false, not_true, not_false_iff, eq_self, Bool.true_eq_false, Bool.false_eq_true, q_bI0, q_bI1, q_cbI, Nat.or_zero, mst_row, mrow_neA, mrow_neB, mrow_self, q_upd, f_X11_nth_L38, q_worlds h, q_here h, q_isLeft h hi, c, c2, h4, q_label h hp hi, q_label h hp hw0, c3, hd, decide_true, Bool.and_self]
              · simp (disch := omega) only [Option.bind_some, Option.map_some, Option.bind_none, q_lit, nI_add, pk_mul, q_sub, q_addn, q_cl, q_le, q_lt, q_eq, q_ck, q_cd, q_cb0, q_cb1, q_div, q_rem, q_shl1, q_shr, q_and, q_or, q_tb, if_pos, if_neg, if_true, if_false, not_true, not_false_iff, eq_self, Bool.true_eq_false, Bool.false_eq_true, q_bI0, q_bI1, q_cbI, Nat.or_zero, mst_row, mrow_neA, mrow_neB, mrow_self, q_upd, f_X11_nth_L38, q_worlds h, q_here h, q_isLeft h hi, c, c2, h4, q_label h hp hi, q_label h hp hw0, c3, hd, decide_true, Bool.and_self]
            · simp (disch := omega) only [Option.bind_some, Option.map_some, Option.bind_none, q_lit, nI_add, pk_mul, q_sub, q_addn, q_cl, q_le, q_lt, q_eq, q_ck, q_cd, q_cb0, q_cb1, q_div, q_rem, q_shl1, q_shr, q_and, q_or, q_tb, if_pos, if_neg, if_true, if_false, not_true, not_false_iff, eq_self, Bool.true_eq_false, Bool.false_eq_true, q_bI0, q_bI1, q_cbI, Nat.or_zero, mst_row, mrow_neA, mrow_neB, mrow_self, q_upd, f_X11_nth_L38, q_worlds h, q_here h, q_isLeft h hi, c, h4, q_label h hp hi, q_label h hp hw0, c3, hd, decide_false, Bool.and_false]
          · have c := Bool.not_eq_true _ ▸ c
            simp (disch := omega) only [Option.bind_some, Option.map_some, Option.bind_none, q_lit, nI_add, pk_mul, q_sub, q_addn, q_cl, q_le, q_lt, q_eq, q_ck, q_cd, q_cb0, q_cb1, q_div, q_rem, q_shl1, q_shr, q_and, q_or, q_tb, if_pos, if_neg, if_true, if_false, not_true, not_false_iff, eq_self, Bool.true_eq_false, Bool.false_eq_true, q_bI0, q_bI1, q_cbI, Nat.or_zero, mst_row, mrow_neA, mrow_neB, mrow_self, q_upd, f_X11_nth_L38, q_worlds h, q_isLeft h hi, c, hd, Bool.false_and]
      show (∃ s', f_X11_nth_L38 v (nI kk) μ (nI (kk - cnt i t)) (nI i) = some (.inl s') ∧ _) ∨ (∃ r, f_X11_nth_L38 v (nI kk) μ (nI (kk - cnt i t)) (nI i) = some (.inr r) ∧ _)
      rw [step]
      by_cases c : t i = true
      · rw [if_neg (by rw [c]; decide)]
        by_cases c2 : kk - cnt i t = 0
        · rw [if_pos c2]
          refine Or.inr ⟨(nI i, μ), rfl, ?_⟩
          rw [fstN_some hi (by unfold nthf; rw [show cnt i t = kk by omega]; simp [c]) hA]
          rfl
        · rw [if_neg c2]
          refine Or.inl ⟨_, rfl, by rw [es, if_pos c, Nat.sub_sub], by rw [es, if_pos c]; omega, fun u hu => ?_⟩
          by_cases e : u = i
          · subst e
            unfold nthf
            have : ¬ nI (cnt u t) = nI kk := by rw [q_eq (by omega) (by omega)]; omega
            simp [this]
          · exact hA u (by omega)
      · have c := Bool.not_eq_true _ ▸ c
        rw [if_pos c]
        refine Or.inl ⟨_, rfl, by rw [es, if_neg (by rw [c]; decide)]; rfl, by rw [es, if_neg (by rw [c]; decide)]; exact hle, fun u hu => ?_⟩
        by_cases e : u = i
        · subst e; unfold nthf; simp [c]
        · exact hA u (by omega)
    · rintro _ ⟨rfl, hle, hA⟩
      refine ⟨(-nI 1, μ), ?_, by rw [fstN_none hA]; rfl⟩
      show f_X11_nth_L38 v (nI kk) μ (nI (kk - cnt N t)) (nI N) = _
      simp (disch := omega) only [Option.bind_some, Option.map_some, Option.bind_none, q_lit, nI_add, pk_mul, q_sub, q_addn, q_cl, q_le, q_lt, q_eq, q_ck, q_cd, q_cb0, q_cb1, q_div, q_rem, q_shl1, q_shr, q_and, q_or, q_tb, if_pos, if_neg, if_true, if_false, not_true, not_false_iff, eq_self, Bool.true_eq_false, Bool.false_eq_true, q_bI0, q_bI1, q_cbI, Nat.or_zero, mst_row, mrow_neA, mrow_neB, mrow_self, q_upd, f_X11_nth_L38, q_worlds h, Nat.le_refl]
  obtain ⟨_, e, rfl⟩ := hh
  exact e
end TWO
