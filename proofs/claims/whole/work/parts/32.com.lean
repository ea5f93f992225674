-- what all know in common
theorem anyN_congr {m : Nat} {f g : Nat → Bool} (h : ∀ k, k < m → f k = g k) : anyN m f = anyN m g := by
  induction m with
  | zero => rfl
  | succ m ih => rw [anyN, anyN, ih (fun k hk => h k (by omega)), h m (by omega)]
theorem anyN_false {m : Nat} {f : Nat → Bool} (h : anyN m f = false) : ∀ k, k < m → f k = false := fun k hk => by
  cases c : f k
  · rfl
  · have := anyN_iff.mpr ⟨k, hk, c⟩
    rw [h] at this
    cases this
theorem anyN_of {m : Nat} {f : Nat → Bool} (h : ∀ k, k < m → f k = false) : anyN m f = false := by
  induction m with
  | zero => rfl
  | succ m ih => rw [anyN, ih (fun k hk => h k (by omega)), h m (by omega)]; rfl
def gon (r : Nat → Int32) (p N : Nat) (c : Nat → Bool) (g : Nat) : Bool := anyN N (fun u => c u && decide (lab r p u = g))
def sprd (r : Nat → Int32) (p N : Nat) (c : Nat → Bool) (w : Nat) : Bool := c w || (lf r w && gon r p N c (lab r p w))
def newb (r : Nat → Int32) (p N : Nat) (c : Nat → Bool) (m : Nat) : Bool := anyN m (fun w => !c w && (lf r w && gon r p N c (lab r p w)))
def rnd (r : Nat → Int32) (N : Nat) (c : Nat → Bool) : Nat → (Nat → Bool)
  | 0 => c
  | m + 1 => sprd r m N (rnd r N c m)
def rnf (r : Nat → Int32) (N : Nat) (c : Nat → Bool) : Nat → Bool
  | 0 => false
  | m + 1 => rnf r N c m || newb r m N (rnd r N c m) N
def itr (r : Nat → Int32) (n N : Nat) (c : Nat → Bool) : Nat → (Nat → Bool)
  | 0 => c
  | k + 1 => rnd r N (itr r n N c k) n
theorem gon_congr {r : Nat → Int32} {p N : Nat} {c c' : Nat → Bool} (h : ∀ w, w < N → c w = c' w) (g : Nat) : gon r p N c g = gon r p N c' g := anyN_congr (fun u hu => by rw [h u hu])
theorem sprd_congr {r : Nat → Int32} {p N : Nat} {c c' : Nat → Bool} (h : ∀ w, w < N → c w = c' w) : ∀ w, w < N → sprd r p N c w = sprd r p N c' w := fun w hw => by
  unfold sprd
  rw [h w hw, gon_congr h]
theorem rnd_congr {r : Nat → Int32} {N : Nat} {c c' : Nat → Bool} (h : ∀ w, w < N → c w = c' w) (m : Nat) : ∀ w, w < N → rnd r N c m w = rnd r N c' m w := by
  induction m with
  | zero => exact h
  | succ m ih => exact sprd_congr ih
theorem sprd_old {r : Nat → Int32} {p N : Nat} {c : Nat → Bool} (h : newb r p N c N = false) : ∀ w, w < N → sprd r p N c w = c w := fun w hw => by
  have := anyN_false h w hw
  unfold sprd
  revert this
  cases c w <;> simp
theorem rnf_old {r : Nat → Int32} {N : Nat} {c : Nat → Bool} (m : Nat) (h : rnf r N c m = false) : ∀ w, w < N → rnd r N c m w = c w := by
  induction m with
  | zero => exact fun w _ => rfl
  | succ m ih =>
    rw [rnf, Bool.or_eq_false_iff] at h
    intro w hw
    show sprd r m N (rnd r N c m) w = c w
    rw [sprd_old h.2 w hw, ih h.1 w hw]
theorem cnt_mono {m : Nat} {f g : Nat → Bool} (h : ∀ u, u < m → f u = true → g u = true) : cnt m f ≤ cnt m g := by
  induction m with
  | zero => exact Nat.le_refl _
  | succ m ih =>
    rw [cnt_s, cnt_s]
    have h1 := ih (fun u hu => h u (by omega))
    have h2 := h m (by omega)
    by_cases c : f m = true
    · rw [if_pos c, if_pos (h2 c)]; omega
    · rw [if_neg c]; split <;> omega
theorem cnt_less {m w : Nat} {f g : Nat → Bool} (h : ∀ u, u < m → f u = true → g u = true) (hw : w < m) (hf : f w = false) (hg : g w = true) : cnt m f + 1 ≤ cnt m g := by
  induction m with
  | zero => omega
  | succ m ih =>
    rw [cnt_s, cnt_s]
    by_cases e : w = m
    · subst e
      have := cnt_mono (fun u hu => h u (Nat.lt_succ_of_lt hu))
      rw [if_neg (by rw [hf]; decide), if_pos hg]; omega
    · have h1 := ih (fun u hu => h u (by omega)) (by omega)
      have h2 := h m (by omega)
      by_cases c : f m = true
      · rw [if_pos c, if_pos (h2 c)]; omega
      · rw [if_neg c]; split <;> omega
theorem sprd_mono {r : Nat → Int32} {p N : Nat} {c : Nat → Bool} (w : Nat) (h : c w = true) : sprd r p N c w = true := by unfold sprd; rw [h]; rfl
theorem rnd_mono {r : Nat → Int32} {N : Nat} {c : Nat → Bool} (m w : Nat) (h : c w = true) : rnd r N c m w = true := by
  induction m with
  | zero => exact h
  | succ m ih => exact sprd_mono w ih
theorem rnf_new {r : Nat → Int32} {N : Nat} {c : Nat → Bool} (m : Nat) (h : rnf r N c m = true) : cnt N c + 1 ≤ cnt N (rnd r N c m) := by
  induction m with
  | zero => cases h
  | succ m ih =>
    have hm : cnt N (rnd r N c m) ≤ cnt N (rnd r N c (m + 1)) := cnt_mono (fun u _ hu => sprd_mono u hu)
    have h0 : cnt N c ≤ cnt N (rnd r N c m) := cnt_mono (fun u _ hu => rnd_mono m u hu)
    rw [rnf, Bool.or_eq_true] at h
    rcases h with h | h
    · have := ih h; omega
    · obtain ⟨w, hw, hx⟩ := anyN_iff.mp h
      have hx : (!rnd r N c m w && (lf r w && gon r m N (rnd r N c m) (lab r m w))) = true := hx
      rw [Bool.and_eq_true] at hx
      have h3 : rnd r N c m w = false := by
        have := hx.1
        revert this
        cases rnd r N c m w <;> simp
      have := cnt_less (m := N) (w := w) (f := rnd r N c m) (g := rnd r N c (m + 1)) (fun u _ hu => sprd_mono u hu) hw h3 (by show sprd r m N (rnd r N c m) w = true; unfold sprd; rw [h3, hx.2]; rfl)
      omega
theorem itr_fix {r : Nat → Int32} {n N k : Nat} {c : Nat → Bool} (h : rnf r N (itr r n N c k) n = false) (i : Nat) : ∀ w, w < N → itr r n N c (k + i) w = itr r n N c k w := by
  induction i with
  | zero => exact fun w _ => rfl
  | succ i ih =>
    intro w hw
    show rnd r N (itr r n N c (k + i)) n w = _
    rw [rnd_congr ih n w hw, rnf_old n h w hw]
theorem itr_mono {r : Nat → Int32} {n N : Nat} {c : Nat → Bool} (k w : Nat) (h : c w = true) : itr r n N c k w = true := by
  induction k with
  | zero => exact h
  | succ k ih => exact rnd_mono n w ih
/-- whether a round is due: at first, and as long as the round before was not in vain -/
def due (r : Nat → Int32) (n N : Nat) (c : Nat → Bool) : Nat → Bool
  | 0 => true
  | k + 1 => rnf r N (itr r n N c k) n
theorem due_all {r : Nat → Int32} {n N : Nat} {c : Nat → Bool} {k : Nat} (h : ∀ i, i ≤ k → due r n N c i = true) (h0 : 1 ≤ cnt N c) : k + 1 ≤ cnt N (itr r n N c k) := by
  induction k with
  | zero => exact h0
  | succ k ih =>
    have h1 := ih (fun i hi => h i (by omega))
    have h2 := rnf_new n (h (k + 1) (Nat.le_refl _))
    have h3 : cnt N (itr r n N c (k + 1)) = cnt N (rnd r N (itr r n N c k) n) := rfl
    omega
theorem due_no {r : Nat → Int32} {n N : Nat} {c : Nat → Bool} {k : Nat} (h : due r n N c k = false) (hk : k ≤ N) : ∀ w, w < N → itr r n N c k w = itr r n N c N w := by
  cases k with
  | zero => cases h
  | succ k =>
    intro w hw
    have h1 := itr_fix h 1 w hw
    have h2 := itr_fix h (N - k) w hw
    rw [show k + (N - k) = N by omega] at h2
    rw [h1, h2]
def com0 (w0 : Nat) : Nat → Bool := fun w => decide (w = w0)
def comS (r : Nat → Int32) (V n N w0 q : Nat) (m : Nat) (c : Nat → Bool) : Nat := orN m (fun w => if c w = true then 2 ^ fig V n q w else 0)
theorem comS_lt {r : Nat → Int32} {V n N w0 q m : Nat} {c : Nat → Bool} (hV : 2 ≤ V ∧ V ≤ 4) : comS r V n N w0 q m c < 16 := by
  have h1 : comS r V n N w0 q m c < 2 ^ V := orN_lt (fun u _ => by
    split
    · exact Nat.pow_lt_pow_right (by decide) (fig_lt hV.1 n q u)
    · exact Nat.two_pow_pos _)
  have h2 : 2 ^ V ≤ 2 ^ 4 := Nat.pow_le_pow_right (by decide) hV.2
  omega
theorem comS_ne0 {r : Nat → Int32} {V n N w0 q m : Nat} {c : Nat → Bool} (hw : w0 < m) (hc : c w0 = true) : comS r V n N w0 q m c ≠ 0 := by
  intro e
  have h := (orN_tb (n := m) (f := fun w => if c w = true then 2 ^ fig V n q w else 0) (fig V n q w0)).mpr ⟨w0, hw, by rw [if_pos hc, tb_pow]⟩
  unfold comS at e
  rw [e] at h
  simp at h
theorem comS_congr {r : Nat → Int32} {V n N w0 q m : Nat} {c c' : Nat → Bool} (h : ∀ w, w < m → c w = c' w) : comS r V n N w0 q m c = comS r V n N w0 q m c' := orN_congr (fun w hw => by rw [h w hw])
def comv (r : Nat → Int32) (V n N w0 q : Nat) : Int32 := oo (comS r V n N w0 q N (itr r n N (com0 w0) N))
section COMQ
variable {μ : Mm} {V n N w0 : Nat} {r : Nat → Int32}
theorem q_comes (h : RS μ V n N w0 r) {p : Nat} (hp : p < n) {c : Nat → Bool} (hc : ∀ w, w < N → μ (25, 0) w = bI (c w)) :
    ∃ μ', f_X11_comes μ (nI p) = some (bI (newb r p N c N), μ') ∧ RS μ' V n N w0 r ∧ Fr [25, 26] μ μ' ∧ ∀ w, w < N → μ' (25, 0) w = bI (sprd r p N c w) := by
  have hb := h.2.b
  have hh : ∃ x, f_X11_comes μ (nI p) = some x ∧ ∃ μ', x = (bI (newb r p N c N), μ') ∧ RS μ' V n N w0 r ∧ Fr [25, 26] μ μ' ∧ ∀ w, w < N → μ' (25, 0) w = bI (sprd r p N c w) := by
    unfold f_X11_comes
    refine Wh_inv1 512 (fun k s => ∃ R, s = (mrow μ (26, 0) R, nI k) ∧ ∀ i, i < k → R i = nI 0) _ ⟨μ (26, 0), by rw [mrow_id]; rfl, fun i hi => by omega⟩ ?_ ?_
    · rintro k _ hk ⟨R, rfl, hR⟩
      refine ⟨(mrow μ (26, 0) (upd R k (nI 0)), nI (k + 1)), ?_, _, rfl, ?_⟩
      · show f_X11_comes_L2 (nI p) (mrow μ (26, 0) R) (nI k) = _
        simp (disch := omega) only [Option.bind_some, Option.map_some, Option.bind_none, q_lit, nI_add, pk_mul, q_sub, q_addn, q_cl, q_le, q_lt, q_eq, q_ck, q_cd, q_cb0, q_cb1, q_div, q_rem, q_shl1, q_shr, q_and, q_or, q_tb, if_pos, if_neg, if_true, if_false, not_true, not_false_iff, eq_self, Bool.true_eq_false, Bool.false_eq_true, q_bI0, q_bI1, q_cbI, Nat.or_zero, mst_row, mrow_neA, mrow_neB, mrow_self, q_upd, f_X11_comes_L2, mrow_mrow, nar_0]
      · intro i hi
        rw [q_upd]
        split
        · rfl
        · exact hR i (by omega)
    · rintro _ ⟨R, rfl, hR⟩
      have e : f_X11_comes_L2 (nI p) (mrow μ (26, 0) R) (nI 512) = (Wh (fun z : Mm × Int32 => f_X11_comes_L24 (nI p) z.1 z.2) (mrow μ (26, 0) R, nI 0)).map Sum.inr := by
        simp (disch := omega) only [Option.bind_some, Option.map_some, Option.bind_none, q_lit, nI_add, pk_mul, q_sub, q_addn, q_cl, q_le, q_lt, q_eq, q_ck, q_cd, q_cb0, q_cb1, q_div, q_rem, q_shl1, q_shr, q_and, q_or, q_tb, if_pos, if_neg, if_true, if_false, not_true, not_false_iff, eq_self, Bool.true_eq_false, Bool.false_eq_true, q_bI0, q_bI1, q_cbI, Nat.or_zero, mst_row, mrow_neA, mrow_neB, mrow_self, q_upd, f_X11_comes_L2]
      have hh : ∃ x, Wh (fun z : Mm × Int32 => f_X11_comes_L24 (nI p) z.1 z.2) (mrow μ (26, 0) R, nI 0) = some x ∧ ∃ μ', x = (bI (newb r p N c N), μ') ∧ RS μ' V n N w0 r ∧ Fr [25, 26] μ μ' ∧ ∀ w, w < N → μ' (25, 0) w = bI (sprd r p N c w) := by
        refine Wh_inv1 N (fun k s => ∃ R, s = (mrow μ (26, 0) R, nI k) ∧ ∀ i, i < 512 → R i = bI (anyN k (fun u => c u && decide (lab r p u = i)))) _ ⟨R, rfl, hR⟩ ?_ ?_
        · rintro k _ hk ⟨R, rfl, hR⟩
          have h' := h.row (a := 26) (b := 0) R (by omega)
          have hl := (h.2.hb hp hk).2
          have hck := hc k hk
          have ea : ∀ i, anyN (k + 1) (fun u => c u && decide (lab r p u = i)) = (anyN k (fun u => c u && decide (lab r p u = i)) || (c k && decide (lab r p k = i))) := fun i => rfl
          by_cases cc : c k = true
          · rw [cc] at hck
            refine ⟨(mrow μ (26, 0) (upd R (lab r p k) (nI 1)), nI (k + 1)), ?_, _, rfl, ?_⟩
            · show f_X11_comes_L24 (nI p) (mrow μ (26, 0) R) (nI k) = _
              simp (disch := omega) only [Option.bind_some, Option.map_some, Option.bind_none, q_lit, nI_add, pk_mul, q_sub, q_addn, q_cl, q_le, q_lt, q_eq, q_ck, q_cd, q_cb0, q_cb1, q_div, q_rem, q_shl1, q_shr, q_and, q_or, q_tb, if_pos, if_neg, if_true, if_false, not_true, not_false_iff, eq_self, Bool.true_eq_false, Bool.false_eq_true, q_bI0, q_bI1, q_cbI, Nat.or_zero, mst_row, mrow_neA, mrow_neB, mrow_self, q_upd, f_X11_comes_L24, q_worlds h', hck, bI_t, q_label h' hp hk, mrow_mrow, nar_1]
            · intro i hi
              rw [q_upd, ea]
              by_cases e : i = lab r p k
              · subst e; rw [if_pos rfl]; simp [cc, bI]
              · rw [if_neg e, hR i hi]; simp [Ne.symm e]
          · have cc := Bool.not_eq_true _ ▸ cc
            rw [cc] at hck
            refine ⟨(mrow μ (26, 0) R, nI (k + 1)), ?_, _, rfl, ?_⟩
            · show f_X11_comes_L24 (nI p) (mrow μ (26, 0) R) (nI k) = _
              simp (disch := omega) only [Option.bind_some, Option.map_some, Option.bind_none, q_lit, nI_add, pk_mul, q_sub, q_addn, q_cl, q_le, q_lt, q_eq, q_ck, q_cd, q_cb0, q_cb1, q_div, q_rem, q_shl1, q_shr, q_and, q_or, q_tb, if_pos, if_neg, if_true, if_false, not_true, not_false_iff, eq_self, Bool.true_eq_false, Bool.false_eq_true, q_bI0, q_bI1, q_cbI, Nat.or_zero, mst_row, mrow_neA, mrow_neB, mrow_self, q_upd, f_X11_comes_L24, q_worlds h', hck, bI_f]
            · intro i hi
              rw [hR i hi, ea]; simp [cc]
        · rintro _ ⟨R, rfl, hR⟩
          have h' := h.row (a := 26) (b := 0) R (by omega)
          have hg : ∀ i, i < 512 → R i = bI (gon r p N c i) := hR
          have e2 : f_X11_comes_L24 (nI p) (mrow μ (26, 0) R) (nI N) = (Wh (fun z : Mm × Int32 × Int32 => f_X11_comes_L63 (nI p) z.1 z.2.1 z.2.2) (mrow μ (26, 0) R, nI 0, nI 0)).map Sum.inr := by
            simp (disch := omega) only [Option.bind_some, Option.map_some, Option.bind_none, q_lit, nI_add, pk_mul, q_sub, q_addn, q_cl, q_le, q_lt, q_eq, q_ck, q_cd, q_cb0, q_cb1, q_div, q_rem, q_shl1, q_shr, q_and, q_or, q_tb, if_pos, if_neg, if_true, if_false, not_true, not_false_iff, eq_self, Bool.true_eq_false, Bool.false_eq_true, q_bI0, q_bI1, q_cbI, Nat.or_zero, mst_row, mrow_neA, mrow_neB, mrow_self, q_upd, f_X11_comes_L24, q_worlds h', Nat.le_refl]
          have hin : ∃ x, Wh (fun z : Mm × Int32 × Int32 => f_X11_comes_L63 (nI p) z.1 z.2.1 z.2.2) (mrow μ (26, 0) R, nI 0, nI 0) = some x ∧ ∃ μ', x = (bI (newb r p N c N), μ') ∧ RS μ' V n N w0 r ∧ Fr [25, 26] μ μ' ∧ ∀ w, w < N → μ' (25, 0) w = bI (sprd r p N c w) := by
            refine Wh_inv1 N (fun k s => ∃ C, s = (mrow (mrow μ (26, 0) R) (25, 0) C, bI (newb r p N c k), nI k) ∧ ∀ w, w < N → C w = bI (if w < k then sprd r p N c w else c w)) _ ⟨μ (25, 0), ?_, fun w hw => by rw [if_neg (by omega)]; exact hc w hw⟩ ?_ ?_
            · have : μ (25, 0) = (mrow μ (26, 0) R) (25, 0) := by rw [mrow_neA (by omega)]
              rw [this, mrow_id]
              rfl
            · rintro k _ hk ⟨C, rfl, hC⟩
              have h2 := h'.row (a := 25) (b := 0) C (by omega)
              have hl := (h.2.hb hp hk).2
              have hCk := hC k hk
              rw [if_neg (Nat.lt_irrefl k)] at hCk
              have hgk := hg (lab r p k) (by omega)
              have es : sprd r p N c k = (c k || (lf r k && gon r p N c (lab r p k))) := rfl
              have en : newb r p N c (k + 1) = (newb r p N c k || (!c k && (lf r k && gon r p N c (lab r p k)))) := rfl
              have fin : f_X11_comes_L63 (nI p) (mrow (mrow μ (26, 0) R) (25, 0) C) (bI (newb r p N c k)) (nI k) = some (.inl (mrow (mrow μ (26, 0) R) (25, 0) C, bI (newb r p N c k), nI (k + 1))) → sprd r p N c k = c k → newb r p N c (k + 1) = newb r p N c k → ∃ s', (fun z : Mm × Int32 × Int32 => f_X11_comes_L63 (nI p) z.1 z.2.1 z.2.2) (mrow (mrow μ (26, 0) R) (25, 0) C, bI (newb r p N c k), nI k) = some (.inl s') ∧ ∃ C, s' = (mrow (mrow μ (26, 0) R) (25, 0) C, bI (newb r p N c (k + 1)), nI (k + 1)) ∧ ∀ w, w < N → C w = bI (if w < k + 1 then sprd r p N c w else c w) := by
                intro e1 e2 e3
                refine ⟨_, e1, C, by rw [e3], fun w hw => ?_⟩
                rw [hC w hw]
                by_cases e : w = k
                · subst e; rw [if_neg (Nat.lt_irrefl w), if_pos (by omega), e2]
                · by_cases c : w < k
                  · rw [if_pos c, if_pos (by omega)]
                  · rw [if_neg c, if_neg (by omega)]
              by_cases c1 : c k = true
              · rw [c1] at hCk
                refine fin ?_ (by rw [es, c1]; rfl) (by rw [en, c1]; simp)
                simp (disch := omega) only [Option.bind_some, Option.map_some, Option.bind_none, q_lit, nI_add, pk_mul, q_sub, q_addn, q_cl, q_le, q_lt, q_eq, q_ck, q_cd, q_cb0, q_cb1, q_div, q_rem, q_shl1, q_shr, q_and, q_or, q_tb, if_pos, if_neg, if_true, if_false, not_true, not_false_iff, eq_self, Bool.true_eq_false, Bool.false_eq_true, q_bI0, q_bI1, q_cbI, Nat.or_zero, mst_row, mrow_neA, mrow_neB, mrow_self, q_upd, f_X11_comes_L63, q_worlds h2, hCk, bI_t]
              · have c1 := Bool.not_eq_true _ ▸ c1
                rw [c1] at hCk
                by_cases c2 : lf r k = true
                · by_cases c3 : gon r p N c (lab r p k) = true
                  · rw [c3] at hgk
                    refine ⟨(mrow (mrow μ (26, 0) R) (25, 0) (upd C k (nI 1)), nI 1, nI (k + 1)), ?_, upd C k (nI 1), ?_, fun w hw => ?_⟩
                    · show f_X11_comes_L63 (nI p) (mrow (mrow μ (26, 0) R) (25, 0) C) (bI (newb r p N c k)) (nI k) = _
                      simp (disch := omega) only [Option.bind_some, Option.map_some, Option.bind_none, q_lit, nI_add, pk_mul, q_sub, q_addn, q_cl, q_le, q_lt, q_eq, q_ck, q_cd, q_cb0, q_cb1, q_div, q_rem, q_shl1, q_shr, q_and, q_or, q_tb, if_pos, if_neg, if_true, if_false, not_true, not_false_iff, eq_self, Bool.true_eq_false, Bool.false_eq_true, q_bI0, q_bI1, q_cbI, Nat.or_zero, mst_row, mrow_neA, mrow_neB, mrow_self, q_upd, f_X11_comes_L63, q_worlds h2, hCk, bI_f, bI_t, q_isLeft h2 hk, c2, q_label h2 hp hk, hgk, nar_1, mrow_mrow]
                    · rw [en, c1, c2, c3]; simp [bI_t]
                    · rw [q_upd]
                      by_cases e : w = k
                      · subst e; rw [if_pos rfl, if_pos (by omega), es, c2, c3]; simp [bI]
                      · rw [if_neg e, hC w hw]
                        by_cases c : w < k
                        · rw [if_pos c, if_pos (by omega)]
                        · rw [if_neg c, if_neg (by omega)]
                  · have c3 := Bool.not_eq_true _ ▸ c3
                    rw [c3] at hgk
                    refine fin ?_ (by rw [es, c1, c2, c3]; rfl) (by rw [en, c1, c2, c3]; simp)
                    simp (disch := omega) only [Option.bind_some, Option.map_some, Option.bind_none, q_lit, nI_add, pk_mul, q_sub, q_addn, q_cl, q_le, q_lt, q_eq, q_ck, q_cd, q_cb0, q_cb1, q_div, q_rem, q_shl1, q_shr, q_and, q_or, q_tb, if_pos, if_neg, if_true, if_false, not_true, not_false_iff, eq_self, Bool.true_eq_false, Bool.false_eq_true, q_bI0, q_bI1, q_cbI, Nat.or_zero, mst_row, mrow_neA, mrow_neB, mrow_self, q_upd, f_X11_comes_L63, q_worlds h2, hCk, bI_f, q_isLeft h2 hk, c2, q_label h2 hp hk, hgk]
                · have c2 := Bool.not_eq_true _ ▸ c2
                  refine fin ?_ (by rw [es, c1, c2]; rfl) (by rw [en, c1, c2]; simp)
                  simp (disch := omega) only [Option.bind_some, Option.map_some, Option.bind_none, q_lit, nI_add, pk_mul, q_sub, q_addn, q_cl, q_le, q_lt, q_eq, q_ck, q_cd, q_cb0, q_cb1, q_div, q_rem, q_shl1, q_shr, q_and, q_or, q_tb, if_pos, if_neg, if_true, if_false, not_true, not_false_iff, eq_self, Bool.true_eq_false, Bool.false_eq_true, q_bI0, q_bI1, q_cbI, Nat.or_zero, mst_row, mrow_neA, mrow_neB, mrow_self, q_upd, f_X11_comes_L63, q_worlds h2, hCk, bI_f, q_isLeft h2 hk, c2]
            · rintro _ ⟨C, rfl, hC⟩
              have h2 := h'.row (a := 25) (b := 0) C (by omega)
              refine ⟨(bI (newb r p N c N), mrow (mrow μ (26, 0) R) (25, 0) C), ?_, _, rfl, h2, (by repeat first | exact Fr.rf | refine Fr.mr ?_ (by decide)), fun w hw => by rw [mrow_self, hC w hw, if_pos hw]⟩
              show f_X11_comes_L63 (nI p) (mrow (mrow μ (26, 0) R) (25, 0) C) (bI (newb r p N c N)) (nI N) = _
              simp (disch := omega) only [Option.bind_some, Option.map_some, Option.bind_none, q_lit, nI_add, pk_mul, q_sub, q_addn, q_cl, q_le, q_lt, q_eq, q_ck, q_cd, q_cb0, q_cb1, q_div, q_rem, q_shl1, q_shr, q_and, q_or, q_tb, if_pos, if_neg, if_true, if_false, not_true, not_false_iff, eq_self, Bool.true_eq_false, Bool.false_eq_true, q_bI0, q_bI1, q_cbI, Nat.or_zero, mst_row, mrow_neA, mrow_neB, mrow_self, q_upd, f_X11_comes_L63, q_worlds h2, Nat.le_refl]
          obtain ⟨x, h1, h2⟩ := hin
          exact ⟨x, by show f_X11_comes_L24 (nI p) (mrow μ (26, 0) R) (nI N) = _; rw [e2, h1]; rfl, h2⟩
      obtain ⟨x, h1, h2⟩ := hh
      exact ⟨x, by show f_X11_comes_L2 (nI p) (mrow μ (26, 0) R) (nI 512) = _; rw [e, h1]; rfl, h2⟩
  obtain ⟨_, e, a, rfl, h1, h2, h3⟩ := hh
  exact ⟨a, e, h1, h2, h3⟩
theorem q_round (h : RS μ V n N w0 r) (q : Int32) {c : Nat → Bool} (hc : ∀ w, w < N → μ (25, 0) w = bI (c w)) :
    ∃ μ', Wh (fun z : Mm × Int32 × Int32 => f_X11_common_L64 q z.1 z.2.1 z.2.2) (μ, nI 0, nI 0) = some (.inl (μ', bI (rnf r N c n))) ∧ RS μ' V n N w0 r ∧ Fr [25, 26] μ μ' ∧ ∀ w, w < N → μ' (25, 0) w = bI (rnd r N c n w) := by
  have hb := h.2.b
  have hh : ∃ x, Wh (fun z : Mm × Int32 × Int32 => f_X11_common_L64 q z.1 z.2.1 z.2.2) (μ, nI 0, nI 0) = some x ∧ ∃ μ', x = .inl (μ', bI (rnf r N c n)) ∧ RS μ' V n N w0 r ∧ Fr [25, 26] μ μ' ∧ ∀ w, w < N → μ' (25, 0) w = bI (rnd r N c n w) := by
    refine Wh_inv1 n (fun k s => ∃ a, s = (a, bI (rnf r N c k), nI k) ∧ RS a V n N w0 r ∧ Fr [25, 26] μ a ∧ ∀ w, w < N → a (25, 0) w = bI (rnd r N c k w)) _ ⟨μ, rfl, h, Fr.rf, hc⟩ ?_ ?_
    · rintro k _ hk ⟨a, rfl, ha, hF, hC⟩
      obtain ⟨a2, e1, ha2, hF2, hC2⟩ := q_comes ha hk hC
      refine ⟨(a2, bI (rnf r N c (k + 1)), nI (k + 1)), ?_, a2, rfl, ha2, hF.tr hF2, hC2⟩
      show f_X11_common_L64 q a (bI (rnf r N c k)) (nI k) = _
      have en : rnf r N c (k + 1) = (rnf r N c k || newb r k N (rnd r N c k) N) := rfl
      rw [en]
      cases c1 : newb r k N (rnd r N c k) N
      · rw [c1] at e1
        cases c2 : rnf r N c k
        · simp (disch := omega) only [Option.bind_some, Option.map_some, Option.bind_none, q_lit, nI_add, pk_mul, q_sub, q_addn, q_cl, q_le, q_lt, q_eq, q_ck, q_cd, q_cb0, q_cb1, q_div, q_rem, q_shl1, q_shr, q_and, q_or, q_tb, if_pos, if_neg, if_true, if_false, not_true, not_false_iff, eq_self, Bool.true_eq_false, Bool.false_eq_true, q_bI0, q_bI1, q_cbI, Nat.or_zero, mst_row, mrow_neA, mrow_neB, mrow_self, q_upd, f_X11_common_L64, q_people ha, e1, bI_f, Bool.or_self]
        · simp (disch := omega) only [Option.bind_some, Option.map_some, Option.bind_none, q_lit, nI_add, pk_mul, q_sub, q_addn, q_cl, q_le, q_lt, q_eq, q_ck, q_cd, q_cb0, q_cb1, q_div, q_rem, q_shl1, q_shr, q_and, q_or, q_tb, if_pos, if_neg, if_true, if_false, not_true, not_false_iff, eq_self, Bool.true_eq_false, Bool.false_eq_true, q_bI0, q_bI1, q_cbI, Nat.or_zero, mst_row, mrow_neA, mrow_neB, mrow_self, q_upd, f_X11_common_L64, q_people ha, e1, bI_f, bI_t, Bool.or_false]
      · rw [c1] at e1
        simp (disch := omega) only [Option.bind_some, Option.map_some, Option.bind_none, q_lit, nI_add, pk_mul, q_sub, q_addn, q_cl, q_le, q_lt, q_eq, q_ck, q_cd, q_cb0, q_cb1, q_div, q_rem, q_shl1, q_shr, q_and, q_or, q_tb, if_pos, if_neg, if_true, if_false, not_true, not_false_iff, eq_self, Bool.true_eq_false, Bool.false_eq_true, q_bI0, q_bI1, q_cbI, Nat.or_zero, mst_row, mrow_neA, mrow_neB, mrow_self, q_upd, f_X11_common_L64, q_people ha, e1, bI_t, Bool.or_true]
    · rintro _ ⟨a, rfl, ha, hF, hC⟩
      refine ⟨.inl (a, bI (rnf r N c n)), ?_, a, rfl, ha, hF, hC⟩
      show f_X11_common_L64 q a (bI (rnf r N c n)) (nI n) = _
      simp (disch := omega) only [Option.bind_some, Option.map_some, Option.bind_none, q_lit, nI_add, pk_mul, q_sub, q_addn, q_cl, q_le, q_lt, q_eq, q_ck, q_cd, q_cb0, q_cb1, q_div, q_rem, q_shl1, q_shr, q_and, q_or, q_tb, if_pos, if_neg, if_true, if_false, not_true, not_false_iff, eq_self, Bool.true_eq_false, Bool.false_eq_true, q_bI0, q_bI1, q_cbI, Nat.or_zero, mst_row, mrow_neA, mrow_neB, mrow_self, q_upd, f_X11_common_L64, q_people ha, Nat.le_refl]
  obtain ⟨_, e, a, rfl, h1, h2, h3⟩ := hh
  exact ⟨a, e, h1, h2, h3⟩
theorem q_common (h : RS μ V n N w0 r) {q : Nat} (hq : q < n) : ∃ μ', Wh (fun z : Mm × Int32 => f_X11_common_L22 (nI q) z.1 z.2) (μ, nI 0) = some (comv r V n N w0 q, μ') ∧ Fr [25, 26] μ μ' := by
  have hb := h.2.b
  have hw0 := hb.2.2.2.2.2
  have hh : ∃ x, Wh (fun z : Mm × Int32 => f_X11_common_L22 (nI q) z.1 z.2) (μ, nI 0) = some x ∧ ∃ μ', x = (comv r V n N w0 q, μ') ∧ Fr [25, 26] μ μ' := by
    refine Wh_inv1 512 (fun k s => ∃ C, s = (mrow μ (25, 0) C, nI k) ∧ ∀ w, w < k → C w = bI (com0 w0 w)) _ ⟨μ (25, 0), by rw [mrow_id], fun i hi => by omega⟩ ?_ ?_
    · rintro k _ hk ⟨C, rfl, hC⟩
      have h' := h.row (a := 25) (b := 0) C (by omega)
      refine ⟨(mrow μ (25, 0) (upd C k (bI (com0 w0 k))), nI (k + 1)), ?_, _, rfl, fun w hw => ?_⟩
      · show f_X11_common_L22 (nI q) (mrow μ (25, 0) C) (nI k) = _
        unfold com0
        by_cases c : k = w0
        · rw [decide_eq_true c]
          simp (disch := omega) only [Option.bind_some, Option.map_some, Option.bind_none, q_lit, nI_add, pk_mul, q_sub, q_addn, q_cl, q_le, q_lt, q_eq, q_ck, q_cd, q_cb0, q_cb1, q_div, q_rem, q_shl1, q_shr, q_and, q_or, q_tb, if_pos, if_neg, if_true, if_false, not_true, not_false_iff, eq_self, Bool.true_eq_false, Bool.false_eq_true, q_bI0, q_bI1, q_cbI, Nat.or_zero, mst_row, mrow_neA, mrow_neB, mrow_self, q_upd, f_X11_common_L22, q_here h', c, nar_1, mrow_mrow, bI_t]
        · rw [decide_eq_false c]
          simp (disch := omega) only [Option.bind_some, Option.map_some, Option.bind_none, q_lit, nI_add, pk_mul, q_sub, q_addn, q_cl, q_le, q_lt, q_eq, q_ck, q_cd, q_cb0, q_cb1, q_div, q_rem, q_shl1, q_shr, q_and, q_or, q_tb, if_pos, if_neg, if_true, if_false, not_true, not_false_iff, eq_self, Bool.true_eq_false, Bool.false_eq_true, q_bI0, q_bI1, q_cbI, Nat.or_zero, mst_row, mrow_neA, mrow_neB, mrow_self, q_upd, f_X11_common_L22, q_here h', c, nar_0, mrow_mrow, bI_f]
      · rw [q_upd]
        by_cases e : w = k
        · subst e; rw [if_pos rfl]
        · rw [if_neg e]; exact hC w (by omega)
    · rintro _ ⟨C, rfl, hC⟩
      have h0 := h.row (a := 25) (b := 0) C (by omega)
      have e : f_X11_common_L22 (nI q) (mrow μ (25, 0) C) (nI 512) = (Wh (fun z : Mm × Int32 => f_X11_common_L56 (nI q) z.1 z.2) (mrow μ (25, 0) C, nI 1)).map Sum.inr := by
        simp (disch := omega) only [Option.bind_some, Option.map_some, Option.bind_none, q_lit, nI_add, pk_mul, q_sub, q_addn, q_cl, q_le, q_lt, q_eq, q_ck, q_cd, q_cb0, q_cb1, q_div, q_rem, q_shl1, q_shr, q_and, q_or, q_tb, if_pos, if_neg, if_true, if_false, not_true, not_false_iff, eq_self, Bool.true_eq_false, Bool.false_eq_true, q_bI0, q_bI1, q_cbI, Nat.or_zero, mst_row, mrow_neA, mrow_neB, mrow_self, q_upd, f_X11_common_L22]
      have hh : ∃ x, Wh (fun z : Mm × Int32 => f_X11_common_L56 (nI q) z.1 z.2) (mrow μ (25, 0) C, nI 1) = some x ∧ ∃ μ', x = (comv r V n N w0 q, μ') ∧ Fr [25, 26] μ μ' := by
        have fin : ∀ (a : Mm) (k : Nat), k ≤ N → RS a V n N w0 r → Fr [25, 26] μ a → (∀ w, w < N → a (25, 0) w = bI (itr r n N (com0 w0) k w)) → due r n N (com0 w0) k = false → ∃ x, f_X11_common_L56 (nI q) a (nI 0) = some (.inr x) ∧ ∃ μ', x = (comv r V n N w0 q, μ') ∧ Fr [25, 26] μ μ' := by
          intro a k hk ha hF hC hd
          have hC2 : ∀ w, w < N → a (25, 0) w = bI (itr r n N (com0 w0) N w) := fun w hw => by rw [hC w hw, due_no hd hk w hw]
          refine ⟨(comv r V n N w0 q, a), ?_, a, rfl, hF⟩
          have e3 : Wh (fun z : Int32 × Int32 => f_X11_common_L104 (nI q) a z.1 z.2) (nI 0, nI 0) = some (comv r V n N w0 q, a) := by
            refine Wh_it N (fun i => (nI (comS r V n N w0 q i (itr r n N (com0 w0) N)), nI i)) rfl (fun i hi => ?_) ?_
            · show f_X11_common_L104 (nI q) a (nI (comS r V n N w0 q i (itr r n N (com0 w0) N))) (nI i) = some (.inl (nI (comS r V n N w0 q i (itr r n N (com0 w0) N) ||| (if itr r n N (com0 w0) N i = true then 2 ^ fig V n q i else 0)), nI (i + 1)))
              have hCi := hC2 i hi
              have hf := fig_lt hb.1 n q i
              cases c : itr r n N (com0 w0) N i
              · rw [c] at hCi
                simp (disch := omega) only [Option.bind_some, Option.map_some, Option.bind_none, q_lit, nI_add, pk_mul, q_sub, q_addn, q_cl, q_le, q_lt, q_eq, q_ck, q_cd, q_cb0, q_cb1, q_div, q_rem, q_shl1, q_shr, q_and, q_or, q_tb, if_pos, if_neg, if_true, if_false, not_true, not_false_iff, eq_self, Bool.true_eq_false, Bool.false_eq_true, q_bI0, q_bI1, q_cbI, Nat.or_zero, mst_row, mrow_neA, mrow_neB, mrow_self, q_upd, f_X11_common_L104, q_worlds ha, hCi, bI_f]
              · rw [c] at hCi
                simp (disch := omega) only [Option.bind_some, Option.map_some, Option.bind_none, q_lit, nI_add, pk_mul, q_sub, q_addn, q_cl, q_le, q_lt, q_eq, q_ck, q_cd, q_cb0, q_cb1, q_div, q_rem, q_shl1, q_shr, q_and, q_or, q_tb, if_pos, if_neg, if_true, if_false, not_true, not_false_iff, eq_self, Bool.true_eq_false, Bool.false_eq_true, q_bI0, q_bI1, q_cbI, Nat.or_zero, mst_row, mrow_neA, mrow_neB, mrow_self, q_upd, f_X11_common_L104, q_worlds ha, hCi, bI_t, q_noticeIn ha hq hi]
            · show f_X11_common_L104 (nI q) a (nI (comS r V n N w0 q N (itr r n N (com0 w0) N))) (nI N) = _
              have hlt := comS_lt (r := r) (n := n) (N := N) (w0 := w0) (q := q) (m := N) (c := itr r n N (com0 w0) N) ⟨hb.1, hb.2.1⟩
              have hne := comS_ne0 (r := r) (V := V) (n := n) (N := N) (q := q) hw0 (itr_mono (r := r) (n := n) (N := N) (c := com0 w0) N w0 (by simp [com0]))
              simp (disch := omega) only [Option.bind_some, Option.map_some, Option.bind_none, q_lit, nI_add, pk_mul, q_sub, q_addn, q_cl, q_le, q_lt, q_eq, q_ck, q_cd, q_cb0, q_cb1, q_div, q_rem, q_shl1, q_shr, q_and, q_or, q_tb, if_pos, if_neg, if_true, if_false, not_true, not_false_iff, eq_self, Bool.true_eq_false, Bool.false_eq_true, q_bI0, q_bI1, q_cbI, Nat.or_zero, mst_row, mrow_neA, mrow_neB, mrow_self, q_upd, f_X11_common_L104, q_worlds ha, Nat.le_refl, q_onlyOne (show comS r V n N w0 q N (itr r n N (com0 w0) N) < 512 by omega) hne]
              rfl
          simp (disch := omega) only [Option.bind_some, Option.map_some, Option.bind_none, q_lit, nI_add, pk_mul, q_sub, q_addn, q_cl, q_le, q_lt, q_eq, q_ck, q_cd, q_cb0, q_cb1, q_div, q_rem, q_shl1, q_shr, q_and, q_or, q_tb, if_pos, if_neg, if_true, if_false, not_true, not_false_iff, eq_self, Bool.true_eq_false, Bool.false_eq_true, q_bI0, q_bI1, q_cbI, Nat.or_zero, mst_row, mrow_neA, mrow_neB, mrow_self, q_upd, f_X11_common_L56, e3]
        refine Wh_inv N (fun k s => ∃ a, s = (a, bI (due r n N (com0 w0) k)) ∧ RS a V n N w0 r ∧ Fr [25, 26] μ a ∧ (∀ w, w < N → a (25, 0) w = bI (itr r n N (com0 w0) k w)) ∧ ∀ i, i < k → due r n N (com0 w0) i = true) _ ⟨_, rfl, h0, (by repeat first | exact Fr.rf | refine Fr.mr ?_ (by decide)), fun w hw => by rw [mrow_self]; exact hC w (by omega), fun i hi => by omega⟩ ?_ ?_
        · rintro k _ hk ⟨a, rfl, ha, hF, hC, hd⟩
          cases c : due r n N (com0 w0) k
          · exact Or.inr (fin a k (by omega) ha hF hC c)
          · obtain ⟨a2, e1, ha2, hF2, hC2⟩ := q_round ha (nI q) hC
            refine Or.inl ⟨(a2, bI (due r n N (com0 w0) (k + 1))), ?_, a2, rfl, ha2, hF.tr hF2, hC2, fun i hi => ?_⟩
            · show f_X11_common_L56 (nI q) a (bI true) = _
              simp (disch := omega) only [Option.bind_some, Option.map_some, Option.bind_none, q_lit, nI_add, pk_mul, q_sub, q_addn, q_cl, q_le, q_lt, q_eq, q_ck, q_cd, q_cb0, q_cb1, q_div, q_rem, q_shl1, q_shr, q_and, q_or, q_tb, if_pos, if_neg, if_true, if_false, not_true, not_false_iff, eq_self, Bool.true_eq_false, Bool.false_eq_true, q_bI0, q_bI1, q_cbI, Nat.or_zero, mst_row, mrow_neA, mrow_neB, mrow_self, q_upd, f_X11_common_L56, e1]
              rfl
            · by_cases e : i = k
              · subst e; exact c
              · exact hd i (by omega)
        · rintro _ ⟨a, rfl, ha, hF, hC, hd⟩
          cases c : due r n N (com0 w0) N
          · exact fin a N (Nat.le_refl _) ha hF hC c
          · have h1 := due_all (r := r) (n := n) (N := N) (c := com0 w0) (k := N) (fun i hi => by
              by_cases e : i = N
              · subst e; exact c
              · exact hd i (by omega)) (cnt_pos hw0 (by simp [com0]))
            have h2 := cnt_le N (itr r n N (com0 w0) N)
            omega
      obtain ⟨x, h1, h2⟩ := hh
      exact ⟨x, by show f_X11_common_L22 (nI q) (mrow μ (25, 0) C) (nI 512) = _; rw [e, h1]; rfl, h2⟩
  obtain ⟨_, e, a, rfl, hF⟩ := hh
  exact ⟨a, e, hF⟩
end COMQ
