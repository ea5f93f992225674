-- days till somebody is sure; what is spilled
theorem drp_labf {c : Nat → Int32} {m w0 : Nat} {r : Nat → Int32} (hm : m ≤ 512) (p : Nat) : lab (drp c m w0 r) p = lab r p := funext (fun w => drp_lab hm p w)
theorem drp_id {V n N w0 : Nat} {r c : Nat → Int32} (h : WF V n N w0 r) (hc : ∀ w, w < N → lf r w = true → c w = c w0) : drp c N w0 r = r := by
  have e : drp (fun _ => (0 : Int32)) N w0 r = r := by
    funext i
    exact if_neg (by simp)
  rw [drp_congr (c' := fun _ => 0) h (fun w hw hl => by simp [hc w hw hl]), e]
def mdF (V n N w0 : Nat) (r : Nat → Int32) : Nat → Int32 := drp (fun w => nI (suO r V n N w n)) N w0 r
def mdR (V n N w0 : Nat) (r : Nat → Int32) : Nat → (Nat → Int32)
  | 0 => r
  | k + 1 => mdF V n N w0 (mdR V n N w0 r k)
section MDS
variable {V n N w0 : Nat} {r : Nat → Int32}
theorem mdR_s (V n N w0 : Nat) (r : Nat → Int32) (k : Nat) : mdR V n N w0 r (k + 1) = drp (fun w => nI (suO (mdR V n N w0 r k) V n N w n)) N w0 (mdR V n N w0 r k) := rfl
theorem mdR_WF (h : WF V n N w0 r) (k : Nat) : WF V n N w0 (mdR V n N w0 r k) := by
  induction k with
  | zero => exact h
  | succ k ih => rw [mdR_s]; exact drp_WF _ ih
theorem mdR_ne (h : WF V n N w0 r) (k : Nat) {i : Nat} (hi : i < 20 ∨ 532 ≤ i) : mdR V n N w0 r k i = r i := by
  have hb := h.b
  induction k with
  | zero => rfl
  | succ k ih =>
    rw [mdR_s, drp_ne (by omega), ih]
theorem mdR_lab (h : WF V n N w0 r) (k p : Nat) : lab (mdR V n N w0 r k) p = lab r p := by
  have hb := h.b
  induction k with
  | zero => rfl
  | succ k ih =>
    rw [mdR_s, drp_labf hb.2.2.2.1, ih]
theorem mdR_suO (h : WF V n N w0 r) (k w m : Nat) : suO (mdR V n N w0 r k) V n N w m = suS (lf (mdR V n N w0 r k)) r V n N w m := by
  refine orN_congr (fun p _ => ?_)
  unfold suR
  rw [mdR_lab h]
theorem mdR_stop {k : Nat} (h : mdR V n N w0 r (k + 1) = mdR V n N w0 r k) (i : Nat) : mdR V n N w0 r (k + i) = mdR V n N w0 r k := by
  induction i with
  | zero => rfl
  | succ i ih =>
    have e : mdR V n N w0 r (k + (i + 1)) = drp (fun w => nI (suO (mdR V n N w0 r (k + i)) V n N w n)) N w0 (mdR V n N w0 r (k + i)) := rfl
    rw [e, ih, ← mdR_s]
    exact h
end MDS
/-- the test of a day: somebody, or a told one, is sure -/
def mdC (V n N w0 : Nat) (r : Nat → Int32) (P : Nat → Bool) (k : Nat) : Bool := P (suO (mdR V n N w0 r k) V n N w0 n)
def mdP (n : Nat) (v : Int32) (P : Nat → Bool) : Prop := (v = -nI 1 ∧ P = fun m => m != 0) ∨ (∃ p, p < n ∧ v = nI p ∧ P = fun m => m.testBit p)
section MUDQ
variable {μ : Mm} {V n N w0 : Nat} {r : Nat → Int32}
theorem q_keepsLeft (h : RS μ V n N w0 r) : ∃ K, f_X11_keepsLeft μ = some (mrow μ (27, 0) K) ∧ ∀ w, w < 512 → K w = r (20 + w) := by
  have hh : ∃ x, f_X11_keepsLeft μ = some x ∧ ∃ K, x = mrow μ (27, 0) K ∧ ∀ w, w < 512 → K w = r (20 + w) := by
    unfold f_X11_keepsLeft
    refine Wh_inv1 512 (fun k s => ∃ K, s = (mrow μ (27, 0) K, nI k) ∧ ∀ w, w < k → K w = r (20 + w)) _ ⟨μ (27, 0), by rw [mrow_id]; rfl, fun i hi => by omega⟩ ?_ ?_
    · rintro k _ hk ⟨K, rfl, hK⟩
      refine ⟨(mrow μ (27, 0) (upd K k (r (20 + k))), nI (k + 1)), ?_, _, rfl, fun w hw => ?_⟩
      · show f_X11_keepsLeft_L2 (mrow μ (27, 0) K) (nI k) = _
        simp (disch := omega) only [Option.bind_some, Option.map_some, Option.bind_none, q_lit, nI_add, pk_mul, q_sub, q_addn, q_cl, q_le, q_lt, q_eq, q_ck, q_cd, q_cb0, q_cb1, q_div, q_rem, q_shl1, q_shr, q_and, q_or, q_tb, if_pos, if_neg, if_true, if_false, not_true, not_false_iff, eq_self, Bool.true_eq_false, Bool.false_eq_true, q_bI0, q_bI1, q_cbI, Nat.or_zero, mst_row, mrow_neA, mrow_neB, mrow_self, q_upd, f_X11_keepsLeft_L2, h.1, mrow_mrow]
      · rw [q_upd]
        by_cases e : w = k
        · subst e; rw [if_pos rfl]
        · rw [if_neg e]; exact hK w (by omega)
    · rintro _ ⟨K, rfl, hK⟩
      refine ⟨mrow μ (27, 0) K, ?_, K, rfl, hK⟩
      show f_X11_keepsLeft_L2 (mrow μ (27, 0) K) (nI 512) = _
      simp (disch := omega) only [Option.bind_some, Option.map_some, Option.bind_none, q_lit, nI_add, pk_mul, q_sub, q_addn, q_cl, q_le, q_lt, q_eq, q_ck, q_cd, q_cb0, q_cb1, q_div, q_rem, q_shl1, q_shr, q_and, q_or, q_tb, if_pos, if_neg, if_true, if_false, not_true, not_false_iff, eq_self, Bool.true_eq_false, Bool.false_eq_true, q_bI0, q_bI1, q_cbI, Nat.or_zero, mst_row, mrow_neA, mrow_neB, mrow_self, q_upd, f_X11_keepsLeft_L2]
  obtain ⟨_, e, K, rfl, hK⟩ := hh
  exact ⟨K, e, hK⟩
theorem q_bringsLeft {ρ : Nat → Int32} (h : μ (1, 0) = ρ) (hρ : ∀ i, i < 20 ∨ 532 ≤ i → ρ i = r i) (hK : ∀ w, w < 512 → μ (27, 0) w = r (20 + w)) : f_X11_bringsLeft μ = some (mrow μ (1, 0) r) := by
  unfold f_X11_bringsLeft
  refine Wh_it 512 (fun k => (mrow μ (1, 0) (fun i => if 20 ≤ i ∧ i < 20 + k then r i else ρ i), nI k)) ?_ (fun k hk => ?_) ?_
  · have : (fun i => if 20 ≤ i ∧ i < 20 + 0 then r i else ρ i) = ρ := by funext i; exact if_neg (by omega)
    rw [this, ← h, mrow_id]
    rfl
  · show f_X11_bringsLeft_L2 (mrow μ (1, 0) (fun i => if 20 ≤ i ∧ i < 20 + k then r i else ρ i)) (nI k) = some (.inl (mrow μ (1, 0) (fun i => if 20 ≤ i ∧ i < 20 + (k + 1) then r i else ρ i), nI (k + 1)))
    have e : upd (fun i => if 20 ≤ i ∧ i < 20 + k then r i else ρ i) (20 + k) (r (20 + k)) = (fun i => if 20 ≤ i ∧ i < 20 + (k + 1) then r i else ρ i) := by
      funext i
      rw [q_upd]
      by_cases hi : i = 20 + k
      · subst hi; rw [if_pos rfl, if_pos (by omega)]
      · rw [if_neg hi]
        by_cases c : 20 ≤ i ∧ i < 20 + k
        · rw [if_pos c, if_pos (by omega)]
        · rw [if_neg c, if_neg (by omega)]
    have hKk := hK k hk
    simp (disch := omega) only [Option.bind_some, Option.map_some, Option.bind_none, q_lit, nI_add, pk_mul, q_sub, q_addn, q_cl, q_le, q_lt, q_eq, q_ck, q_cd, q_cb0, q_cb1, q_div, q_rem, q_shl1, q_shr, q_and, q_or, q_tb, if_pos, if_neg, if_true, if_false, not_true, not_false_iff, eq_self, Bool.true_eq_false, Bool.false_eq_true, q_bI0, q_bI1, q_cbI, Nat.or_zero, mst_row, mrow_neA, mrow_neB, mrow_self, q_upd, f_X11_bringsLeft_L2, hKk, mrow_mrow, e]
  · show f_X11_bringsLeft_L2 (mrow μ (1, 0) (fun i => if 20 ≤ i ∧ i < 20 + 512 then r i else ρ i)) (nI 512) = _
    have e : (fun i => if 20 ≤ i ∧ i < 20 + 512 then r i else ρ i) = r := by
      funext i
      by_cases c : 20 ≤ i ∧ i < 20 + 512
      · rw [if_pos c]
      · rw [if_neg c, hρ i (by omega)]
    rw [e]
    simp (disch := omega) only [Option.bind_some, Option.map_some, Option.bind_none, q_lit, nI_add, pk_mul, q_sub, q_addn, q_cl, q_le, q_lt, q_eq, q_ck, q_cd, q_cb0, q_cb1, q_div, q_rem, q_shl1, q_shr, q_and, q_or, q_tb, if_pos, if_neg, if_true, if_false, not_true, not_false_iff, eq_self, Bool.true_eq_false, Bool.false_eq_true, q_bI0, q_bI1, q_cbI, Nat.or_zero, mst_row, mrow_neA, mrow_neB, mrow_self, q_upd, f_X11_bringsLeft_L2]
theorem q_muddy (h : RS μ V n N w0 r) {v : Int32} {P : Nat → Bool} (hv : mdP n v P) :
    ∃ μ', (f_X11_keepsLeft μ).bind (fun x34 => Wh (fun z : Mm × Int32 × Int32 => f_X11_muddy_L41 v z.1 z.2.1 z.2.2) (x34, -nI 1, nI 0)) = some (oN (fstN 41 (mdC V n N w0 r P)), μ') ∧ μ' (1, 0) = r ∧ Fr [1, 8, 9, 27] μ μ' := by
  have hb := h.2.b
  have hw0 := hb.2.2.2.2.2
  obtain ⟨K, eK, hK⟩ := q_keepsLeft h
  have h0 := h.row (a := 27) (b := 0) K (by omega)
  have hh : ∃ x, Wh (fun z : Mm × Int32 × Int32 => f_X11_muddy_L41 v z.1 z.2.1 z.2.2) (mrow μ (27, 0) K, -nI 1, nI 0) = some x ∧ ∃ μ', x = (oN (fstN 41 (mdC V n N w0 r P)), μ') ∧ μ' (1, 0) = r ∧ Fr [1, 8, 9, 27] μ μ' := by
    have bl : ∀ (a : Mm) (k : Nat), RS a V n N w0 (mdR V n N w0 r k) → a (27, 0) = K → f_X11_bringsLeft a = some (mrow a (1, 0) r) := fun a k ha hk => q_bringsLeft ha.1 (fun i hi => mdR_ne h.2 k hi) (fun w hw => by rw [hk]; exact hK w hw)
    refine Wh_inv 41 (fun k s => ∃ a, RS a V n N w0 (mdR V n N w0 r k) ∧ a (27, 0) = K ∧ Fr [1, 8, 9, 27] μ a ∧ ((s = (a, -nI 1, nI k) ∧ ∀ i, i < k → mdC V n N w0 r P i = false) ∨ (∃ i, s = (a, nI i, nI k) ∧ i < 41 ∧ mdC V n N w0 r P i = true ∧ ∀ u, u < i → mdC V n N w0 r P u = false))) _ ⟨_, h0, mrow_self _ _ _, (by repeat first | exact Fr.rf | refine Fr.mr ?_ (by decide)), Or.inl ⟨rfl, fun i hi => by omega⟩⟩ ?_ ?_
    · rintro k s hk ⟨a, ha, haK, hF, ⟨rfl, hA⟩ | ⟨i, rfl, hi, hci, hA⟩⟩
      · left
        obtain ⟨R, e1⟩ := q_sureOnes ha hw0 ha.2.h0
        have ha1 := ha.row (a := 8) (b := 0) R (by omega)
        obtain ⟨a2, e2, ha2, hF2⟩ := q_says ha1
        have hlt := suO_512 (r := mdR V n N w0 r k) (V := V) (n := n) (N := N) (w := w0) (m := n) hb.2.2.2.2.1
        have hs2 : RS a2 V n N w0 (mdR V n N w0 r (k + 1)) := ha2
        have hF3 : Fr [1, 8, 9, 27] μ a2 := (hF.mr (by decide)).tr (hF2.mono (by decide))
        have hK2 : a2 (27, 0) = K := by rw [hF2 27 (by decide), mrow_neA (by omega)]; exact haK
        by_cases c : mdC V n N w0 r P k = true
        · refine ⟨(a2, nI k, nI (k + 1)), ?_, a2, hs2, hK2, hF3, Or.inr ⟨k, rfl, by omega, c, hA⟩⟩
          show f_X11_muddy_L41 v a (-nI 1) (nI k) = _
          have hneg : ¬ (0 : Int32) ≤ -nI 1 := by decide
          rcases hv with ⟨rfl, rfl⟩ | ⟨p, hp, rfl, rfl⟩
          · have c2 : ¬ suO (mdR V n N w0 r k) V n N w0 n = 0 := by simpa [mdC] using c
            have hneg2 : ¬ nI 0 ≤ -nI 1 := hneg
            simp (disch := omega) only [Option.bind_some, Option.map_some, Option.bind_none, q_lit, nI_add, pk_mul, q_sub, q_addn, q_cl, q_le, q_lt, q_eq, q_ck, q_cd, q_cb0, q_cb1, q_div, q_rem, q_shl1, q_shr, q_and, q_or, q_tb, if_pos, if_neg, if_true, if_false, not_true, not_false_iff, eq_self, Bool.true_eq_false, Bool.false_eq_true, q_bI0, q_bI1, q_cbI, Nat.or_zero, mst_row, mrow_neA, mrow_neB, mrow_self, q_upd, f_X11_muddy_L41, if_neg hneg2, q_here ha, e1, e2, c2]
          · have c2 : (suO (mdR V n N w0 r k) V n N w0 n).testBit p = true := c
            have hneg2 : ¬ nI 0 ≤ -nI 1 := hneg
            have h3 : ∀ k, k < 9 → ¬ nI k = -nI 1 := by decide +kernel
            simp (disch := omega) only [Option.bind_some, Option.map_some, Option.bind_none, q_lit, nI_add, pk_mul, q_sub, q_addn, q_cl, q_le, q_lt, q_eq, q_ck, q_cd, q_cb0, q_cb1, q_div, q_rem, q_shl1, q_shr, q_and, q_or, q_tb, if_pos, if_neg, if_true, if_false, not_true, not_false_iff, eq_self, Bool.true_eq_false, Bool.false_eq_true, q_bI0, q_bI1, q_cbI, Nat.or_zero, mst_row, mrow_neA, mrow_neB, mrow_self, q_upd, f_X11_muddy_L41, if_neg hneg2, q_here ha, e1, e2, if_neg (h3 p (by omega)), q_has (show suO (mdR V n N w0 r k) V n N w0 n < 2147483648 by omega) (show p < 32 by omega), c2]
        · have c := Bool.not_eq_true _ ▸ c
          refine ⟨(a2, -nI 1, nI (k + 1)), ?_, a2, hs2, hK2, hF3, Or.inl ⟨rfl, fun i hi => ?_⟩⟩
          · show f_X11_muddy_L41 v a (-nI 1) (nI k) = _
            have hneg : ¬ (0 : Int32) ≤ -nI 1 := by decide
            rcases hv with ⟨rfl, rfl⟩ | ⟨p, hp, rfl, rfl⟩
            · have c2 : suO (mdR V n N w0 r k) V n N w0 n = 0 := by simpa [mdC] using c
              have hneg2 : ¬ nI 0 ≤ -nI 1 := hneg
              simp (disch := omega) only [Option.bind_some, Option.map_some, Option.bind_none, q_lit, nI_add, pk_mul, q_sub, q_addn, q_cl, q_le, q_lt, q_eq, q_ck, q_cd, q_cb0, q_cb1, q_div, q_rem, q_shl1, q_shr, q_and, q_or, q_tb, if_pos, if_neg, if_true, if_false, not_true, not_false_iff, eq_self, Bool.true_eq_false, Bool.false_eq_true, q_bI0, q_bI1, q_cbI, Nat.or_zero, mst_row, mrow_neA, mrow_neB, mrow_self, q_upd, f_X11_muddy_L41, if_neg hneg2, q_here ha, e1, e2, c2]
            · have c2 : (suO (mdR V n N w0 r k) V n N w0 n).testBit p = false := c
              have hneg2 : ¬ nI 0 ≤ -nI 1 := hneg
              have h3 : ∀ k, k < 9 → ¬ nI k = -nI 1 := by decide +kernel
              simp (disch := omega) only [Option.bind_some, Option.map_some, Option.bind_none, q_lit, nI_add, pk_mul, q_sub, q_addn, q_cl, q_le, q_lt, q_eq, q_ck, q_cd, q_cb0, q_cb1, q_div, q_rem, q_shl1, q_shr, q_and, q_or, q_tb, if_pos, if_neg, if_true, if_false, not_true, not_false_iff, eq_self, Bool.true_eq_false, Bool.false_eq_true, q_bI0, q_bI1, q_cbI, Nat.or_zero, mst_row, mrow_neA, mrow_neB, mrow_self, q_upd, f_X11_muddy_L41, if_neg hneg2, q_here ha, e1, e2, if_neg (h3 p (by omega)), q_has (show suO (mdR V n N w0 r k) V n N w0 n < 2147483648 by omega) (show p < 32 by omega), c2]
          · by_cases e : i = k
            · subst e; exact c
            · exact hA i (by omega)
      · right
        refine ⟨(nI i, mrow a (1, 0) r), ?_, mrow a (1, 0) r, by rw [fstN_some hi hci hA]; rfl, mrow_self _ _ _, hF.mr (by decide)⟩
        show f_X11_muddy_L41 v a (nI i) (nI k) = _
        simp (disch := omega) only [Option.bind_some, Option.map_some, Option.bind_none, q_lit, nI_add, pk_mul, q_sub, q_addn, q_cl, q_le, q_lt, q_eq, q_ck, q_cd, q_cb0, q_cb1, q_div, q_rem, q_shl1, q_shr, q_and, q_or, q_tb, if_pos, if_neg, if_true, if_false, not_true, not_false_iff, eq_self, Bool.true_eq_false, Bool.false_eq_true, q_bI0, q_bI1, q_cbI, Nat.or_zero, mst_row, mrow_neA, mrow_neB, mrow_self, q_upd, f_X11_muddy_L41, bl a k ha haK, Nat.zero_le]
    · rintro s ⟨a, ha, haK, hF, ⟨rfl, hA⟩ | ⟨i, rfl, hi, hci, hA⟩⟩
      · refine ⟨(-nI 1, mrow a (1, 0) r), ?_, mrow a (1, 0) r, by rw [fstN_none hA]; rfl, mrow_self _ _ _, hF.mr (by decide)⟩
        show f_X11_muddy_L41 v a (-nI 1) (nI 41) = _
        simp (disch := omega) only [Option.bind_some, Option.map_some, Option.bind_none, q_lit, nI_add, pk_mul, q_sub, q_addn, q_cl, q_le, q_lt, q_eq, q_ck, q_cd, q_cb0, q_cb1, q_div, q_rem, q_shl1, q_shr, q_and, q_or, q_tb, if_pos, if_neg, if_true, if_false, not_true, not_false_iff, eq_self, Bool.true_eq_false, Bool.false_eq_true, q_bI0, q_bI1, q_cbI, Nat.or_zero, mst_row, mrow_neA, mrow_neB, mrow_self, q_upd, f_X11_muddy_L41, bl a 41 ha haK]
      · refine ⟨(nI i, mrow a (1, 0) r), ?_, mrow a (1, 0) r, by rw [fstN_some hi hci hA]; rfl, mrow_self _ _ _, hF.mr (by decide)⟩
        show f_X11_muddy_L41 v a (nI i) (nI 41) = _
        simp (disch := omega) only [Option.bind_some, Option.map_some, Option.bind_none, q_lit, nI_add, pk_mul, q_sub, q_addn, q_cl, q_le, q_lt, q_eq, q_ck, q_cd, q_cb0, q_cb1, q_div, q_rem, q_shl1, q_shr, q_and, q_or, q_tb, if_pos, if_neg, if_true, if_false, not_true, not_false_iff, eq_self, Bool.true_eq_false, Bool.false_eq_true, q_bI0, q_bI1, q_cbI, Nat.or_zero, mst_row, mrow_neA, mrow_neB, mrow_self, q_upd, f_X11_muddy_L41, bl a 41 ha haK]
  obtain ⟨_, e, a, rfl, h1, h2⟩ := hh
  exact ⟨a, by rw [eK, Option.bind_some, e], h1, h2⟩
def andn (a b : Nat) : Nat := a ^^^ (a &&& b)
theorem andn_tb (a b i : Nat) : (andn a b).testBit i = (a.testBit i && !b.testBit i) := by
  unfold andn
  rw [Nat.testBit_xor, Nat.testBit_and]
  cases a.testBit i <;> cases b.testBit i <;> rfl
theorem q_andn (a b : Nat) : nI a &&& (nI b ^^^ -nI 1) = nI (andn a b) := by
  apply Int32.toBitVec_inj.1
  show BitVec.ofNat 32 a &&& (BitVec.ofNat 32 b ^^^ (-nI 1).toBitVec) = BitVec.ofNat 32 (andn a b)
  have e : (-nI 1).toBitVec = BitVec.allOnes 32 := by decide +kernel
  rw [e]
  apply BitVec.eq_of_getLsbD_eq
  intro i hi
  rw [BitVec.getLsbD_and, BitVec.getLsbD_xor, BitVec.getLsbD_ofNat, BitVec.getLsbD_ofNat, BitVec.getLsbD_ofNat, BitVec.getLsbD_allOnes, andn_tb]
  simp [hi]
theorem set_andn {m : Nat} (f g : Nat → Bool) : andn (set m f) (set m g) = set m (fun p => f p && !g p) := by
  apply Nat.eq_of_testBit_eq
  intro i
  rw [andn_tb]
  have h1 := set_tb (m := m) (f := f) i
  have h2 := set_tb (m := m) (f := g) i
  have h3 := set_tb (m := m) (f := fun p => f p && !g p) i
  by_cases hi : i < m
  · have e1 : (set m f).testBit i = f i := by
      cases c : f i
      · cases c2 : (set m f).testBit i
        · rfl
        · have := (h1.mp c2).2; rw [c] at this; cases this
      · exact h1.mpr ⟨hi, c⟩
    have e2 : (set m g).testBit i = g i := by
      cases c : g i
      · cases c2 : (set m g).testBit i
        · rfl
        · have := (h2.mp c2).2; rw [c] at this; cases this
      · exact h2.mpr ⟨hi, c⟩
    have e3 : (set m (fun p => f p && !g p)).testBit i = (f i && !g i) := by
      cases c : (f i && !g i)
      · cases c2 : (set m (fun p => f p && !g p)).testBit i
        · rfl
        · have := (h3.mp c2).2; rw [c] at this; cases this
      · exact h3.mpr ⟨hi, c⟩
    rw [e1, e2, e3]
  · have e1 : (set m f).testBit i = false := by
      cases c2 : (set m f).testBit i
      · rfl
      · exact absurd (h1.mp c2).1 hi
    have e3 : (set m (fun p => f p && !g p)).testBit i = false := by
      cases c2 : (set m (fun p => f p && !g p)).testBit i
      · rfl
      · exact absurd (h3.mp c2).1 hi
    rw [e1, e3]
    rfl
theorem suO_set (r : Nat → Int32) (V n N w m : Nat) : suO r V n N w m = set m (fun p => suR r V n N p w) := rfl
/-- a notice read out -/
def rdo (V n N w0 q : Nat) (r : Nat → Int32) : Nat → Int32 := drp (fun w => nI (fig V n q w)) N w0 r
def spl (r : Nat → Int32) (V n N w0 q : Nat) : Nat := set n (fun p => suR (rdo V n N w0 q r) V n N p w0 && !suR r V n N p w0)
theorem q_spills (h : RS μ V n N w0 r) {q : Nat} (hq : q < n) : ∃ μ', f_X11_spills μ (nI q) = some (nI (spl r V n N w0 q), μ') ∧ RS μ' V n N w0 r ∧ Fr [1, 8, 9, 27] μ μ' := by
  have hb := h.2.b
  have hw0 := hb.2.2.2.2.2
  obtain ⟨R1, e1⟩ := q_sureOnes h hw0 h.2.h0
  have h1 := h.row (a := 8) (b := 0) R1 (by omega)
  obtain ⟨K, e2, hK⟩ := q_keepsLeft h1
  have h2 := h1.row (a := 27) (b := 0) K (by omega)
  obtain ⟨a3, e3, h3, F3⟩ := q_readsOut h2 hq
  obtain ⟨R4, e4⟩ := q_sureOnes h3 hw0 h3.2.h0
  have e5 : f_X11_bringsLeft (mrow a3 (8, 0) R4) = some (mrow (mrow a3 (8, 0) R4) (1, 0) r) := by
    refine q_bringsLeft (ρ := drp (fun w => nI (fig V n q w)) N w0 r) ?_ (fun i hi => drp_ne (by omega)) (fun w hw => ?_)
    · rw [mrow_neA (by omega)]; exact h3.1
    · rw [mrow_neA (by omega), F3 27 (by decide), mrow_self]; exact hK w hw
  refine ⟨mrow (mrow a3 (8, 0) R4) (1, 0) r, ?_, RS.set h.2 _, ((((Fr.rf.mr (by decide)).mr (by decide)).tr (F3.mono (by decide))).mr (by decide)).mr (by decide)⟩
  have ea : andn (suO (drp (fun w => nI (fig V n q w)) N w0 r) V n N w0 n) (suO r V n N w0 n) = spl r V n N w0 q := set_andn _ _
  rw [f_X11_spills, q_here h, Option.bind_some, e1, Option.bind_some, e2, Option.bind_some, e3, Option.bind_some, q_here h3, Option.bind_some, e4, Option.bind_some, e5, Option.bind_some]
  rw [← ea, ← q_andn]
  rfl
end MUDQ
section MUDK
variable {sh : Sh} {ln : Nat → Nat} {μ : Mm} {j V n N w0 : Nat} {r : Nat → Int32}
theorem k_muddy (h : CS ln μ j V n N w0 r) (hL : LN ln) {v : Int32} {P : Nat → Bool} (hv : mdP n v P) :
    ∃ μ', f_X4_daysUntilSure sh ln j μ v = some (oN (fstN 41 (mdC V n N w0 r P)), μ') ∧ FrC (fun c => 1 ≤ c ∧ c < 15) μ μ' := by
  have hb := h.1.b
  have hw0 := hb.2.2.2.2.2
  have hl5 : ln 5 = 512 := hL.2.2.2.2.2.1
  have hh : ∃ x, f_X4_daysUntilSure sh ln j μ v = some x ∧ ∃ μ', x = (oN (fstN 41 (mdC V n N w0 r P)), μ') ∧ FrC (fun c => 1 ≤ c ∧ c < 15) μ μ' := by
    rw [f_X4_daysUntilSure, h.c2, k_become (by omega) h.stl.1 (by omega) h.stl.2, Option.bind_some]
    refine Wh_inv 41 (fun k s => ∃ a, s = (a, nI k) ∧ CS ln a j V n N w0 r ∧ FrC (fun c => 1 ≤ c ∧ c < 15) μ a ∧ (∀ w, w < N → a (12, 5) w = bI (lf (mdR V n N w0 r k) w)) ∧ ∀ i, i < k → mdC V n N w0 r P i = false) _ ⟨_, rfl, h.rowS _ (by omega) (by omega), FrC.rf.mr (by omega), fun w hw => by rw [mrow_self, if_pos hw]; exact h.stay w hw, fun i hi => by omega⟩ ?_ ?_
    · rintro k _ hk ⟨a, rfl, ha, hF, hC, hA⟩
      have hW := mdR_WF h.1 k
      have e1 : f_X4_sureBits sh ln j 5 a = some (nI (suO (mdR V n N w0 r k) V n N w0 n)) := by
        rw [k_sureBits ha ⟨by omega, by omega⟩ hC, mdR_suO h.1]
      have hlt := suO_512 (r := mdR V n N w0 r k) (V := V) (n := n) (N := N) (w := w0) (m := n) hb.2.2.2.2.1
      by_cases c : mdC V n N w0 r P k = true
      · right
        refine ⟨(nI k, a), ?_, a, by rw [fstN_some (by omega) c hA]; rfl, hF⟩
        show f_X4_daysUntilSure_L17 sh ln j v a (nI k) = _
        rcases hv with ⟨rfl, rfl⟩ | ⟨p, hp, rfl, rfl⟩
        · have c2 : ¬ suO (mdR V n N w0 r k) V n N w0 n = 0 := by simpa [mdC] using c
          simp (disch := omega) only [Option.bind_some, Option.map_some, Option.bind_none, q_lit, nI_add, pk_mul, q_sub, q_addn, q_cl, q_le, q_lt, q_eq, q_ck, q_cd, q_cb0, q_cb1, q_div, q_rem, q_shl1, q_shr, q_and, q_or, q_tb, if_pos, if_neg, if_true, if_false, not_true, not_false_iff, eq_self, Bool.true_eq_false, Bool.false_eq_true, q_bI0, q_bI1, q_cbI, Nat.or_zero, mst_row, mrow_neA, mrow_neB, mrow_self, q_upd, f_X4_daysUntilSure_L17, e1, c2]
        · have c2 : (suO (mdR V n N w0 r k) V n N w0 n).testBit p = true := c
          have h3 : ∀ k, k < 9 → ¬ nI k = -nI 1 := by decide +kernel
          simp (disch := omega) only [Option.bind_some, Option.map_some, Option.bind_none, q_lit, nI_add, pk_mul, q_sub, q_addn, q_cl, q_le, q_lt, q_eq, q_ck, q_cd, q_cb0, q_cb1, q_div, q_rem, q_shl1, q_shr, q_and, q_or, q_tb, if_pos, if_neg, if_true, if_false, not_true, not_false_iff, eq_self, Bool.true_eq_false, Bool.false_eq_true, q_bI0, q_bI1, q_cbI, Nat.or_zero, mst_row, mrow_neA, mrow_neB, mrow_self, q_upd, f_X4_daysUntilSure_L17, e1, if_neg (h3 p (by omega)), c2]
      · have c := Bool.not_eq_true _ ▸ c
        have step : f_X4_daysUntilSure_L17 sh ln j v a (nI k) = f_X4_daysUntilSure_J59 sh ln j a v (nI k) := by
          rcases hv with ⟨rfl, rfl⟩ | ⟨p, hp, rfl, rfl⟩
          · have c2 : suO (mdR V n N w0 r k) V n N w0 n = 0 := by simpa [mdC] using c
            simp (disch := omega) only [Option.bind_some, Option.map_some, Option.bind_none, q_lit, nI_add, pk_mul, q_sub, q_addn, q_cl, q_le, q_lt, q_eq, q_ck, q_cd, q_cb0, q_cb1, q_div, q_rem, q_shl1, q_shr, q_and, q_or, q_tb, if_pos, if_neg, if_true, if_false, not_true, not_false_iff, eq_self, Bool.true_eq_false, Bool.false_eq_true, q_bI0, q_bI1, q_cbI, Nat.or_zero, mst_row, mrow_neA, mrow_neB, mrow_self, q_upd, f_X4_daysUntilSure_L17, e1, c2]
          · have c2 : (suO (mdR V n N w0 r k) V n N w0 n).testBit p = false := c
            have h3 : ∀ k, k < 9 → ¬ nI k = -nI 1 := by decide +kernel
            simp (disch := omega) only [Option.bind_some, Option.map_some, Option.bind_none, q_lit, nI_add, pk_mul, q_sub, q_addn, q_cl, q_le, q_lt, q_eq, q_ck, q_cd, q_cb0, q_cb1, q_div, q_rem, q_shl1, q_shr, q_and, q_or, q_tb, if_pos, if_neg, if_true, if_false, not_true, not_false_iff, eq_self, Bool.true_eq_false, Bool.false_eq_true, q_bI0, q_bI1, q_cbI, Nat.or_zero, mst_row, mrow_neA, mrow_neB, mrow_self, q_upd, f_X4_daysUntilSure_L17, e1, if_neg (h3 p (by omega)), c2]
        obtain ⟨R2, C2, e2, hC2⟩ := k_sayWho (sh := sh) ha hL (c := 5) ⟨by omega, by omega⟩ ⟨by omega, by omega⟩ hC
        have ha2 := (ha.rowS (a := 12) (b := 2) R2 (by omega) (by omega)).rowS (a := 12) (b := 4) C2 (by omega) (by omega)
        obtain ⟨R3, e3, hR3⟩ := k_heed (sh := sh) hL ha2.c2 ha2.c3 hw0 hb.2.2.2.1 (c := 5) (S := lf (mdR V n N w0 r k)) ⟨by omega, by omega⟩ (by omega) (fun w hw => by rw [mrow_neB (by omega), mrow_neB (by omega)]; exact hC w hw)
        have ha3 := ha2.rowS (a := 12) (b := 5) R3 (by omega) (by omega)
        rw [mrow_self] at e3 hR3
        have hcw : ∀ w, w < N → C2 w = nI (suO (mdR V n N w0 r k) V n N w n) := fun w hw => by rw [hC2 w hw, mdR_suO h.1]
        have hF3 : FrC (fun c => 1 ≤ c ∧ c < 15) μ (mrow (mrow (mrow a (12, 2) R2) (12, 4) C2) (12, 5) R3) := ((hF.mr (by omega)).mr (by omega)).mr (by omega)
        by_cases cg : anyN N (fun w => lf (mdR V n N w0 r k) w && decide (¬ C2 w = C2 w0)) = true
        · left
          refine ⟨(mrow (mrow (mrow a (12, 2) R2) (12, 4) C2) (12, 5) R3, nI (k + 1)), ?_, _, rfl, ha3, hF3, fun w hw => ?_, fun i hi => ?_⟩
          · show f_X4_daysUntilSure_L17 sh ln j v a (nI k) = _
            rw [step]
            simp (disch := omega) only [Option.bind_some, Option.map_some, Option.bind_none, q_lit, nI_add, pk_mul, q_sub, q_addn, q_cl, q_le, q_lt, q_eq, q_ck, q_cd, q_cb0, q_cb1, q_div, q_rem, q_shl1, q_shr, q_and, q_or, q_tb, if_pos, if_neg, if_true, if_false, not_true, not_false_iff, eq_self, Bool.true_eq_false, Bool.false_eq_true, q_bI0, q_bI1, q_cbI, Nat.or_zero, mst_row, mrow_neA, mrow_neB, mrow_self, q_upd, f_X4_daysUntilSure_J59, e2, e3, cg]
          · rw [mrow_self, hR3 w hw]
            rw [mdR_s, drp_lf hw, hcw w hw, hcw w0 hw0]
          · by_cases e : i = k
            · subst e; exact c
            · exact hA i (by omega)
        · right
          have cg := Bool.not_eq_true _ ▸ cg
          have hst : mdR V n N w0 r (k + 1) = mdR V n N w0 r k := (mdR_s V n N w0 r k).trans (drp_id hW (fun w hw hl => by
            have := anyN_false cg w hw
            rw [hl, Bool.true_and, decide_eq_false_iff_not, Decidable.not_not, hcw w hw, hcw w0 hw0] at this
            exact this))
          have hall : ∀ i, i < 41 → mdC V n N w0 r P i = false := fun i hi => by
            by_cases e : i < k
            · exact hA i e
            · have e2 := mdR_stop hst (i - k)
              rw [show k + (i - k) = i by omega] at e2
              unfold mdC
              rw [e2]
              exact c
          refine ⟨(-nI 1, mrow (mrow (mrow a (12, 2) R2) (12, 4) C2) (12, 5) R3), ?_, _, by rw [fstN_none hall]; rfl, hF3⟩
          show f_X4_daysUntilSure_L17 sh ln j v a (nI k) = _
          rw [step]
          simp (disch := omega) only [Option.bind_some, Option.map_some, Option.bind_none, q_lit, nI_add, pk_mul, q_sub, q_addn, q_cl, q_le, q_lt, q_eq, q_ck, q_cd, q_cb0, q_cb1, q_div, q_rem, q_shl1, q_shr, q_and, q_or, q_tb, if_pos, if_neg, if_true, if_false, not_true, not_false_iff, eq_self, Bool.true_eq_false, Bool.false_eq_true, q_bI0, q_bI1, q_cbI, Nat.or_zero, mst_row, mrow_neA, mrow_neB, mrow_self, q_upd, f_X4_daysUntilSure_J59, e2, e3, cg]
    · rintro _ ⟨a, rfl, ha, hF, hC, hA⟩
      refine ⟨(-nI 1, a), ?_, a, by rw [fstN_none hA]; rfl, hF⟩
      show f_X4_daysUntilSure_L17 sh ln j v a (nI 41) = _
      simp (disch := omega) only [Option.bind_some, Option.map_some, Option.bind_none, q_lit, nI_add, pk_mul, q_sub, q_addn, q_cl, q_le, q_lt, q_eq, q_ck, q_cd, q_cb0, q_cb1, q_div, q_rem, q_shl1, q_shr, q_and, q_or, q_tb, if_pos, if_neg, if_true, if_false, not_true, not_false_iff, eq_self, Bool.true_eq_false, Bool.false_eq_true, q_bI0, q_bI1, q_cbI, Nat.or_zero, mst_row, mrow_neA, mrow_neB, mrow_self, q_upd, f_X4_daysUntilSure_L17]
  obtain ⟨_, e, a, rfl, hF⟩ := hh
  exact ⟨a, e, hF⟩
theorem heard_drp {C : Nat → Int32} (h : WF V n N w0 r) {p : Nat} (hp : p < n) (q : Nat) (hC : ∀ w, w < N → C w = nI (fig V n q w)) : sur (poss (fun w => lf r w && decide (C w = C w0)) (lab r p) (fig V n p) N (lab r p w0)) = suR (rdo V n N w0 q r) V n N p w0 := by
  have hb := h.b
  unfold suR rdo
  rw [drp_labf hb.2.2.2.1]
  exact congrArg sur (poss_congr (fun u hu => by rw [drp_lf hu, hC u hu, hC w0 hb.2.2.2.2.2]) (fun u _ _ => rfl) (fun u _ => rfl))
theorem k_spilled (h : CS ln μ j V n N w0 r) (hL : LN ln) {q : Nat} (hq : q < n) : ∃ C, f_X4_spilledBy sh ln j μ (nI q) = some (nI (spl r V n N w0 q), mrow μ (12, 4) C) := by
  have hb := h.1.b
  have hw0 := hb.2.2.2.2.2
  obtain ⟨C, e, hC⟩ := k_sayNotice (sh := sh) h hL hq
  have h' := h.rowS (a := 12) (b := 4) C (by omega) (by omega)
  refine ⟨C, ?_⟩
  rw [f_X4_spilledBy, e, Option.bind_some]
  refine Wh_it n (fun k => (nI (set k (fun p => suR (rdo V n N w0 q r) V n N p w0 && !suR r V n N p w0)), nI k)) rfl (fun k hk => ?_) ?_
  · show f_X4_spilledBy_L11 sh ln j (mrow μ (12, 4) C) (nI (set k (fun p => suR (rdo V n N w0 q r) V n N p w0 && !suR r V n N p w0))) (nI k) = some (.inl (nI (set (k + 1) (fun p => suR (rdo V n N w0 q r) V n N p w0 && !suR r V n N p w0)), nI (k + 1)))
    rw [set_s]
    have e1 : f_X4_isSure sh ln j (15 + 5 * j + 2) (mrow μ (12, 4) C) (nI k) (nI w0) = some (bI (suR r V n N k w0)) := k_isSure h' h'.stl h'.stay hk hw0
    have e2 : f_X4_sureIfHeard sh ln j (15 + 5 * j + 2) (mrow μ (12, 4) C) (nI k) = some (bI (suR (rdo V n N w0 q r) V n N k w0)) := by
      rw [k_sureIfHeard h' hL h'.stl h'.stay hk, mrow_self, heard_drp h.1 hk q hC]
    by_cases c1 : suR r V n N k w0 = true
    · simp (disch := omega) only [Option.bind_some, Option.map_some, Option.bind_none, q_lit, nI_add, pk_mul, q_sub, q_addn, q_cl, q_le, q_lt, q_eq, q_ck, q_cd, q_cb0, q_cb1, q_div, q_rem, q_shl1, q_shr, q_and, q_or, q_tb, if_pos, if_neg, if_true, if_false, not_true, not_false_iff, eq_self, Bool.true_eq_false, Bool.false_eq_true, q_bI0, q_bI1, q_cbI, Nat.or_zero, mst_row, mrow_neA, mrow_neB, mrow_self, q_upd, f_X4_spilledBy_L11, h'.c1, h'.c3, e1, c1, Bool.not_true, Bool.and_false]
    · have c1 := Bool.not_eq_true _ ▸ c1
      by_cases c2 : suR (rdo V n N w0 q r) V n N k w0 = true
      · simp (disch := omega) only [Option.bind_some, Option.map_some, Option.bind_none, q_lit, nI_add, pk_mul, q_sub, q_addn, q_cl, q_le, q_lt, q_eq, q_ck, q_cd, q_cb0, q_cb1, q_div, q_rem, q_shl1, q_shr, q_and, q_or, q_tb, if_pos, if_neg, if_true, if_false, not_true, not_false_iff, eq_self, Bool.true_eq_false, Bool.false_eq_true, q_bI0, q_bI1, q_cbI, Nat.or_zero, mst_row, mrow_neA, mrow_neB, mrow_self, q_upd, f_X4_spilledBy_L11, h'.c1, h'.c3, e1, c1, e2, c2, Bool.not_false, Bool.and_self]
      · have c2 := Bool.not_eq_true _ ▸ c2
        simp (disch := omega) only [Option.bind_some, Option.map_some, Option.bind_none, q_lit, nI_add, pk_mul, q_sub, q_addn, q_cl, q_le, q_lt, q_eq, q_ck, q_cd, q_cb0, q_cb1, q_div, q_rem, q_shl1, q_shr, q_and, q_or, q_tb, if_pos, if_neg, if_true, if_false, not_true, not_false_iff, eq_self, Bool.true_eq_false, Bool.false_eq_true, q_bI0, q_bI1, q_cbI, Nat.or_zero, mst_row, mrow_neA, mrow_neB, mrow_self, q_upd, f_X4_spilledBy_L11, h'.c1, h'.c3, e1, c1, e2, c2, Bool.false_and]
  · show f_X4_spilledBy_L11 sh ln j (mrow μ (12, 4) C) (nI (set n (fun p => suR (rdo V n N w0 q r) V n N p w0 && !suR r V n N p w0))) (nI n) = _
    simp (disch := omega) only [Option.bind_some, Option.map_some, Option.bind_none, q_lit, nI_add, pk_mul, q_sub, q_addn, q_cl, q_le, q_lt, q_eq, q_ck, q_cd, q_cb0, q_cb1, q_div, q_rem, q_shl1, q_shr, q_and, q_or, q_tb, if_pos, if_neg, if_true, if_false, not_true, not_false_iff, eq_self, Bool.true_eq_false, Bool.false_eq_true, q_bI0, q_bI1, q_cbI, Nat.or_zero, mst_row, mrow_neA, mrow_neB, mrow_self, q_upd, f_X4_spilledBy_L11, h'.c1, Nat.le_refl]
    rfl
end MUDK
