-- what is remembered: the reference
section REM
variable {μ : Mm} {V n N w0 : Nat} {r : Nat → Int32}
theorem cpy_s2 {f g : Nat → Int32} {b k : Nat} : upd (fun i => if b ≤ i ∧ i < b + k then f (i - b) else g i) (b + k) (f k) = fun i => if b ≤ i ∧ i < b + (k + 1) then f (i - b) else g i := by
  funext i
  rw [q_upd]
  by_cases e : i = b + k
  · rw [if_pos e, if_pos (by omega), e, Nat.add_sub_cancel_left]
  · rw [if_neg e]
    by_cases c : b ≤ i ∧ i < b + k
    · rw [if_pos c, if_pos (by omega)]
    · rw [if_neg c, if_neg (by omega)]
theorem don_WF (h : WF V n N w0 r) : WF V n N w0 (upd r 7 (nI 1)) := by
  have eu : ∀ i, i ≠ 7 → upd r 7 (nI 1) i = r i := fun i hi => by rw [q_upd, if_neg hi]
  have hlg := h.hlg
  exact h.chg (fun i h0 _ => eu i (by omega)) (eu _ (by omega)) (eu _ (by omega)) (eu _ (by omega)) ⟨lgd r, hlg.2, by rw [eu _ (by omega)]; exact hlg.1⟩ (by rw [eu _ (by omega)]; exact h.2.2.2.2.2.2.2.1) (Or.inr (by rw [q_upd, if_pos rfl])) (by rw [eu _ (by omega)]; exact h.2.2.2.2.2.2.2.2.2)
/-- the c-th place holds the row now -/
def kep (c : Nat) (r R : Nat → Int32) : Nat → Int32 := fun x => if 5440 * c ≤ x ∧ x < 5440 * c + 5440 then r (x - 5440 * c) else R x
theorem q_remJ (h : RS μ V n N w0 r) {c : Nat} (hc : c < 8) (h7 : μ (0, 0) 7 = nI (c + 1)) : f_X11_remembers_J52 μ = some (mrow (mrow μ (5, 0) (kep c r (μ (5, 0)))) (1, 0) (upd r 7 (nI 1))) := by
  unfold f_X11_remembers_J52
  refine Wh_it 5440 (fun k => (mrow μ (5, 0) (fun i => if 5440 * c ≤ i ∧ i < 5440 * c + k then r (i - 5440 * c) else μ (5, 0) i), nI k)) ?_ (fun k hk => ?_) ?_
  · have : (fun i => if 5440 * c ≤ i ∧ i < 5440 * c + 0 then r (i - 5440 * c) else μ (5, 0) i) = μ (5, 0) := by funext i; exact if_neg (by omega)
    rw [this, mrow_id]; rfl
  · show f_X11_remembers_L54 (mrow μ (5, 0) (fun i => if 5440 * c ≤ i ∧ i < 5440 * c + k then r (i - 5440 * c) else μ (5, 0) i)) (nI k) = some (.inl (mrow μ (5, 0) (fun i => if 5440 * c ≤ i ∧ i < 5440 * c + (k + 1) then r (i - 5440 * c) else μ (5, 0) i), nI (k + 1)))
    have h' := h.row (a := 5) (b := 0) (fun i => if 5440 * c ≤ i ∧ i < 5440 * c + k then r (i - 5440 * c) else μ (5, 0) i) (by omega)
    have ei : nI 5440 * (nI (c + 1) - nI 1) + nI k = nI (5440 * c + k) := by rw [q_sub (by omega), Nat.add_sub_cancel, pk_mul, nI_add]
    simp (disch := omega) only [f_X11_remembers_L54, q_lit, q_le, if_neg, mrow_neA, h7, ei, q_ck, q_cl, mst_row, mrow_mrow, mrow_self, h'.1, h.1, cpy_s2, nI_add]
  · show f_X11_remembers_L54 (mrow μ (5, 0) (kep c r (μ (5, 0)))) (nI 5440) = _
    rw [f_X11_remembers_L54, if_pos (show (5440 : Int32) ≤ nI 5440 from Int32.le_refl _), show (7 : Int32) = nI 7 from rfl, q_ck (by omega) (by omega), q_cl (by omega), mst_row, mrow_neA (by omega), h.1]
    rfl
/-- what is remembered, as the reference has it -/
theorem q_remembers (h : RS μ V n N w0 r) {c : Nat} (hc : c ≤ 8) (h7 : μ (0, 0) 7 = nI c) :
    ∃ a, f_X11_remembers μ = some a ∧ RS a V n N w0 (upd r 7 (nI 1)) ∧ Fr [0, 1, 5] μ a ∧ a (0, 0) 7 = nI (if c < 8 then c + 1 else 8) ∧ (∀ i, i ≠ 7 → a (0, 0) i = μ (0, 0) i) ∧
      (∀ k, k < 5440 → a (5, 0) (5440 * (if c < 8 then c else 7) + k) = r k) ∧ ∀ i k, i < (if c < 8 then c else 7) → k < 5440 → a (5, 0) (5440 * i + k) = μ (5, 0) (5440 * (if c < 8 then i else i + 1) + k) := by
  by_cases c8 : c < 8
  · have hn : ¬ μ (0, 0) 7 = (8 : Int32) := by rw [h7, show (8 : Int32) = nI 8 from rfl, q_eq (by omega) (by omega)]; omega
    have em : mst μ (0, 0) 7 (μ (0, 0) 7 + (1 : Int32)) = mrow μ (0, 0) (upd (μ (0, 0)) 7 (nI (c + 1))) := by rw [mst_row, h7, show (1 : Int32) = nI 1 from rfl, nI_add]
    have h' := h.row (a := 0) (b := 0) (upd (μ (0, 0)) 7 (nI (c + 1))) (by omega)
    have e := q_remJ h' c8 (by rw [mrow_self, q_upd, if_pos rfl])
    rw [mrow_neA (by omega)] at e
    refine ⟨_, by rw [f_X11_remembers, if_neg hn, em]; exact e, RS.set (don_WF h.2) _, ((Fr.rf.mr (by decide)).mr (by decide)).mr (by decide), ?_, ?_, ?_, ?_⟩
    · rw [mrow_neA (by omega), mrow_neA (by omega), mrow_self, q_upd, if_pos rfl, if_pos c8]
    · intro i hi
      rw [mrow_neA (by omega), mrow_neA (by omega), mrow_self, q_upd, if_neg hi]
    · intro k hk
      rw [if_pos c8, mrow_neA (by omega), mrow_self]
      unfold kep
      rw [if_pos (by omega), Nat.add_sub_cancel_left]
    · intro i k hi hk
      rw [if_pos c8] at hi
      rw [if_pos c8, mrow_neA (by omega), mrow_self]
      unfold kep
      rw [if_neg (by omega)]
  · have hce : c = 8 := by omega
    subst hce
    have e0 : Wh (fun z : Mm × Int32 => f_X11_remembers_L11 z.1 z.2) (μ, (0 : Int32)) = f_X11_remembers_J52 (mrow μ (5, 0) (fun i => if i < 38080 then μ (5, 0) (i + 5440) else μ (5, 0) i)) := by
      have h' := h.row (a := 5) (b := 0) (fun i => if i < 38080 then μ (5, 0) (i + 5440) else μ (5, 0) i) (by omega)
      have eJ := q_remJ h' (c := 7) (by omega) (by rw [mrow_neA (by omega)]; exact h7)
      rw [eJ]
      refine Wh_it 38080 (fun k => (mrow μ (5, 0) (fun i => if i < k then μ (5, 0) (i + 5440) else μ (5, 0) i), nI k)) (by rw [cpy_0 (f := fun i => μ (5, 0) (i + 5440)), mrow_id]; rfl) (fun k hk => ?_) ?_
      · show f_X11_remembers_L11 (mrow μ (5, 0) (fun i => if i < k then μ (5, 0) (i + 5440) else μ (5, 0) i)) (nI k) = some (.inl (mrow μ (5, 0) (fun i => if i < k + 1 then μ (5, 0) (i + 5440) else μ (5, 0) i), nI (k + 1)))
        have ev : (if k + 5440 < k then μ (5, 0) (k + 5440 + 5440) else μ (5, 0) (k + 5440)) = μ (5, 0) (k + 5440) := if_neg (by omega)
        have ec := cpy_s (f := fun i => μ (5, 0) (i + 5440)) (g := μ (5, 0)) (k := k)
        simp (disch := omega) only [f_X11_remembers_L11, q_lit, q_le, if_neg, nI_add, q_ck, q_cl, mst_row, mrow_mrow, mrow_self, ev, ec]
      · show f_X11_remembers_L11 (mrow μ (5, 0) (fun i => if i < 38080 then μ (5, 0) (i + 5440) else μ (5, 0) i)) (nI 38080) = _
        rw [f_X11_remembers_L11, if_pos (show (38080 : Int32) ≤ nI 38080 from Int32.le_refl _), eJ]
        rfl
    have h' := h.row (a := 5) (b := 0) (fun i => if i < 38080 then μ (5, 0) (i + 5440) else μ (5, 0) i) (by omega)
    have eJ := q_remJ h' (c := 7) (by omega) (by rw [mrow_neA (by omega)]; exact h7)
    refine ⟨_, by rw [f_X11_remembers, if_pos (show μ (0, 0) 7 = 8 from h7), e0]; exact eJ, RS.set (don_WF h.2) _, ((Fr.rf.mr (by decide)).mr (by decide)).mr (by decide), ?_, fun i _ => ?_, ?_, ?_⟩
    · rw [mrow_neA (by omega), mrow_neA (by omega), mrow_neA (by omega), if_neg c8]; exact h7
    · rw [mrow_neA (by omega), mrow_neA (by omega), mrow_neA (by omega)]
    · intro k hk
      rw [if_neg c8, mrow_neA (by omega), mrow_self]
      unfold kep
      rw [if_pos (by omega), Nat.add_sub_cancel_left]
    · intro i k hi hk
      rw [if_neg c8] at hi
      rw [if_neg c8, mrow_neA (by omega), mrow_self]
      unfold kep
      rw [if_neg (by omega), mrow_self, if_pos (by omega)]
      congr 1
      omega
end REM
