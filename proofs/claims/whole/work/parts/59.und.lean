-- undo, image and back of the reference
section UND
variable {μ : Mm} {V n N w0 : Nat} {r : Nat → Int32}
/-- the row behind an undo: all but the law's text is that of then -/
def undR (ρ r : Nat → Int32) : Nat → Int32 := upd (fun i => if i < 5440 then ρ i else r i) 7 (nI 1)
theorem undR_WF {ρ : Nat → Int32} (h : WF V n N w0 ρ) : WF V n N w0 (undR ρ r) := by
  have hb := h.b
  have eu : ∀ i, i ≠ 7 → i < 5440 → undR ρ r i = ρ i := fun i hi h2 => by
    unfold undR
    rw [q_upd, if_neg hi, if_pos h2]
  have hlg := h.hlg
  exact h.chg (fun i h0 h1 => eu i (by omega) (by omega)) (eu _ (by omega) (by omega)) (eu _ (by omega) (by omega)) (eu _ (by omega) (by omega)) ⟨lgd ρ, hlg.2, by rw [eu _ (by omega) (by omega)]; exact hlg.1⟩ (by rw [eu _ (by omega) (by omega)]; exact h.2.2.2.2.2.2.2.1) (Or.inr (by unfold undR; rw [q_upd, if_pos rfl])) (by rw [eu _ (by omega) (by omega)]; exact h.2.2.2.2.2.2.2.2.2)
theorem q_undo0 (h7 : μ (0, 0) 7 = nI 0) : f_X11_undo μ = some (nI 0, mrow μ (0, 0) (upd (μ (0, 0)) 0 (nI 0))) := by
  have e7 : mst μ (0, 0) 0 (0 : Int32) (0, 0) 7 = 0 := by rw [mst_row, mrow_self, q_upd, if_neg (by omega)]; exact h7
  rw [f_X11_undo, if_pos e7, mst_row]
  rfl
theorem q_undo {ρ : Nat → Int32} (h : μ (1, 0) = r) (hρ : WF V n N w0 ρ) {c : Nat} (hc : c < 8) (h7 : μ (0, 0) 7 = nI (c + 1)) (hk : ∀ k, k < 5440 → μ (5, 0) (5440 * c + k) = ρ k) :
    ∃ a, f_X11_undo μ = some (nI 1, a) ∧ RS a V n N w0 (undR ρ r) ∧ Fr [0, 1] μ a ∧ a (0, 0) 0 = nI 0 ∧ a (0, 0) 7 = nI c ∧ ∀ i, i ≠ 0 → i ≠ 7 → a (0, 0) i = μ (0, 0) i := by
  have e7 : mst μ (0, 0) 0 (0 : Int32) (0, 0) 7 = nI (c + 1) := by rw [mst_row, mrow_self, q_upd, if_neg (by omega)]; exact h7
  have hn : ¬ mst μ (0, 0) 0 (0 : Int32) (0, 0) 7 = 0 := by rw [e7, show (0 : Int32) = nI 0 from rfl, q_eq (by omega) (by omega)]; omega
  obtain ⟨μ1, hμ1⟩ : ∃ μ1, μ1 = mst (mst μ (0, 0) 0 (0 : Int32)) (0, 0) 7 (mst μ (0, 0) 0 (0 : Int32) (0, 0) 7 - (1 : Int32)) := ⟨_, rfl⟩
  have hm : μ1 = mrow μ (0, 0) (upd (upd (μ (0, 0)) 0 (nI 0)) 7 (nI c)) := by
    rw [hμ1, e7, show (1 : Int32) = nI 1 from rfl, q_sub (by omega), Nat.add_sub_cancel, mst_row, mst_row, mrow_mrow, mrow_self]
    rfl
  have k1 : μ1 (1, 0) = r := by rw [hm, mrow_neA (by omega)]; exact h
  have k7 : μ1 (0, 0) 7 = nI c := by rw [hm, mrow_self, q_upd, if_pos rfl]
  have k5 : ∀ k, k < 5440 → μ1 (5, 0) (5440 * c + k) = ρ k := fun k hk2 => by rw [hm, mrow_neA (by omega)]; exact hk k hk2
  refine ⟨mrow μ1 (1, 0) (undR ρ r), ?_, RS.set (undR_WF hρ) _, ?_, ?_, ?_, ?_⟩
  · rw [f_X11_undo, if_neg hn, ← hμ1]
    refine Wh_it 5440 (fun k => (mrow μ1 (1, 0) (fun i => if i < k then ρ i else r i), nI k)) (by rw [cpy_0, ← k1, mrow_id]; rfl) (fun k hk2 => ?_) ?_
    · show f_X11_undo_L26 (mrow μ1 (1, 0) (fun i => if i < k then ρ i else r i)) (nI k) = some (.inl (mrow μ1 (1, 0) (fun i => if i < k + 1 then ρ i else r i), nI (k + 1)))
      simp (disch := omega) only [f_X11_undo_L26, q_lit, q_le, if_neg, mrow_neA, k7, pk_mul, nI_add, q_ck, q_cl, mst_row, mrow_mrow, mrow_self, k5, cpy_s]
    · show f_X11_undo_L26 (mrow μ1 (1, 0) (fun i => if i < 5440 then ρ i else r i)) (nI 5440) = _
      rw [f_X11_undo_L26, if_pos (show (5440 : Int32) ≤ nI 5440 from Int32.le_refl _), show (7 : Int32) = nI 7 from rfl, q_ck (by omega) (by omega), q_cl (by omega), mst_row, mrow_mrow, mrow_self]
      rfl
  · rw [hm]
    exact (Fr.rf.mr (by decide)).mr (by decide)
  · rw [mrow_neA (by omega), hm, mrow_self]; rfl
  · rw [mrow_neA (by omega)]; exact k7
  · intro i h0 h1
    rw [mrow_neA (by omega), hm, mrow_self, q_upd, if_neg h1, q_upd, if_neg h0]
theorem q_image (h : RS μ V n N w0 r) : ∃ a, f_X11_image μ = some a ∧ RS a V n N w0 r ∧ Fr [0, 2] μ a ∧ (∀ k, k < 6277 → a (2, 0) k = r k) ∧ a (0, 0) 0 = nI 0 ∧ a (0, 0) 6 = nI 1 ∧ ∀ i, i ≠ 0 → i ≠ 6 → a (0, 0) i = μ (0, 0) i := by
  obtain ⟨μ1, hm⟩ : ∃ μ1, μ1 = mrow μ (0, 0) (upd (μ (0, 0)) 0 (nI 0)) := ⟨_, rfl⟩
  have k1 : μ1 (1, 0) = r := by rw [hm, mrow_neA (by omega)]; exact h.1
  have key : f_X11_image μ = some (mrow (mrow μ1 (2, 0) (fun i => if i < 6277 then r i else μ1 (2, 0) i)) (0, 0) (upd (μ1 (0, 0)) 6 (nI 1))) := by
    rw [f_X11_image, show mst μ (0, 0) 0 (0 : Int32) = μ1 by rw [hm, mst_row]; rfl]
    refine Wh_it 6277 (fun k => (mrow μ1 (2, 0) (fun i => if i < k then r i else μ1 (2, 0) i), nI k)) (by rw [cpy_0, mrow_id]; rfl) (fun k hk2 => ?_) ?_
    · show f_X11_image_L7 (mrow μ1 (2, 0) (fun i => if i < k then r i else μ1 (2, 0) i)) (nI k) = some (.inl (mrow μ1 (2, 0) (fun i => if i < k + 1 then r i else μ1 (2, 0) i), nI (k + 1)))
      simp (disch := omega) only [f_X11_image_L7, q_lit, q_le, if_neg, mrow_neA, k1, nI_add, q_ck, q_cl, mst_row, mrow_mrow, mrow_self, cpy_s]
    · show f_X11_image_L7 (mrow μ1 (2, 0) (fun i => if i < 6277 then r i else μ1 (2, 0) i)) (nI 6277) = _
      rw [f_X11_image_L7, if_pos (show (6277 : Int32) ≤ nI 6277 from Int32.le_refl _), mst_row, mrow_neA (by omega)]
      rfl
  refine ⟨_, key, ⟨?_, h.2⟩, ?_, ?_, ?_, ?_, ?_⟩
  · rw [mrow_neA (by omega), mrow_neA (by omega)]; exact k1
  · rw [hm]; exact ((Fr.rf.mr (by decide)).mr (by decide)).mr (by decide)
  · intro k hk
    rw [mrow_neA (by omega), mrow_self, if_pos hk]
  · rw [mrow_self, q_upd, if_neg (by omega), hm, mrow_self]; rfl
  · rw [mrow_self, q_upd, if_pos rfl]
  · intro i h0 h1
    rw [mrow_self, q_upd, if_neg h1, hm, mrow_self, q_upd, if_neg h0]
theorem q_back0 (h6 : μ (0, 0) 6 = nI 0) : f_X11_back μ = some (nI 0, mrow μ (0, 0) (upd (μ (0, 0)) 0 (nI 0))) := by
  have e6 : mst μ (0, 0) 0 (0 : Int32) (0, 0) 6 = 0 := by rw [mst_row, mrow_self, q_upd, if_neg (by omega)]; exact h6
  rw [f_X11_back, if_pos e6, mst_row]
  rfl
/-- the row behind a back -/
def bacR (ρ r : Nat → Int32) : Nat → Int32 := fun i => if i < 6277 then ρ i else r i
theorem bacR_WF {ρ : Nat → Int32} (h : WF V n N w0 ρ) : WF V n N w0 (bacR ρ r) := by
  have hb := h.b
  have eu : ∀ i, i < 6277 → bacR ρ r i = ρ i := fun i h2 => if_pos h2
  have hlg := h.hlg
  exact h.chg (fun i h0 h1 => eu i (by omega)) (eu _ (by omega)) (eu _ (by omega)) (eu _ (by omega)) ⟨lgd ρ, hlg.2, by rw [eu _ (by omega)]; exact hlg.1⟩ (by rw [eu _ (by omega)]; exact h.2.2.2.2.2.2.2.1) (by rw [eu _ (by omega)]; exact h.2.2.2.2.2.2.2.2.1) (by rw [eu _ (by omega)]; exact h.2.2.2.2.2.2.2.2.2)
theorem q_back {ρ : Nat → Int32} (h : μ (1, 0) = r) (hρ : WF V n N w0 ρ) (h6 : μ (0, 0) 6 = nI 1) (hk : ∀ k, k < 6277 → μ (2, 0) k = ρ k) :
    ∃ a, f_X11_back μ = some (nI 1, a) ∧ RS a V n N w0 (bacR ρ r) ∧ Fr [0, 1] μ a ∧ a (0, 0) 0 = nI 0 ∧ a (0, 0) 7 = nI 0 ∧ ∀ i, i ≠ 0 → i ≠ 7 → a (0, 0) i = μ (0, 0) i := by
  have e6 : mst μ (0, 0) 0 (0 : Int32) (0, 0) 6 = nI 1 := by rw [mst_row, mrow_self, q_upd, if_neg (by omega)]; exact h6
  have hn : ¬ mst μ (0, 0) 0 (0 : Int32) (0, 0) 6 = 0 := by rw [e6]; decide
  obtain ⟨μ1, hm⟩ : ∃ μ1, μ1 = mrow μ (0, 0) (upd (μ (0, 0)) 0 (nI 0)) := ⟨_, rfl⟩
  have k1 : μ1 (1, 0) = r := by rw [hm, mrow_neA (by omega)]; exact h
  have k2 : ∀ k, k < 6277 → μ1 (2, 0) k = ρ k := fun k hk2 => by rw [hm, mrow_neA (by omega)]; exact hk k hk2
  have key : f_X11_back μ = some (nI 1, mrow (mrow μ1 (1, 0) (bacR ρ r)) (0, 0) (upd (μ1 (0, 0)) 7 (nI 0))) := by
    rw [f_X11_back, if_neg hn, show mst μ (0, 0) 0 (0 : Int32) = μ1 by rw [hm, mst_row]; rfl]
    refine Wh_it 6277 (fun k => (mrow μ1 (1, 0) (fun i => if i < k then ρ i else r i), nI k)) (by rw [cpy_0, ← k1, mrow_id]; rfl) (fun k hk2 => ?_) ?_
    · show f_X11_back_L16 (mrow μ1 (1, 0) (fun i => if i < k then ρ i else r i)) (nI k) = some (.inl (mrow μ1 (1, 0) (fun i => if i < k + 1 then ρ i else r i), nI (k + 1)))
      simp (disch := omega) only [f_X11_back_L16, q_lit, q_le, if_neg, mrow_neA, k2, nI_add, q_ck, q_cl, mst_row, mrow_mrow, mrow_self, cpy_s]
    · show f_X11_back_L16 (mrow μ1 (1, 0) (bacR ρ r)) (nI 6277) = _
      rw [f_X11_back_L16, if_pos (show (6277 : Int32) ≤ nI 6277 from Int32.le_refl _), mst_row, mrow_neA (by omega)]
      rfl
  refine ⟨_, key, ⟨by rw [mrow_neA (by omega), mrow_self], bacR_WF hρ⟩, ?_, ?_, ?_, ?_⟩
  · rw [hm]; exact ((Fr.rf.mr (by decide)).mr (by decide)).mr (by decide)
  · rw [mrow_self, q_upd, if_neg (by omega), hm, mrow_self]; rfl
  · rw [mrow_self, q_upd, if_pos rfl]
  · intro i h0 h1
    rw [mrow_self, q_upd, if_neg h1, hm, mrow_self, q_upd, if_neg h0]
end UND
