-- trials: the reference copies its row, the class goes on with a draft
theorem cpy_s {f g : Nat → Int32} {k : Nat} : upd (fun i => if i < k then f i else g i) k (f k) = fun i => if i < k + 1 then f i else g i := by
  funext i
  rw [q_upd]
  by_cases e : i = k
  · rw [if_pos e, if_pos (by omega), e]
  · rw [if_neg e]
    by_cases c : i < k
    · rw [if_pos c, if_pos (by omega)]
    · rw [if_neg c, if_neg (by omega)]
theorem cpy_0 {f g : Nat → Int32} : (fun i => if i < 0 then f i else g i) = g := by funext i; exact if_neg (by omega)
theorem trt_hi {V n N w0 : Nat} {r : Nat → Int32} {Λo : Option LW} (h : WF V n N w0 r) {b : Bool} {p q i : Nat} (hi : 5440 ≤ i) : trtR V n N w0 Λo b p q r i = r i := by
  unfold trtR TL
  rw [tel_ne (by omega) (by omega), (rtp_ok h n (Nat.le_refl n)).2.2 _ (by omega)]
theorem trt_WF {V n N w0 : Nat} {r : Nat → Int32} {Λo : Option LW} (h : WF V n N w0 r) {b : Bool} {p q : Nat} : WF V n N w0 (trtR V n N w0 Λo b p q r) := tel_WF _ _ _ _ _ (rtp_ok h n (Nat.le_refl n)).1
theorem srl_ok {V n N w0 : Nat} {r : Nat → Int32} {Λo : Option LW} (h : WF V n N w0 r) (k : Nat) : WF V n N w0 (srl V n N w0 Λo r k).1 ∧ ∀ i, 5440 ≤ i → (srl V n N w0 Λo r k).1 i = r i := by
  induction k with
  | zero => exact ⟨h, fun _ _ => rfl⟩
  | succ k ih =>
    unfold srl
    by_cases c : n = 0
    · rw [if_pos c]; exact ⟨h, fun _ _ => rfl⟩
    · rw [if_neg c]
      have hW := sed_WF ih.1 (sdn (sdn ((srl V n N w0 Λo r k).1 5)))
      unfold sst
      split
      · refine ⟨hW, fun i hi => ?_⟩
        show upd _ 5 _ i = _
        rw [q_upd, if_neg (by omega)]
        exact ih.2 i hi
      · refine ⟨trt_WF hW, fun i hi => ?_⟩
        show trtR _ _ _ _ _ _ _ _ _ i = _
        rw [trt_hi hW hi, q_upd, if_neg (by omega)]
        exact ih.2 i hi
section TRIAL
variable {sh : Sh} {ln : Nat → Nat} {μ : Mm} {j d V n N w0 : Nat} {r : Nat → Int32} {Λo : Option LW}
theorem q_keepsAll (h : RS μ V n N w0 r) : f_X11_keepsAll μ = some (mrow μ (4, 0) (fun i => if i < 5440 then r i else μ (4, 0) i)) := by
  unfold f_X11_keepsAll
  refine Wh_it 5440 (fun k => (mrow μ (4, 0) (fun i => if i < k then r i else μ (4, 0) i), nI k)) (by rw [cpy_0, mrow_id]; rfl) (fun k hk => ?_) ?_
  · show f_X11_keepsAll_L2 (mrow μ (4, 0) (fun i => if i < k then r i else μ (4, 0) i)) (nI k) = some (.inl (mrow μ (4, 0) (fun i => if i < k + 1 then r i else μ (4, 0) i), nI (k + 1)))
    have h' := h.row (a := 4) (b := 0) (fun i => if i < k then r i else μ (4, 0) i) (by omega)
    simp (disch := omega) only [f_X11_keepsAll_L2, q_lit, q_le, q_ck, q_cl, if_neg, mst_row, mrow_mrow, mrow_self, h'.1, cpy_s, nI_add]
  · show f_X11_keepsAll_L2 (mrow μ (4, 0) (fun i => if i < 5440 then r i else μ (4, 0) i)) (nI 5440) = _
    rw [f_X11_keepsAll_L2, if_pos (show (5440 : Int32) ≤ nI 5440 from Int32.le_refl _)]
    rfl
theorem q_bringsBack {ρ : Nat → Int32} (h : μ (1, 0) = ρ) (h4 : ∀ i, i < 5440 → μ (4, 0) i = r i) (hρ : ∀ i, 5440 ≤ i → ρ i = r i) : f_X11_bringsBack μ = some (mrow μ (1, 0) r) := by
  unfold f_X11_bringsBack
  refine Wh_it 5440 (fun k => (mrow μ (1, 0) (fun i => if i < k then r i else ρ i), nI k)) (by rw [cpy_0, ← h, mrow_id]; rfl) (fun k hk => ?_) ?_
  · show f_X11_bringsBack_L2 (mrow μ (1, 0) (fun i => if i < k then r i else ρ i)) (nI k) = some (.inl (mrow μ (1, 0) (fun i => if i < k + 1 then r i else ρ i), nI (k + 1)))
    simp (disch := omega) only [f_X11_bringsBack_L2, q_lit, q_le, q_ck, q_cl, if_neg, mst_row, mrow_mrow, mrow_self, mrow_neA, h4, cpy_s, nI_add]
  · show f_X11_bringsBack_L2 (mrow μ (1, 0) (fun i => if i < 5440 then r i else ρ i)) (nI 5440) = _
    have e : (fun i => if i < 5440 then r i else ρ i) = r := by
      funext i
      by_cases c : i < 5440
      · rw [if_pos c]
      · rw [if_neg c]; exact hρ i (by omega)
    rw [f_X11_bringsBack_L2, if_pos (show (5440 : Int32) ≤ nI 5440 from Int32.le_refl _), e]
    rfl
/-- who is sure behind a stroll -/
def sbs (V n N w0 : Nat) (Λo : Option LW) (r : Nat → Int32) (m : Nat) : Nat := suO (srl V n N w0 Λo r m).1 V n N w0 n
def AT : List Nat := [1, 4, 8, 9, 10, 22, 23, 24]
theorem q_tryS (h : RS μ V n N w0 r) (hRL : LRw r Λo) {r0 : Nat → Int32} (h4 : ∀ i, i < 5440 → μ (4, 0) i = r0 i) (h0 : ∀ i, 5440 ≤ i → r i = r0 i) {m : Nat} (hm : m < 31) :
    ∃ a b c, f_X11_strolls μ (nI m) = some (nI (srl V n N w0 Λo r m).2, a) ∧ f_X11_here a = some (nI w0) ∧ f_X11_sureOnes a (nI w0) = some (nI (sbs V n N w0 Λo r m), b) ∧ f_X11_bringsBack b = some c ∧ c (1, 0) = r0 ∧ Fr AT μ c ∧ c (4, 0) = μ (4, 0) := by
  have hb := h.2.b
  obtain ⟨⟨a, e1, hS, hF⟩, -⟩ := q_strolls h hRL hm
  have e2 := q_here hS
  obtain ⟨R, e3⟩ := q_sureOnes hS hb.2.2.2.2.2 hS.2.h0
  have hs' := hS.row (a := 8) (b := 0) R (by omega)
  have ea4 : a (4, 0) = μ (4, 0) := hF 4 (by decide)
  have e4 := q_bringsBack (μ := mrow a (8, 0) R) (r := r0) hs'.1 (fun i hi => by rw [mrow_neA (by omega), ea4]; exact h4 i hi) (fun i hi => by rw [(srl_ok h.2 m).2 i hi]; exact h0 i hi)
  refine ⟨a, _, _, e1, e2, e3, e4, mrow_self _ _ _, (((hF.mono (by decide)).mr (by decide)).mr (by decide)), ?_⟩
  rw [mrow_neA (by omega), mrow_neA (by omega), ea4]
theorem q_trialB (h : RS μ V n N w0 r) (hRL : LRw r Λo) {m : Nat} (hm : m < 31) :
    ∃ a, ((f_X11_keepsAll μ).bind fun x31 => (f_X11_strolls x31 (nI m)).bind fun x36 => (f_X11_here x36.2).bind fun x42 => (f_X11_sureOnes x36.2 x42).bind fun x45 => (f_X11_bringsBack x45.2).bind fun x50 => some (x45.1, x50)) = some (nI (sbs V n N w0 Λo r m), a) ∧ RS a V n N w0 r ∧ Fr AT μ a := by
  have h' := h.row (a := 4) (b := 0) (fun i => if i < 5440 then r i else μ (4, 0) i) (by omega)
  obtain ⟨a, b, c, e1, e2, e3, e4, e5, hF, _⟩ := q_tryS h' hRL (r0 := r) (fun i hi => by rw [mrow_self, if_pos hi]) (fun _ _ => rfl) hm
  refine ⟨c, ?_, ⟨e5, h.2⟩, ((Fr.rf (S := AT)).mr (by decide)).tr hF⟩
  rw [q_keepsAll h, Option.bind_some, e1, Option.bind_some, e2, Option.bind_some, e3, Option.bind_some, e4, Option.bind_some]
/-- the fewest or most by the seeds 1 .. k + 1 -/
def spn (most : Bool) (f : Nat → Nat) : Nat → Nat
  | 0 => f 1
  | k + 1 => if most = true then (if spn most f k < f (k + 2) then f (k + 2) else spn most f k) else (if f (k + 2) < spn most f k then f (k + 2) else spn most f k)
theorem spn_le {most : Bool} {f : Nat → Nat} (hf : ∀ k, f k ≤ 9) (k : Nat) : spn most f k ≤ 9 := by
  induction k with
  | zero => exact hf 1
  | succ k ih =>
    have := hf (k + 2)
    unfold spn
    split <;> split <;> omega
def spf (V n N w0 : Nat) (Λo : Option LW) (r : Nat → Int32) (m s : Nat) : Nat := bc (sbs V n N w0 Λo (upd r 5 (nI s)) m)
theorem sbs_512 {V n N w0 m : Nat} {Λo : Option LW} {r : Nat → Int32} (hn : n ≤ 9) : sbs V n N w0 Λo r m < 512 := suO_512 hn
theorem q_spanB (h : RS μ V n N w0 r) (hRL : LRw r Λo) {m : Nat} (hm : m < 31) (most : Bool) :
    ∃ a, ((f_X11_keepsAll μ).bind fun x31 => Wh (fun z : Mm × Int32 × Int32 => f_X11_span_L39 (nI m) (bI most) z.1 z.2.1 z.2.2) (x31, (-1 : Int32), (1 : Int32))) = some (nI (spn most (spf V n N w0 Λo r m) 5), a) ∧ RS a V n N w0 r ∧ Fr AT μ a := by
  have hb := h.2.b
  rw [q_keepsAll h, Option.bind_some]
  have hh : ∃ x, Wh (fun z : Mm × Int32 × Int32 => f_X11_span_L39 (nI m) (bI most) z.1 z.2.1 z.2.2) (mrow μ (4, 0) (fun i => if i < 5440 then r i else μ (4, 0) i), (-1 : Int32), (1 : Int32)) = some x ∧ ∃ a, x = (nI (spn most (spf V n N w0 Λo r m) 5), a) ∧ RS a V n N w0 r ∧ Fr AT μ a := by
    refine Wh_inv1 6 (fun k s => ∃ a, s = (a, (if k = 0 then -nI 1 else nI (spn most (spf V n N w0 Λo r m) (k - 1))), nI (k + 1)) ∧ RS a V n N w0 r ∧ Fr AT μ a ∧ ∀ i, i < 5440 → a (4, 0) i = r i) _ ⟨_, rfl, h.row _ (by omega), (Fr.rf (S := AT)).mr (by decide), fun i hi => by rw [mrow_self, if_pos hi]⟩ ?_ ?_
    · rintro k _ hk ⟨a, rfl, hS, hF, h4⟩
      have hsd := hS.sed (nI (k + 1))
      obtain ⟨b, c, e, e1, e2, e3, e4, e5, hF2, e6⟩ := q_tryS hsd (hRL.sed (nI (k + 1))) (r0 := r) (fun i hi => by rw [mrow_neA (by omega)]; exact h4 i hi) (fun i hi => by rw [q_upd, if_neg (by omega)]) hm
      have em : mst a (1, 0) (5 : Int32).toNatClampNeg (nI (k + 1)) = mrow a (1, 0) (upd r 5 (nI (k + 1))) := by
        rw [show (5 : Int32).toNatClampNeg = 5 from rfl, mst_row, hS.1]
      have eb := k_bc (sbs_512 (V := V) (n := n) (N := N) (w0 := w0) (m := m) (Λo := Λo) (r := upd r 5 (nI (k + 1))) hb.2.2.2.2.1)
      have ebc : bc (sbs V n N w0 Λo (upd r 5 (nI (k + 1))) m) = spf V n N w0 Λo r m (k + 1) := rfl
      rw [ebc] at eb
      have hl1 : spf V n N w0 Λo r m (k + 1) ≤ 9 := bc_le _
      have hl2 := spn_le (most := most) (f := spf V n N w0 Λo r m) (fun s => bc_le _) (k - 1)
      have hstep : ∀ v X, (if 0 ≤ v then if bI most = 0 then some (.inl (e, (if nI (spf V n N w0 Λo r m (k + 1)) < v then nI (spf V n N w0 Λo r m (k + 1)) else v), nI (k + 1) + (1 : Int32))) else (some (.inl (e, (if v < nI (spf V n N w0 Λo r m (k + 1)) then nI (spf V n N w0 Λo r m (k + 1)) else v), nI (k + 1) + (1 : Int32)))) else (some (.inl (e, nI (spf V n N w0 Λo r m (k + 1)), nI (k + 1) + (1 : Int32)))) : Option ((Mm × Int32 × Int32) ⊕ (Int32 × Mm))) = X →
          f_X11_span_L39 (nI m) (bI most) a v (nI (k + 1)) = X := by
        intro v X hX
        rw [← hX, f_X11_span_L39, if_neg (by rw [show (6 : Int32) = nI 6 from rfl, q_lt (by omega) (by omega)]; omega), show (5 : Int32) = nI 5 from rfl, q_ck (by omega) (by omega)]
        rw [show (nI 5).toNatClampNeg = (5 : Int32).toNatClampNeg from rfl, em, e1, Option.bind_some, e2, Option.bind_some, e3, Option.bind_some, eb, Option.bind_some, e4, Option.bind_some]
      refine ⟨(e, nI (spn most (spf V n N w0 Λo r m) k), nI (k + 1 + 1)), ?_, e, by rw [if_neg (by omega)]; rfl, ⟨e5, h.2⟩, (hF.mr (by decide)).tr hF2, fun i hi => by rw [e6, mrow_neA (by omega)]; exact h4 i hi⟩
      refine hstep (if k = 0 then -nI 1 else nI (spn most (spf V n N w0 Λo r m) (k - 1))) _ ?_
      by_cases k0 : k = 0
      · subst k0
        rw [if_pos rfl, if_neg (show ¬ (0 : Int32) ≤ -nI 1 by decide), show (1 : Int32) = nI 1 from rfl, nI_add]
        rfl
      · obtain ⟨t, rfl⟩ : ∃ t, k = t + 1 := ⟨k - 1, by omega⟩
        rw [Nat.add_sub_cancel] at hl2 ⊢
        obtain ⟨A, hA⟩ : ∃ A, A = spn most (spf V n N w0 Λo r m) t := ⟨_, rfl⟩
        obtain ⟨B, hBB⟩ : ∃ B, B = spf V n N w0 Λo r m (t + 1 + 1) := ⟨_, rfl⟩
        have hsp : spn most (spf V n N w0 Λo r m) (t + 1) = if most = true then (if A < B then B else A) else (if B < A then B else A) := by rw [hA, hBB]; rfl
        rw [hsp, ← hA, ← hBB]
        rw [← hA] at hl2
        rw [← hBB] at hl1
        rw [if_neg k0, if_pos (show (0 : Int32) ≤ nI A by rw [show (0 : Int32) = nI 0 from rfl, q_le (by omega) (by omega)]; omega), show (1 : Int32) = nI 1 from rfl, nI_add]
        have q1 : (nI B < nI A) = (B < A) := q_lt (by omega) (by omega)
        have q2 : (nI A < nI B) = (A < B) := q_lt (by omega) (by omega)
        cases most
        · rw [if_pos (show bI false = 0 from rfl), if_neg (show ¬ false = true by decide)]
          by_cases c1 : B < A
          · rw [if_pos (q1.mpr c1), if_pos c1]
          · rw [if_neg (fun x => c1 (q1.mp x)), if_neg c1]
        · rw [if_neg (show ¬ bI true = 0 by decide), if_pos (show true = true from rfl)]
          by_cases c1 : A < B
          · rw [if_pos (q2.mpr c1), if_pos c1]
          · rw [if_neg (fun x => c1 (q2.mp x)), if_neg c1]
    · rintro _ ⟨a, rfl, hS, hF, h4⟩
      refine ⟨_, ?_, a, rfl, hS, hF⟩
      show f_X11_span_L39 (nI m) (bI most) a (if 6 = 0 then -nI 1 else nI (spn most (spf V n N w0 Λo r m) 5)) (nI 7) = _
      rw [if_neg (by omega), f_X11_span_L39, if_pos (by decide)]
      rfl
  obtain ⟨_, e, a, rfl, hS, hF⟩ := hh
  exact ⟨a, e, hS, hF⟩
end TRIAL
