-- a law: lines of steps of a machine with a pile
abbrev LW : Type := Nat × (Nat → Nat) × (Nat → Nat) × (Nat → Nat) × (Nat → Nat)
def evN (E : Nat → Int32) (s m : Nat) (v : List Int32) : List Int32 :=
  if s ≤ 5 then E s :: v else if s = 6 then nI m :: v else if s = 10 then (match v with | a :: u => (nI 1 - a) :: u | [] => [])
  else (match v with
    | b :: a :: u => (if s = 7 then a + b else if s = 8 then bI (decide (a < b)) else if s = 9 then bI (decide (b < a)) else if s = 11 then bI (decide (a + b = nI 2)) else bI (decide (¬ (a + b ≤ nI 0)))) :: u
    | _ => [])
def tyN (s : Nat) (l : List Bool) : Option (List Bool) :=
  if s ≤ 5 then (if s ≤ 3 then some (false :: l) else some (true :: l)) else if s = 6 then some (false :: l) else if s = 10 then (match l with | true :: u => some (true :: u) | _ => none)
  else if s = 7 then (match l with | false :: false :: u => some (false :: u) | _ => none)
  else if s = 8 ∨ s = 9 then (match l with | false :: false :: u => some (true :: u) | _ => none)
  else (match l with | true :: true :: u => some (true :: u) | _ => none)
def is01 (x : Int32) : Prop := x = nI 0 ∨ x = nI 1
theorem is01_b (b : Bool) : is01 (bI b) := by cases b; exact Or.inl rfl; exact Or.inr rfl
def tyOk : List Bool → List Int32 → Prop
  | [], [] => True
  | b :: t, x :: u => (b = true → is01 x) ∧ tyOk t u
  | _, _ => False
theorem tyOk_len {l : List Bool} {v : List Int32} (h : tyOk l v) : l.length = v.length := by
  induction l generalizing v with
  | nil =>
    cases v with
    | nil => rfl
    | cons _ _ => exact absurd h (by simp [tyOk])
  | cons b t ih =>
    cases v with
    | nil => exact absurd h (by simp [tyOk])
    | cons x u =>
      rw [List.length_cons, List.length_cons, ih h.2]
theorem tyOk_c {b : Bool} {t : List Bool} {v : List Int32} (h : tyOk (b :: t) v) : ∃ x u, v = x :: u ∧ (b = true → is01 x) ∧ tyOk t u := by
  cases v with
  | nil => exact absurd h (by simp [tyOk])
  | cons x u => exact ⟨x, u, rfl, h.1, h.2⟩
theorem tyOk_n {v : List Int32} (h : tyOk [] v) : v = [] := by
  cases v with
  | nil => rfl
  | cons x u => exact absurd h (by simp [tyOk])
/-- how a step turns a pile of a type -/
theorem tyN_inv {s : Nat} {l l' : List Bool} (h : tyN s l = some l') :
    (s ≤ 3 ∧ l' = false :: l) ∨ ((s = 4 ∨ s = 5) ∧ l' = true :: l) ∨ (s = 6 ∧ l' = false :: l) ∨ (s = 10 ∧ ∃ u, l = true :: u ∧ l' = true :: u) ∨ (s = 7 ∧ ∃ u, l = false :: false :: u ∧ l' = false :: u) ∨
    ((s = 8 ∨ s = 9) ∧ ∃ u, l = false :: false :: u ∧ l' = true :: u) ∨ ((s = 11 ∨ 12 ≤ s) ∧ ∃ u, l = true :: true :: u ∧ l' = true :: u) := by
  unfold tyN at h
  by_cases c1 : s ≤ 5
  · rw [if_pos c1] at h
    by_cases c2 : s ≤ 3
    · rw [if_pos c2] at h; cases h; exact Or.inl ⟨c2, rfl⟩
    · rw [if_neg c2] at h; cases h; exact Or.inr (Or.inl ⟨by omega, rfl⟩)
  · rw [if_neg c1] at h
    by_cases c2 : s = 6
    · rw [if_pos c2] at h; cases h; exact Or.inr (Or.inr (Or.inl ⟨c2, rfl⟩))
    · rw [if_neg c2] at h
      by_cases c3 : s = 10
      · rw [if_pos c3] at h
        refine Or.inr (Or.inr (Or.inr (Or.inl ⟨c3, ?_⟩)))
        split at h
        · cases h; exact ⟨_, rfl, rfl⟩
        · cases h
      · rw [if_neg c3] at h
        by_cases c4 : s = 7
        · rw [if_pos c4] at h
          refine Or.inr (Or.inr (Or.inr (Or.inr (Or.inl ⟨c4, ?_⟩))))
          split at h
          · cases h; exact ⟨_, rfl, rfl⟩
          · cases h
        · rw [if_neg c4] at h
          by_cases c5 : s = 8 ∨ s = 9
          · rw [if_pos c5] at h
            refine Or.inr (Or.inr (Or.inr (Or.inr (Or.inr (Or.inl ⟨c5, ?_⟩)))))
            split at h
            · cases h; exact ⟨_, rfl, rfl⟩
            · cases h
          · rw [if_neg c5] at h
            refine Or.inr (Or.inr (Or.inr (Or.inr (Or.inr (Or.inr ⟨by omega, ?_⟩)))))
            split at h
            · cases h; exact ⟨_, rfl, rfl⟩
            · cases h
def rep (R : Nat → Int32) : List Int32 → Prop
  | [] => True
  | x :: u => R u.length = x ∧ rep R u
theorem rep_upd {R : Nat → Int32} {v : List Int32} {k : Nat} {x : Int32} (hk : v.length ≤ k) (h : rep R v) : rep (upd R k x) v := by
  induction v with
  | nil => trivial
  | cons y u ih =>
    rw [List.length_cons] at hk
    exact ⟨by rw [q_upd, if_neg (by omega)]; exact h.1, ih (by omega) h.2⟩
theorem rep_push {R : Nat → Int32} {v : List Int32} {x : Int32} (h : rep R v) : rep (upd R v.length x) (x :: v) := ⟨by rw [q_upd, if_pos rfl], rep_upd (Nat.le_refl _) h⟩
/-- what is so, for the steps: theirs, who, whom, day, sure, seen -/
def evF (r : Nat → Int32) (who whom : Nat) (th : Nat) (su : Bool) : Nat → Int32 := fun i => if i = 0 then nI th else if i = 1 then nI who else if i = 2 then nI whom else if i = 3 then r 4 else if i = 4 then bI su else bI ((se r whom).testBit who)
def evR (Λ : LW) (E : Nat → Int32) (k : Nat) : Nat → List Int32
  | 0 => []
  | t + 1 => evN E (Λ.2.2.2.1 (Λ.2.2.1 k + t)) (Λ.2.2.2.2 (Λ.2.2.1 k + t)) (evR Λ E k t)
def tyR (Λ : LW) (k : Nat) : Nat → Option (List Bool)
  | 0 => some []
  | t + 1 => (tyR Λ k t).bind (tyN (Λ.2.2.2.1 (Λ.2.2.1 k + t)))
/-- a law that is well built -/
def LWt (Λ : LW) : Prop := Λ.1 ≤ 12 ∧ Λ.2.2.1 0 = 0 ∧ Λ.2.2.1 Λ.1 ≤ 400 ∧ (∀ k, k < Λ.1 → Λ.2.1 k ≤ 999 ∧ Λ.2.2.1 k ≤ Λ.2.2.1 (k + 1)) ∧ (∀ i, i < Λ.2.2.1 Λ.1 → Λ.2.2.2.1 i ≤ 12 ∧ Λ.2.2.2.2 i ≤ 999) ∧
  ∀ k, k < Λ.1 → tyR Λ k (Λ.2.2.1 (k + 1) - Λ.2.2.1 k) = some (if Λ.2.2.1 k = Λ.2.2.1 (k + 1) then [] else [true]) ∧ ∀ t, t ≤ Λ.2.2.1 (k + 1) - Λ.2.2.1 k → ∃ l, tyR Λ k t = some l ∧ l.length ≤ 40
/-- the reference's row holds it -/
def LWr (r : Nat → Int32) (Λ : LW) : Prop := r 5440 = nI Λ.1 ∧ (∀ k, k < Λ.1 → r (5441 + 3 * k) = nI (Λ.2.1 k) ∧ r (5441 + 3 * k + 1) = nI (Λ.2.2.1 k) ∧ r (5441 + 3 * k + 2) = nI (Λ.2.2.1 (k + 1))) ∧
  ∀ i, i < Λ.2.2.1 Λ.1 → r (5477 + 2 * i) = nI (Λ.2.2.2.1 i) ∧ (Λ.2.2.2.1 i = 6 → r (5477 + 2 * i + 1) = nI (Λ.2.2.2.2 i))
def LRw (r : Nat → Int32) (Λo : Option LW) : Prop := match Λo with
  | none => r 3 = nI 0
  | some Λ => r 3 = nI 1 ∧ LWr r Λ ∧ LWt Λ
def hldL (Λ : LW) (E : Nat → Int32) (k : Nat) : Bool := match evR Λ E k (Λ.2.2.1 (k + 1) - Λ.2.2.1 k) with
  | [] => true
  | x :: _ => decide (x = nI 1)
def MBs (Λ : LW) (E : Nat → Int32) : Nat → Int32
  | 0 => nI 0
  | k + 1 => MBs Λ E k + (if hldL Λ E k = true then nI (Λ.2.1 k) else nI 0)
def MB (Λo : Option LW) (E : Nat → Int32) : Int32 := match Λo with
  | none => nI 0
  | some Λ => MBs Λ E Λ.1
theorem evN_ok {E : Nat → Int32} {s m : Nat} {l l' : List Bool} {v : List Int32} (h4 : is01 (E 4)) (h5 : is01 (E 5)) (h : tyN s l = some l') (hv : tyOk l v) : tyOk l' (evN E s m v) := by
  rcases tyN_inv h with ⟨hs, rfl⟩ | ⟨hs, rfl⟩ | ⟨hs, rfl⟩ | ⟨hs, u, rfl, rfl⟩ | ⟨hs, u, rfl, rfl⟩ | ⟨hs, u, rfl, rfl⟩ | ⟨hs, u, rfl, rfl⟩
  · unfold evN; rw [if_pos (by omega)]; exact ⟨fun e => absurd e (by decide), hv⟩
  · unfold evN; rw [if_pos (by omega)]; exact ⟨fun _ => by rcases hs with rfl | rfl <;> assumption, hv⟩
  · unfold evN; rw [if_neg (by omega), if_pos hs]; exact ⟨fun e => absurd e (by decide), hv⟩
  · obtain ⟨x, w, rfl, hx, hw⟩ := tyOk_c hv
    unfold evN; rw [if_neg (by omega), if_neg (by omega), if_pos hs]
    refine ⟨fun _ => ?_, hw⟩
    rcases hx rfl with rfl | rfl
    · exact Or.inr (by decide)
    · exact Or.inl (by decide)
  · obtain ⟨x, w, rfl, hx, hw⟩ := tyOk_c hv
    obtain ⟨y, w, rfl, hy, hw⟩ := tyOk_c hw
    unfold evN; rw [if_neg (by omega), if_neg (by omega), if_neg (by omega)]
    exact ⟨fun e => absurd e (by decide), hw⟩
  · obtain ⟨x, w, rfl, hx, hw⟩ := tyOk_c hv
    obtain ⟨y, w, rfl, hy, hw⟩ := tyOk_c hw
    unfold evN; rw [if_neg (by omega), if_neg (by omega), if_neg (by omega)]
    refine ⟨fun _ => ?_, hw⟩
    rcases hs with rfl | rfl
    · exact is01_b _
    · exact is01_b _
  · obtain ⟨x, w, rfl, hx, hw⟩ := tyOk_c hv
    obtain ⟨y, w, rfl, hy, hw⟩ := tyOk_c hw
    unfold evN; rw [if_neg (by omega), if_neg (by omega), if_neg (by omega)]
    refine ⟨fun _ => ?_, hw⟩
    rw [if_neg (by omega), if_neg (by omega), if_neg (by omega)]
    split
    · exact is01_b _
    · exact is01_b _
theorem evR_ok {Λ : LW} {E : Nat → Int32} (h4 : is01 (E 4)) (h5 : is01 (E 5)) (k : Nat) : ∀ t l, tyR Λ k t = some l → tyOk l (evR Λ E k t) := by
  intro t
  induction t with
  | zero => intro l h; cases h; trivial
  | succ t ih =>
    intro l h
    obtain ⟨l0, h0, h1⟩ := Option.bind_eq_some_iff.mp h
    exact evN_ok h4 h5 h1 (ih l0 h0)
theorem and01 {a b : Int32} (ha : is01 a) (hb : is01 b) : a &&& b = bI (decide (a + b = nI 2)) ∧ a ||| b = bI (decide (¬ (a + b ≤ nI 0))) := by
  rcases ha with rfl | rfl <;> rcases hb with rfl | rfl <;> decide +kernel
section LAWQ
variable {μ : Mm} {V n N w0 : Nat} {r : Nat → Int32}
theorem q_lstep (h : RS μ V n N w0 r) {Λ : LW} (hR : LWr r Λ) (hT : LWt Λ) {who whom th : Nat} {su : Bool} (h1 : who < n) (h2 : whom < n) (h3 : th < 2147483648) {k t : Nat} (hk : k < Λ.1) (ht : t < Λ.2.2.1 (k + 1) - Λ.2.2.1 k) (hfk : Λ.2.2.1 (k + 1) ≤ Λ.2.2.1 Λ.1)
    {R : Nat → Int32} (hμ : μ (22, 0) = R) (hrep : rep R (evR Λ (evF r who whom th su) k t)) : ∃ R', f_X11_holdsLine_L23 (nI who) (nI whom) (nI th) (bI su) (nI (5441 + 3 * k)) μ (nI (evR Λ (evF r who whom th su) k t).length) (nI (Λ.2.2.1 k + t)) = some (.inl (mrow μ (22, 0) R', nI (evR Λ (evF r who whom th su) k (t + 1)).length, nI (Λ.2.2.1 k + (t + 1)))) ∧ rep R' (evR Λ (evF r who whom th su) k (t + 1)) := by
  have hb := h.2.b
  obtain ⟨E, hE⟩ : ∃ E, E = evF r who whom th su := ⟨_, rfl⟩
  rw [← hE] at hrep ⊢
  have E4 : is01 (E 4) := by rw [hE]; exact is01_b su
  have E5 : is01 (E 5) := by rw [hE]; exact is01_b _
  obtain ⟨i, hi⟩ : ∃ i, i = Λ.2.2.1 k + t := ⟨_, rfl⟩
  have hif : i < Λ.2.2.1 Λ.1 := by omega
  obtain ⟨s, hs⟩ : ∃ s, s = Λ.2.2.2.1 i := ⟨_, rfl⟩
  obtain ⟨m, hm⟩ : ∃ m, m = Λ.2.2.2.2 i := ⟨_, rfl⟩
  have hst := hT.2.2.2.2.1 i hif
  have hri := hR.2.2 i hif
  have hrk := (hR.2.1 k hk).2.2
  have h400 := hT.2.2.1
  have h12 := hT.1
  obtain ⟨l', hl', hlen'⟩ := (hT.2.2.2.2.2 k hk).2 (t + 1) (by omega)
  obtain ⟨l, hl, hty⟩ := Option.bind_eq_some_iff.mp hl'
  obtain ⟨l2, hl2, hlen⟩ := (hT.2.2.2.2.2 k hk).2 t (by omega)
  rw [hl] at hl2
  cases hl2
  have hok := evR_ok (E := E) E4 E5 k t l hl
  have hL := tyOk_len hok
  have ev : evR Λ E k (t + 1) = evN E s m (evR Λ E k t) := by rw [hs, hm, hi]; rfl
  rw [ev]
  rw [← hi] at hty ⊢
  rw [← hs] at hty
  rw [← hs, ← hm] at hri hst
  obtain ⟨v, hv⟩ : ∃ v, v = evR Λ E k t := ⟨_, rfl⟩
  rw [← hv] at hrep hok hL ⊢
  rw [show Λ.2.2.1 k + (t + 1) = i + 1 by omega]
  have hvl : v.length ≤ 40 := by omega
  have mm2 : ∀ x f, mrow (mrow μ (22, 0) x) (22, 0) f = mrow μ (22, 0) f := fun x f => mrow_mrow _ _ _ _
  rcases tyN_inv hty with ⟨hs3, rfl⟩ | ⟨hs3, rfl⟩ | ⟨hs3, rfl⟩ | ⟨hs3, u, rfl, rfl⟩ | ⟨hs3, u, rfl, rfl⟩ | ⟨hs3, u, rfl, rfl⟩ | ⟨hs3, u, rfl, rfl⟩
  · have ee : evN E s m v = E s :: v := by unfold evN; rw [if_pos (by omega)]
    refine ⟨upd R v.length (E s), ?_, by rw [ee]; exact rep_push hrep⟩
    rw [ee]
    have fo : ∀ x, f_X11_factOf μ (nI s) x (nI who) (nI whom) (nI th) (bI su) = some (E s) := fun x => by
      rw [hE]
      have : s = 0 ∨ s = 1 ∨ s = 2 ∨ s = 3 := by omega
      rcases this with rfl | rfl | rfl | rfl
      · simp (disch := omega) only [Option.bind_some, Option.map_some, Option.bind_none, q_lit, nI_add, pk_mul, q_sub, q_addn, q_cl, q_le, q_lt, q_eq, q_ck, q_cd, q_cb0, q_cb1, q_div, q_rem, q_shl1, q_shr, q_and, q_or, q_tb, if_pos, if_neg, if_true, if_false, not_true, not_false_iff, eq_self, Bool.true_eq_false, Bool.false_eq_true, q_bI0, q_bI1, q_cbI, Nat.or_zero, mst_row, mrow_neA, mrow_neB, mrow_self, q_upd, f_X11_factOf, evF]
      · simp (disch := omega) only [Option.bind_some, Option.map_some, Option.bind_none, q_lit, nI_add, pk_mul, q_sub, q_addn, q_cl, q_le, q_lt, q_eq, q_ck, q_cd, q_cb0, q_cb1, q_div, q_rem, q_shl1, q_shr, q_and, q_or, q_tb, if_pos, if_neg, if_true, if_false, not_true, not_false_iff, eq_self, Bool.true_eq_false, Bool.false_eq_true, q_bI0, q_bI1, q_cbI, Nat.or_zero, mst_row, mrow_neA, mrow_neB, mrow_self, q_upd, f_X11_factOf, evF]
      · simp (disch := omega) only [Option.bind_some, Option.map_some, Option.bind_none, q_lit, nI_add, pk_mul, q_sub, q_addn, q_cl, q_le, q_lt, q_eq, q_ck, q_cd, q_cb0, q_cb1, q_div, q_rem, q_shl1, q_shr, q_and, q_or, q_tb, if_pos, if_neg, if_true, if_false, not_true, not_false_iff, eq_self, Bool.true_eq_false, Bool.false_eq_true, q_bI0, q_bI1, q_cbI, Nat.or_zero, mst_row, mrow_neA, mrow_neB, mrow_self, q_upd, f_X11_factOf, evF]
      · simp (disch := omega) only [Option.bind_some, Option.map_some, Option.bind_none, q_lit, nI_add, pk_mul, q_sub, q_addn, q_cl, q_le, q_lt, q_eq, q_ck, q_cd, q_cb0, q_cb1, q_div, q_rem, q_shl1, q_shr, q_and, q_or, q_tb, if_pos, if_neg, if_true, if_false, not_true, not_false_iff, eq_self, Bool.true_eq_false, Bool.false_eq_true, q_bI0, q_bI1, q_cbI, Nat.or_zero, mst_row, mrow_neA, mrow_neB, mrow_self, q_upd, f_X11_factOf, evF, h.1]
    simp (disch := omega) only [Option.bind_some, Option.map_some, Option.bind_none, q_lit, nI_add, pk_mul, q_sub, q_addn, q_cl, q_le, q_lt, q_eq, q_ck, q_cd, q_cb0, q_cb1, q_div, q_rem, q_shl1, q_shr, q_and, q_or, q_tb, if_pos, if_neg, if_true, if_false, not_true, not_false_iff, eq_self, Bool.true_eq_false, Bool.false_eq_true, q_bI0, q_bI1, q_cbI, Nat.or_zero, mst_row, mrow_neA, mrow_neB, mrow_self, q_upd, f_X11_holdsLine_L23, h.1, hrk, hri.1, fo, hμ, List.length_cons]
  · have ee : evN E s m v = E s :: v := by unfold evN; rw [if_pos (by omega)]
    refine ⟨upd R v.length (E s), ?_, by rw [ee]; exact rep_push hrep⟩
    rw [ee]
    have fo : ∀ x, f_X11_factOf μ (nI s) x (nI who) (nI whom) (nI th) (bI su) = some (E s) := fun x => by
      rw [hE]
      rcases hs3 with rfl | rfl
      · cases su
        · simp (disch := omega) only [Option.bind_some, Option.map_some, Option.bind_none, q_lit, nI_add, pk_mul, q_sub, q_addn, q_cl, q_le, q_lt, q_eq, q_ck, q_cd, q_cb0, q_cb1, q_div, q_rem, q_shl1, q_shr, q_and, q_or, q_tb, if_pos, if_neg, if_true, if_false, not_true, not_false_iff, eq_self, Bool.true_eq_false, Bool.false_eq_true, q_bI0, q_bI1, q_cbI, Nat.or_zero, mst_row, mrow_neA, mrow_neB, mrow_self, q_upd, f_X11_factOf, evF, bI_f]
        · simp (disch := omega) only [Option.bind_some, Option.map_some, Option.bind_none, q_lit, nI_add, pk_mul, q_sub, q_addn, q_cl, q_le, q_lt, q_eq, q_ck, q_cd, q_cb0, q_cb1, q_div, q_rem, q_shl1, q_shr, q_and, q_or, q_tb, if_pos, if_neg, if_true, if_false, not_true, not_false_iff, eq_self, Bool.true_eq_false, Bool.false_eq_true, q_bI0, q_bI1, q_cbI, Nat.or_zero, mst_row, mrow_neA, mrow_neB, mrow_self, q_upd, f_X11_factOf, evF, bI_t]
      · have e2 := q_isSeeing h h2 h1
        simp (disch := omega) only [Option.bind_some, Option.map_some, Option.bind_none, q_lit, nI_add, pk_mul, q_sub, q_addn, q_cl, q_le, q_lt, q_eq, q_ck, q_cd, q_cb0, q_cb1, q_div, q_rem, q_shl1, q_shr, q_and, q_or, q_tb, if_pos, if_neg, if_true, if_false, not_true, not_false_iff, eq_self, Bool.true_eq_false, Bool.false_eq_true, q_bI0, q_bI1, q_cbI, Nat.or_zero, mst_row, mrow_neA, mrow_neB, mrow_self, q_upd, f_X11_factOf, evF, e2]
        cases (se r whom).testBit who <;> rfl
    simp (disch := omega) only [Option.bind_some, Option.map_some, Option.bind_none, q_lit, nI_add, pk_mul, q_sub, q_addn, q_cl, q_le, q_lt, q_eq, q_ck, q_cd, q_cb0, q_cb1, q_div, q_rem, q_shl1, q_shr, q_and, q_or, q_tb, if_pos, if_neg, if_true, if_false, not_true, not_false_iff, eq_self, Bool.true_eq_false, Bool.false_eq_true, q_bI0, q_bI1, q_cbI, Nat.or_zero, mst_row, mrow_neA, mrow_neB, mrow_self, q_upd, f_X11_holdsLine_L23, h.1, hrk, hri.1, fo, hμ, List.length_cons]
  · have ee : evN E s m v = nI m :: v := by unfold evN; rw [if_neg (by omega), if_pos hs3]
    refine ⟨upd R v.length (nI m), ?_, by rw [ee]; exact rep_push hrep⟩
    rw [ee]
    have rm := hri.2 hs3
    have fo : f_X11_factOf μ (nI s) (nI m) (nI who) (nI whom) (nI th) (bI su) = some (nI m) := by
      rw [hs3]
      simp (disch := omega) only [Option.bind_some, Option.map_some, Option.bind_none, q_lit, nI_add, pk_mul, q_sub, q_addn, q_cl, q_le, q_lt, q_eq, q_ck, q_cd, q_cb0, q_cb1, q_div, q_rem, q_shl1, q_shr, q_and, q_or, q_tb, if_pos, if_neg, if_true, if_false, not_true, not_false_iff, eq_self, Bool.true_eq_false, Bool.false_eq_true, q_bI0, q_bI1, q_cbI, Nat.or_zero, mst_row, mrow_neA, mrow_neB, mrow_self, q_upd, f_X11_factOf]
    simp (disch := omega) only [Option.bind_some, Option.map_some, Option.bind_none, q_lit, nI_add, pk_mul, q_sub, q_addn, q_cl, q_le, q_lt, q_eq, q_ck, q_cd, q_cb0, q_cb1, q_div, q_rem, q_shl1, q_shr, q_and, q_or, q_tb, if_pos, if_neg, if_true, if_false, not_true, not_false_iff, eq_self, Bool.true_eq_false, Bool.false_eq_true, q_bI0, q_bI1, q_cbI, Nat.or_zero, mst_row, mrow_neA, mrow_neB, mrow_self, q_upd, f_X11_holdsLine_L23, h.1, hrk, hri.1, rm, fo, hμ, List.length_cons]
  · obtain ⟨x, w, rfl, hx, hw⟩ := tyOk_c hok
    have ee : evN E s m (x :: w) = (nI 1 - x) :: w := by unfold evN; rw [if_neg (by omega), if_neg (by omega), if_pos hs3]
    have r0 : R w.length = x := hrep.1
    refine ⟨upd R w.length (nI 1 - x), ?_, by rw [ee]; exact rep_push hrep.2⟩
    rw [ee]
    rw [List.length_cons] at hvl ⊢
    have l1 : nI (w.length + 1) - nI 1 = nI w.length := by rw [q_sub (by omega)]; rfl
    simp (disch := omega) only [Option.bind_some, Option.map_some, Option.bind_none, q_lit, nI_add, pk_mul, q_sub, q_addn, q_cl, q_le, q_lt, q_eq, q_ck, q_cd, q_cb0, q_cb1, q_div, q_rem, q_shl1, q_shr, q_and, q_or, q_tb, if_pos, if_neg, if_true, if_false, not_true, not_false_iff, eq_self, Bool.true_eq_false, Bool.false_eq_true, q_bI0, q_bI1, q_cbI, Nat.or_zero, mst_row, mrow_neA, mrow_neB, mrow_self, q_upd, f_X11_holdsLine_L23, h.1, hrk, hri.1, hs3, l1, hμ, r0, List.length_cons]
  · obtain ⟨b, w, rfl, hx, hw⟩ := tyOk_c hok
    obtain ⟨a, w, rfl, hy, hw⟩ := tyOk_c hw
    have ee : evN E s m (b :: a :: w) = (a + b) :: w := by unfold evN; rw [if_neg (by omega), if_neg (by omega), if_neg (by omega)]; simp [hs3]
    have r0 : R (w.length + 1) = b := hrep.1
    have r1 : R w.length = a := hrep.2.1
    refine ⟨upd R w.length (a + b), ?_, by rw [ee]; exact rep_push hrep.2.2⟩
    rw [ee]
    rw [List.length_cons, List.length_cons] at hvl ⊢
    have l1 : nI (w.length + 1 + 1) + -nI 1 = nI (w.length + 1) := by rw [q_addn (by omega)]; rfl
    have l2 : nI (w.length + 1) - nI 1 = nI w.length := by rw [q_sub (by omega)]; rfl
    by_cases cc : a + b ≤ nI 0
    · simp (disch := omega) only [f_X11_holdsLine_L23, f_X11_holdsLine_J233, q_lit, nI_add, pk_mul, q_ck, q_cl, q_lt, q_le, q_eq, if_neg, if_pos, Option.bind_some, mst_row, h.1, hrk, hri.1, hs3, l1, l2, hμ, r0, r1, cc, if_true, List.length_cons]
    · simp (disch := omega) only [f_X11_holdsLine_L23, f_X11_holdsLine_J233, q_lit, nI_add, pk_mul, q_ck, q_cl, q_lt, q_le, q_eq, if_neg, if_pos, Option.bind_some, mst_row, h.1, hrk, hri.1, hs3, l1, l2, hμ, r0, r1, cc, if_false, List.length_cons]
      exact if_pos trivial
  · obtain ⟨b, w, rfl, hx, hw⟩ := tyOk_c hok
    obtain ⟨a, w, rfl, hy, hw⟩ := tyOk_c hw
    have r0 : R (w.length + 1) = b := hrep.1
    have r1 : R w.length = a := hrep.2.1
    rcases hs3 with hs3 | hs3
    · have ee : evN E s m (b :: a :: w) = bI (decide (a < b)) :: w := by unfold evN; rw [if_neg (by omega), if_neg (by omega), if_neg (by omega)]; simp [hs3]
      refine ⟨upd R w.length (bI (decide (a < b))), ?_, by rw [ee]; exact rep_push hrep.2.2⟩
      rw [ee]
      rw [List.length_cons, List.length_cons] at hvl ⊢
      have l1 : nI (w.length + 1 + 1) + -nI 1 = nI (w.length + 1) := by rw [q_addn (by omega)]; rfl
      have l2 : nI (w.length + 1) - nI 1 = nI w.length := by rw [q_sub (by omega)]; rfl
      by_cases cc : a < b
      · rw [decide_eq_true cc]
        simp (disch := omega) only [f_X11_holdsLine_L23, f_X11_holdsLine_J233, q_lit, nI_add, pk_mul, q_ck, q_cl, q_lt, q_le, q_eq, if_neg, if_pos, Option.bind_some, mst_row, h.1, hrk, hri.1, hs3, l1, l2, hμ, r0, r1, nle_of_lt, cc, not_true, bI_t, List.length_cons, if_true, if_false]
      · rw [decide_eq_false cc]
        simp (disch := omega) only [f_X11_holdsLine_L23, f_X11_holdsLine_J233, q_lit, nI_add, pk_mul, q_ck, q_cl, q_lt, q_le, q_eq, if_neg, if_pos, Option.bind_some, mst_row, h.1, hrk, hri.1, hs3, l1, l2, hμ, r0, r1, nle_of_lt, cc, not_false_iff, bI_f, List.length_cons, if_true, if_false]
    · have ee : evN E s m (b :: a :: w) = bI (decide (b < a)) :: w := by unfold evN; rw [if_neg (by omega), if_neg (by omega), if_neg (by omega)]; simp [hs3]
      refine ⟨upd R w.length (bI (decide (b < a))), ?_, by rw [ee]; exact rep_push hrep.2.2⟩
      rw [ee]
      rw [List.length_cons, List.length_cons] at hvl ⊢
      have l1 : nI (w.length + 1 + 1) + -nI 1 = nI (w.length + 1) := by rw [q_addn (by omega)]; rfl
      have l2 : nI (w.length + 1) - nI 1 = nI w.length := by rw [q_sub (by omega)]; rfl
      by_cases cc : b < a
      · rw [decide_eq_true cc]
        simp (disch := omega) only [f_X11_holdsLine_L23, f_X11_holdsLine_J233, q_lit, nI_add, pk_mul, q_ck, q_cl, q_lt, q_le, q_eq, if_neg, if_pos, Option.bind_some, mst_row, h.1, hrk, hri.1, hs3, l1, l2, hμ, r0, r1, nle_of_lt, cc, not_true, bI_t, List.length_cons, if_true, if_false]
      · rw [decide_eq_false cc]
        simp (disch := omega) only [f_X11_holdsLine_L23, f_X11_holdsLine_J233, q_lit, nI_add, pk_mul, q_ck, q_cl, q_lt, q_le, q_eq, if_neg, if_pos, Option.bind_some, mst_row, h.1, hrk, hri.1, hs3, l1, l2, hμ, r0, r1, nle_of_lt, cc, not_false_iff, bI_f, List.length_cons, if_true, if_false]
  · obtain ⟨b, w, rfl, hx, hw⟩ := tyOk_c hok
    obtain ⟨a, w, rfl, hy, hw⟩ := tyOk_c hw
    have r0 : R (w.length + 1) = b := hrep.1
    have r1 : R w.length = a := hrep.2.1
    rcases hs3 with hs3 | hs3
    · have ee : evN E s m (b :: a :: w) = bI (decide (a + b = nI 2)) :: w := by unfold evN; rw [if_neg (by omega), if_neg (by omega), if_neg (by omega)]; simp [hs3]
      refine ⟨upd R w.length (bI (decide (a + b = nI 2))), ?_, by rw [ee]; exact rep_push hrep.2.2⟩
      rw [ee]
      rw [List.length_cons, List.length_cons] at hvl ⊢
      have l1 : nI (w.length + 1 + 1) + -nI 1 = nI (w.length + 1) := by rw [q_addn (by omega)]; rfl
      have l2 : nI (w.length + 1) - nI 1 = nI w.length := by rw [q_sub (by omega)]; rfl
      by_cases cc : a + b = nI 2
      · rw [decide_eq_true cc]
        simp (disch := omega) only [f_X11_holdsLine_L23, f_X11_holdsLine_J233, q_lit, nI_add, pk_mul, q_ck, q_cl, q_lt, q_le, q_eq, if_neg, if_pos, Option.bind_some, mst_row, h.1, hrk, hri.1, hs3, l1, l2, hμ, r0, r1, cc, bI_t, List.length_cons, if_true, if_false]
      · rw [decide_eq_false cc]
        simp (disch := omega) only [f_X11_holdsLine_L23, f_X11_holdsLine_J233, q_lit, nI_add, pk_mul, q_ck, q_cl, q_lt, q_le, q_eq, if_neg, if_pos, Option.bind_some, mst_row, h.1, hrk, hri.1, hs3, l1, l2, hμ, r0, r1, cc, bI_f, List.length_cons, if_true, if_false]
    · have hs12 : s = 12 := by omega
      have ee : evN E s m (b :: a :: w) = bI (decide (¬ (a + b ≤ nI 0))) :: w := by unfold evN; rw [if_neg (by omega), if_neg (by omega), if_neg (by omega)]; simp [hs12]
      refine ⟨upd R w.length (bI (decide (¬ (a + b ≤ nI 0)))), ?_, by rw [ee]; exact rep_push hrep.2.2⟩
      rw [ee]
      rw [List.length_cons, List.length_cons] at hvl ⊢
      have l1 : nI (w.length + 1 + 1) + -nI 1 = nI (w.length + 1) := by rw [q_addn (by omega)]; rfl
      have l2 : nI (w.length + 1) - nI 1 = nI w.length := by rw [q_sub (by omega)]; rfl
      by_cases cc : a + b ≤ nI 0
      · rw [decide_eq_false (by simp [cc])]
        simp (disch := omega) only [f_X11_holdsLine_L23, f_X11_holdsLine_J233, q_lit, nI_add, pk_mul, q_ck, q_cl, q_lt, q_le, q_eq, if_neg, if_pos, Option.bind_some, mst_row, h.1, hrk, hri.1, hs12, l1, l2, hμ, r0, r1, cc, bI_f, List.length_cons, if_true, if_false]
      · rw [decide_eq_true cc]
        simp (disch := omega) only [f_X11_holdsLine_L23, f_X11_holdsLine_J233, q_lit, nI_add, pk_mul, q_ck, q_cl, q_lt, q_le, q_eq, if_neg, if_pos, Option.bind_some, mst_row, h.1, hrk, hri.1, hs12, l1, l2, hμ, r0, r1, cc, bI_t, List.length_cons, if_true, if_false]
theorem LW_mono {Λ : LW} (hT : LWt Λ) {k : Nat} (hk : k ≤ Λ.1) : Λ.2.2.1 k ≤ Λ.2.2.1 Λ.1 := by
  obtain ⟨d, hd⟩ : ∃ d, d = Λ.1 - k := ⟨_, rfl⟩
  induction d generalizing k with
  | zero => rw [show k = Λ.1 by omega]; exact Nat.le_refl _
  | succ d ih =>
    have h1 := (hT.2.2.2.1 k (by omega)).2
    have h2 := ih (k := k + 1) (by omega) (by omega)
    omega
theorem q_holdsLine (h : RS μ V n N w0 r) {Λ : LW} (hR : LWr r Λ) (hT : LWt Λ) {who whom th : Nat} {su : Bool} (h1 : who < n) (h2 : whom < n) (h3 : th < 2147483648) {k : Nat} (hk : k < Λ.1) :
    ∃ R', f_X11_holdsLine μ (nI k) (nI who) (nI whom) (nI th) (bI su) = some (bI (hldL Λ (evF r who whom th su) k), mrow μ (22, 0) R') := by
  have h12 := hT.1
  have h400 := hT.2.2.1
  have hfk := LW_mono hT (show k + 1 ≤ Λ.1 by omega)
  have hmk := (hT.2.2.2.1 k hk).2
  have hrk := (hR.2.1 k hk).2
  have E4 : is01 (evF r who whom th su 4) := is01_b su
  have E5 : is01 (evF r who whom th su 5) := is01_b _
  have hh : ∃ y, f_X11_holdsLine μ (nI k) (nI who) (nI whom) (nI th) (bI su) = some y ∧ ∃ R', y = (bI (hldL Λ (evF r who whom th su) k), mrow μ (22, 0) R') := by
    have e0 : f_X11_holdsLine μ (nI k) (nI who) (nI whom) (nI th) (bI su) = Wh (fun z : Mm × Int32 × Int32 => f_X11_holdsLine_L23 (nI who) (nI whom) (nI th) (bI su) (nI (5441 + 3 * k)) z.1 z.2.1 z.2.2) (μ, nI 0, nI (Λ.2.2.1 k)) := by
      simp (disch := omega) only [Option.bind_some, Option.map_some, Option.bind_none, q_lit, nI_add, pk_mul, q_sub, q_addn, q_cl, q_le, q_lt, q_eq, q_ck, q_cd, q_cb0, q_cb1, q_div, q_rem, q_shl1, q_shr, q_and, q_or, q_tb, if_pos, if_neg, if_true, if_false, not_true, not_false_iff, eq_self, Bool.true_eq_false, Bool.false_eq_true, q_bI0, q_bI1, q_cbI, Nat.or_zero, mst_row, mrow_neA, mrow_neB, mrow_self, q_upd, f_X11_holdsLine, h.1, hrk.1]
    rw [e0]
    refine Wh_inv1 (Λ.2.2.1 (k + 1) - Λ.2.2.1 k) (fun t z => ∃ R, z = (mrow μ (22, 0) R, nI (evR Λ (evF r who whom th su) k t).length, nI (Λ.2.2.1 k + t)) ∧ rep R (evR Λ (evF r who whom th su) k t)) _ ⟨μ (22, 0), by rw [mrow_id]; rfl, trivial⟩ ?_ ?_
    · rintro t _ ht ⟨R, rfl, hrep⟩
      have h' := h.row (a := 22) (b := 0) R (by omega)
      obtain ⟨R', e1, hrep'⟩ := q_lstep h' hR hT h1 h2 h3 (su := su) hk ht hfk (mrow_self _ _ _) hrep
      rw [mrow_mrow] at e1
      exact ⟨_, e1, R', rfl, hrep'⟩
    · rintro _ ⟨R, rfl, hrep⟩
      have h' := h.row (a := 22) (b := 0) R (by omega)
      have hty := (hT.2.2.2.2.2 k hk).1
      have hok := evR_ok (E := evF r who whom th su) E4 E5 k _ _ hty
      rw [show Λ.2.2.1 k + (Λ.2.2.1 (k + 1) - Λ.2.2.1 k) = Λ.2.2.1 (k + 1) by omega]
      refine ⟨(bI (hldL Λ (evF r who whom th su) k), mrow μ (22, 0) R), ?_, R, rfl⟩
      show f_X11_holdsLine_L23 (nI who) (nI whom) (nI th) (bI su) (nI (5441 + 3 * k)) (mrow μ (22, 0) R) (nI (evR Λ (evF r who whom th su) k (Λ.2.2.1 (k + 1) - Λ.2.2.1 k)).length) (nI (Λ.2.2.1 (k + 1))) = _
      unfold hldL
      by_cases c : Λ.2.2.1 k = Λ.2.2.1 (k + 1)
      · rw [if_pos c] at hok
        have he := tyOk_n hok
        rw [he, List.length_nil]
        simp (disch := omega) only [Option.bind_some, Option.map_some, Option.bind_none, q_lit, nI_add, pk_mul, q_sub, q_addn, q_cl, q_le, q_lt, q_eq, q_ck, q_cd, q_cb0, q_cb1, q_div, q_rem, q_shl1, q_shr, q_and, q_or, q_tb, if_pos, if_neg, if_true, if_false, not_true, not_false_iff, eq_self, Bool.true_eq_false, Bool.false_eq_true, q_bI0, q_bI1, q_cbI, Nat.or_zero, mst_row, mrow_neA, mrow_neB, mrow_self, q_upd, f_X11_holdsLine_L23, h'.1, hrk.2, Nat.le_refl, bI_t]
      · rw [if_neg c] at hok
        obtain ⟨x, u, hv, hx, hu⟩ := tyOk_c hok
        have hun := tyOk_n hu
        subst hun
        rw [hv] at hrep ⊢
        have r0 : R 0 = x := hrep.1
        rw [List.length_cons, List.length_nil]
        rcases hx rfl with rfl | rfl
        · simp (disch := omega) only [Option.bind_some, Option.map_some, Option.bind_none, q_lit, nI_add, pk_mul, q_sub, q_addn, q_cl, q_le, q_lt, q_eq, q_ck, q_cd, q_cb0, q_cb1, q_div, q_rem, q_shl1, q_shr, q_and, q_or, q_tb, if_pos, if_neg, if_true, if_false, not_true, not_false_iff, eq_self, Bool.true_eq_false, Bool.false_eq_true, q_bI0, q_bI1, q_cbI, Nat.or_zero, mst_row, mrow_neA, mrow_neB, mrow_self, q_upd, f_X11_holdsLine_L23, h'.1, hrk.2, Nat.le_refl, r0, bI_f]
          rfl
        · simp (disch := omega) only [Option.bind_some, Option.map_some, Option.bind_none, q_lit, nI_add, pk_mul, q_sub, q_addn, q_cl, q_le, q_lt, q_eq, q_ck, q_cd, q_cb0, q_cb1, q_div, q_rem, q_shl1, q_shr, q_and, q_or, q_tb, if_pos, if_neg, if_true, if_false, not_true, not_false_iff, eq_self, Bool.true_eq_false, Bool.false_eq_true, q_bI0, q_bI1, q_cbI, Nat.or_zero, mst_row, mrow_neA, mrow_neB, mrow_self, q_upd, f_X11_holdsLine_L23, h'.1, hrk.2, Nat.le_refl, r0, bI_t]
          rfl
  obtain ⟨_, e, R', rfl⟩ := hh
  exact ⟨R', e⟩
theorem q_mannerBy (h : RS μ V n N w0 r) {Λo : Option LW} (hRL : LRw r Λo) {who whom th : Nat} {su : Bool} (h1 : who < n) (h2 : whom < n) (h3 : th < 2147483648) :
    ∃ R', f_X11_mannerBy μ (nI who) (nI whom) (nI th) (bI su) = some (MB Λo (evF r who whom th su), mrow μ (22, 0) R') := by
  have hh : ∃ y, f_X11_mannerBy μ (nI who) (nI whom) (nI th) (bI su) = some y ∧ ∃ R', y = (MB Λo (evF r who whom th su), mrow μ (22, 0) R') := by
    unfold f_X11_mannerBy
    cases Λo with
    | none =>
      have h30 : r 3 = nI 0 := hRL
      refine ⟨_, Wh_end ?_, μ (22, 0), rfl⟩
      show f_X11_mannerBy_L6 (nI who) (nI whom) (nI th) (bI su) μ (nI 0) (nI 0) = _
      rw [mrow_id]
      simp (disch := omega) only [Option.bind_some, Option.map_some, Option.bind_none, q_lit, nI_add, pk_mul, q_sub, q_addn, q_cl, q_le, q_lt, q_eq, q_ck, q_cd, q_cb0, q_cb1, q_div, q_rem, q_shl1, q_shr, q_and, q_or, q_tb, if_pos, if_neg, if_true, if_false, not_true, not_false_iff, eq_self, Bool.true_eq_false, Bool.false_eq_true, q_bI0, q_bI1, q_cbI, Nat.or_zero, mst_row, mrow_neA, mrow_neB, mrow_self, q_upd, f_X11_mannerBy_L6, h.1, h30, MB]
    | some Λ =>
      obtain ⟨h31, hR, hT⟩ := hRL
      have h12 := hT.1
      refine Wh_inv1 Λ.1 (fun k z => ∃ R, z = (mrow μ (22, 0) R, MBs Λ (evF r who whom th su) k, nI k)) _ ⟨μ (22, 0), by rw [mrow_id]; rfl⟩ ?_ ?_
      · rintro k _ hk ⟨R, rfl⟩
        have h' := h.row (a := 22) (b := 0) R (by omega)
        obtain ⟨R', e1⟩ := q_holdsLine h' hR hT h1 h2 h3 (su := su) hk
        rw [mrow_mrow] at e1
        have hA := (hR.2.1 k hk).1
        refine ⟨(mrow μ (22, 0) R', MBs Λ (evF r who whom th su) (k + 1), nI (k + 1)), ?_, R', rfl⟩
        show f_X11_mannerBy_L6 (nI who) (nI whom) (nI th) (bI su) (mrow μ (22, 0) R) (MBs Λ (evF r who whom th su) k) (nI k) = _
        have es : MBs Λ (evF r who whom th su) (k + 1) = MBs Λ (evF r who whom th su) k + (if hldL Λ (evF r who whom th su) k = true then nI (Λ.2.1 k) else nI 0) := rfl
        rw [es]
        cases c : hldL Λ (evF r who whom th su) k
        · rw [c] at e1
          simp (disch := omega) only [Option.bind_some, Option.map_some, Option.bind_none, q_lit, nI_add, pk_mul, q_sub, q_addn, q_cl, q_le, q_lt, q_eq, q_ck, q_cd, q_cb0, q_cb1, q_div, q_rem, q_shl1, q_shr, q_and, q_or, q_tb, if_pos, if_neg, if_true, if_false, not_true, not_false_iff, eq_self, Bool.true_eq_false, Bool.false_eq_true, q_bI0, q_bI1, q_cbI, Nat.or_zero, mst_row, mrow_neA, mrow_neB, mrow_self, q_upd, f_X11_mannerBy_L6, h'.1, h.1, h31, hR.1, e1, bI_f]
        · rw [c] at e1
          simp (disch := omega) only [Option.bind_some, Option.map_some, Option.bind_none, q_lit, nI_add, pk_mul, q_sub, q_addn, q_cl, q_le, q_lt, q_eq, q_ck, q_cd, q_cb0, q_cb1, q_div, q_rem, q_shl1, q_shr, q_and, q_or, q_tb, if_pos, if_neg, if_true, if_false, not_true, not_false_iff, eq_self, Bool.true_eq_false, Bool.false_eq_true, q_bI0, q_bI1, q_cbI, Nat.or_zero, mst_row, mrow_neA, mrow_neB, mrow_self, q_upd, f_X11_mannerBy_L6, h'.1, h.1, h31, hR.1, e1, hA, bI_t]
      · rintro _ ⟨R, rfl⟩
        have h' := h.row (a := 22) (b := 0) R (by omega)
        refine ⟨(MBs Λ (evF r who whom th su) Λ.1, mrow μ (22, 0) R), ?_, R, rfl⟩
        show f_X11_mannerBy_L6 (nI who) (nI whom) (nI th) (bI su) (mrow μ (22, 0) R) (MBs Λ (evF r who whom th su) Λ.1) (nI Λ.1) = _
        simp (disch := omega) only [Option.bind_some, Option.map_some, Option.bind_none, q_lit, nI_add, pk_mul, q_sub, q_addn, q_cl, q_le, q_lt, q_eq, q_ck, q_cd, q_cb0, q_cb1, q_div, q_rem, q_shl1, q_shr, q_and, q_or, q_tb, if_pos, if_neg, if_true, if_false, not_true, not_false_iff, eq_self, Bool.true_eq_false, Bool.false_eq_true, q_bI0, q_bI1, q_cbI, Nat.or_zero, mst_row, mrow_neA, mrow_neB, mrow_self, q_upd, f_X11_mannerBy_L6, h'.1, h31, hR.1, Nat.le_refl]
  obtain ⟨_, e, R', rfl⟩ := hh
  exact ⟨R', e⟩
end LAWQ
