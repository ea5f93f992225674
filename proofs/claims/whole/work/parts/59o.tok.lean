-- texts: the class's things, one behind another
def tk (T : Nat → Nat) (z : Nat) : Nat → Nat
  | 0 => nb T z 0
  | k + 1 => nx T z (tk T z k)
/-- the text that a reader of the class reads -/
def TK (c : Nat) (ln : Nat → Nat) (μ : Mm) (T : Nat → Nat) (z : Nat) : Prop := (¬ μ (6, c) 5 = 0) ∧ μ (6, c) 6 = nI z ∧ z ≤ 400 ∧ (∀ i, T i < 256) ∧ (∀ i, i < 400 → μ (12, 0) i = nI (T i)) ∧ ln 0 = 400
/-- the things that it keeps -/
def KA (c : Nat) (μ : Mm) (T : Nat → Nat) (z m : Nat) : Prop := μ (6, c) 3 = nI m ∧ m ≤ 400 ∧ tk T z m = z ∧ ∀ i, i < m → tk T z i < z ∧ μ (7, c) i = nI (kd T z (tk T z i)) ∧ μ (8, c) i = nI (tk T z i) ∧ μ (9, c) i = nI (nmv T z (tk T z i))
/-- the next thing begins at b -/
def KC (c : Nat) (ln : Nat → Nat) (μ : Mm) (T : Nat → Nat) (z b : Nat) : Prop := TK c ln μ T z ∧ ∃ m k, KA c μ T z m ∧ k ≤ m ∧ tk T z k = b ∧ μ (6, c) 8 = nI (KN T z b) ∧ μ (6, c) 9 = nI b ∧ (b < z → μ (6, c) 10 = nI (nmv T z b)) ∧ μ (6, c) 4 = nI (if k < m then k + 1 else m)
/-- what reading changes -/
def KF (c : Nat) (μ a : Mm) : Prop := (∀ q : Ky, q ≠ (6, c) → a q = μ q) ∧ ∀ i, i < 4 ∨ i = 5 ∨ i = 6 ∨ i = 7 ∨ i = 11 ∨ i = 12 → a (6, c) i = μ (6, c) i
theorem KF.rf {c : Nat} {μ : Mm} : KF c μ μ := ⟨fun _ _ => rfl, fun _ _ => rfl⟩
theorem KF.tr {c : Nat} {μ a b : Mm} (h : KF c μ a) (h2 : KF c a b) : KF c μ b := ⟨fun q hq => (h2.1 q hq).trans (h.1 q hq), fun i hi => (h2.2 i hi).trans (h.2 i hi)⟩
theorem KF.k {c : Nat} {μ a : Mm} (h : KF c μ a) {k i : Nat} (hk : k ≠ 6) : a (k, i) = μ (k, i) := h.1 _ (fun e => hk (congrArg Prod.fst e))
section TOK
variable {sh : Sh} {ln : Nat → Nat} {μ : Mm} {c : Nat} {T : Nat → Nat} {z b : Nat}
theorem TK.to (h : TK c ln μ T z) {a : Mm} (hF : KF c μ a) : TK c ln a T z := by
  unfold TK at *
  rw [hF.2 5 (by omega), hF.2 6 (by omega), hF.k (by omega)]
  exact h
theorem KA.to {m : Nat} (h : KA c μ T z m) {a : Mm} (hF : KF c μ a) : KA c a T z m := by
  unfold KA at *
  rw [hF.2 3 (by omega), hF.k (show (7 : Nat) ≠ 6 by omega), hF.k (show (8 : Nat) ≠ 6 by omega), hF.k (show (9 : Nat) ≠ 6 by omega)]
  exact h
theorem KC.kind (h : KC c ln μ T z b) : μ (6, c) 8 = nI (KN T z b) := by
  obtain ⟨-, m, k, -, -, -, h1, -⟩ := h
  exact h1
theorem KC.beg (h : KC c ln μ T z b) : μ (6, c) 9 = nI b := by
  obtain ⟨-, m, k, -, -, -, -, h1, -⟩ := h
  exact h1
theorem KC.num (h : KC c ln μ T z b) (hb : b < z) : μ (6, c) 10 = nI (nmv T z b) := by
  obtain ⟨-, m, k, -, -, -, -, -, h1, -⟩ := h
  exact h1 hb
theorem KC.t256 (h : KC c ln μ T z b) (i : Nat) : T i < 256 := h.1.2.2.2.1 i
theorem KC.bz (h : KC c ln μ T z b) : b ≤ z := by
  obtain ⟨-, m, k, hA, hk, e, -⟩ := h
  by_cases c : k < m
  · rw [← e]; exact Nat.le_of_lt (hA.2.2.2 k c).1
  · have : k = m := by omega
    rw [← e, this, hA.2.2.1]; exact Nat.le_refl _
/-- other places are written -/
theorem KC.to (h : KC c ln μ T z b) {a : Mm} (h1 : ∀ q : Ky, q ≠ (6, c) → q.1 = 7 ∨ q.1 = 8 ∨ q.1 = 9 ∨ q = (12, 0) → a q = μ q) (h2 : ∀ i, i ≠ 7 → i ≠ 13 → i ≠ 14 → i < 12 → a (6, c) i = μ (6, c) i) : KC c ln a T z b := by
  have e7 : a (7, c) = μ (7, c) := h1 _ (fun e => absurd (congrArg Prod.fst e) (by simp)) (Or.inl rfl)
  have e8 : a (8, c) = μ (8, c) := h1 _ (fun e => absurd (congrArg Prod.fst e) (by simp)) (Or.inr (Or.inl rfl))
  have e9 : a (9, c) = μ (9, c) := h1 _ (fun e => absurd (congrArg Prod.fst e) (by simp)) (Or.inr (Or.inr (Or.inl rfl)))
  have e12 : a (12, 0) = μ (12, 0) := h1 _ (fun e => absurd (congrArg Prod.fst e) (by simp)) (Or.inr (Or.inr (Or.inr rfl)))
  unfold KC TK KA at *
  rw [e7, e8, e9, e12, h2 3 (by omega) (by omega) (by omega) (by omega), h2 4 (by omega) (by omega) (by omega) (by omega), h2 5 (by omega) (by omega) (by omega) (by omega), h2 6 (by omega) (by omega) (by omega) (by omega), h2 8 (by omega) (by omega) (by omega) (by omega), h2 9 (by omega) (by omega) (by omega) (by omega), h2 10 (by omega) (by omega) (by omega) (by omega)]
  exact h
theorem k_byteAt0 (h : TK 0 ln μ T z) {i : Nat} (hi : i < 400) : f_X8_byteAt_0 sh ln μ (nI i) = some (nI (T i)) := by
  have e : f_X7_byteAt sh ln μ (nI i) = some (nI (T i)) := by
    rw [f_X7_byteAt, k_at (by rw [h.2.2.2.2.2]; exact hi) (by rw [h.2.2.2.2.2]; omega), h.2.2.2.2.1 i hi]
    rfl
  rw [f_X8_byteAt_0, if_neg h.1, if_neg h.1, e]
  rfl
theorem k_byteAt1 (h : TK 1 ln μ T z) {i : Nat} (hi : i < 400) : f_X8_byteAt_1 sh ln μ (nI i) = some (nI (T i)) := by
  have e : f_X7_byteAt sh ln μ (nI i) = some (nI (T i)) := by
    rw [f_X7_byteAt, k_at (by rw [h.2.2.2.2.2]; exact hi) (by rw [h.2.2.2.2.2]; omega), h.2.2.2.2.1 i hi]
    rfl
  rw [f_X8_byteAt_1, if_neg h.1, if_neg h.1, e]
  rfl
theorem k_isLetter {v : Nat} (hv : v < 256) : f_X8_isLetter (nI v) = some (bI (isLe v)) := by
  have q1 : (nI v < (97 : Int32)) = (v < 97) := q_lt (b := 97) (by omega) (by omega)
  have q2 : ((122 : Int32) < nI v) = (122 < v) := q_lt (a := 122) (by omega) (by omega)
  unfold isLe
  by_cases c1 : v < 97
  · rw [f_X8_isLetter, if_pos (q1.mpr c1), decide_eq_false (by omega)]; rfl
  · by_cases c2 : 122 < v
    · rw [f_X8_isLetter, if_neg (fun x => c1 (q1.mp x)), if_pos (q2.mpr c2), decide_eq_false (by omega)]; rfl
    · rw [f_X8_isLetter, if_neg (fun x => c1 (q1.mp x)), if_neg (fun x => c2 (q2.mp x)), decide_eq_true (by omega)]; rfl
theorem k_isDigit {v : Nat} (hv : v < 256) : f_X8_isDigit (nI v) = some (bI (isDi v)) := by
  have q1 : (nI v < (48 : Int32)) = (v < 48) := q_lt (b := 48) (by omega) (by omega)
  have q2 : ((57 : Int32) < nI v) = (57 < v) := q_lt (a := 57) (by omega) (by omega)
  unfold isDi
  by_cases c1 : v < 48
  · rw [f_X8_isDigit, if_pos (q1.mpr c1), decide_eq_false (by omega)]; rfl
  · by_cases c2 : 57 < v
    · rw [f_X8_isDigit, if_neg (fun x => c1 (q1.mp x)), if_pos (q2.mpr c2), decide_eq_false (by omega)]; rfl
    · rw [f_X8_isDigit, if_neg (fun x => c1 (q1.mp x)), if_neg (fun x => c2 (q2.mp x)), decide_eq_true (by omega)]; rfl
theorem k_eot0 (h : TK 0 ln μ T z) (hb : b < z) : f_X8_endOfThing_0 sh ln μ (nI b) = some (nI (eot T z b)) := by
  have hz := h.2.2.1
  have h256 := h.2.2.2.1
  have e0 := k_byteAt0 (sh := sh) h (i := b) (by omega)
  rw [f_X8_endOfThing_0, e0, Option.bind_some, k_isLetter (h256 b), Option.bind_some]
  by_cases c1 : isLe (T b) = true
  · rw [c1, if_neg (show ¬ bI true = 0 by decide), eot_le c1, scn_go hb c1, show (1 : Int32) = nI 1 from rfl, nI_add]
    have ok := scn_ok (P := isLe) (T := T) (z := z) (b + 1)
    have hle := ok.2.1 (by omega)
    obtain ⟨e, he⟩ : ∃ e, e = scn isLe T z (b + 1) := ⟨_, rfl⟩
    rw [← he] at ok hle ⊢
    refine Wh_it (e - (b + 1)) (fun k => nI (b + 1 + k)) rfl (fun k hk => ?_) ?_
    · have hc := ok.2.2.2 (b + 1 + k) (by omega) (by omega)
      show f_X8_endOfThing_0_L15 sh ln μ (nI (b + 1 + k)) = _
      rw [f_X8_endOfThing_0_L15, h.2.1, if_neg (by rw [q_le (by omega) (by omega)]; omega), k_byteAt0 h (by omega), Option.bind_some, k_isLetter (h256 _), hc.2, Option.bind_some, if_neg (show ¬ bI true = 0 by decide), show (1 : Int32) = nI 1 from rfl, nI_add]
      rfl
    · show f_X8_endOfThing_0_L15 sh ln μ (nI (b + 1 + (e - (b + 1)))) = _
      rw [show b + 1 + (e - (b + 1)) = e by omega, f_X8_endOfThing_0_L15, h.2.1]
      by_cases d : e < z
      · have hn : isLe (T e) = false := (Bool.not_eq_true _).mp (fun x => ok.2.2.1 ⟨d, x⟩)
        rw [if_neg (by rw [q_le (by omega) (by omega)]; omega), k_byteAt0 h (by omega), Option.bind_some, k_isLetter (h256 _), hn, Option.bind_some, if_pos (show bI false = 0 from rfl)]
        rfl
      · rw [if_pos (by rw [q_le (by omega) (by omega)]; omega)]
        rfl
  · have c1' := (Bool.not_eq_true _).mp c1
    rw [c1', if_pos (show bI false = 0 from rfl), Option.bind_some, k_isDigit (h256 b), Option.bind_some]
    by_cases c2 : isDi (T b) = true
    · rw [c2, if_neg (show ¬ bI true = 0 by decide), eot_di hb c2, scn_go hb c2, show (1 : Int32) = nI 1 from rfl, nI_add]
      have ok := scn_ok (P := isDi) (T := T) (z := z) (b + 1)
      have hle := ok.2.1 (by omega)
      obtain ⟨e, he⟩ : ∃ e, e = scn isDi T z (b + 1) := ⟨_, rfl⟩
      rw [← he] at ok hle ⊢
      refine Wh_it (e - (b + 1)) (fun k => nI (b + 1 + k)) rfl (fun k hk => ?_) ?_
      · have hc := ok.2.2.2 (b + 1 + k) (by omega) (by omega)
        show f_X8_endOfThing_0_L51 sh ln μ (nI (b + 1 + k)) = _
        rw [f_X8_endOfThing_0_L51, h.2.1, if_neg (by rw [q_le (by omega) (by omega)]; omega), k_byteAt0 h (by omega), Option.bind_some, k_isDigit (h256 _), hc.2, Option.bind_some, if_neg (show ¬ bI true = 0 by decide), show (1 : Int32) = nI 1 from rfl, nI_add]
        rfl
      · show f_X8_endOfThing_0_L51 sh ln μ (nI (b + 1 + (e - (b + 1)))) = _
        rw [show b + 1 + (e - (b + 1)) = e by omega, f_X8_endOfThing_0_L51, h.2.1]
        by_cases d : e < z
        · have hn : isDi (T e) = false := (Bool.not_eq_true _).mp (fun x => ok.2.2.1 ⟨d, x⟩)
          rw [if_neg (by rw [q_le (by omega) (by omega)]; omega), k_byteAt0 h (by omega), Option.bind_some, k_isDigit (h256 _), hn, Option.bind_some, if_pos (show bI false = 0 from rfl)]
          rfl
        · rw [if_pos (by rw [q_le (by omega) (by omega)]; omega)]
          rfl
    · have c2' := (Bool.not_eq_true _).mp c2
      rw [c2', if_pos (show bI false = 0 from rfl), eot_sg c1' c2', show (1 : Int32) = nI 1 from rfl, nI_add]
theorem k_isWord0 (h : TK 0 ln μ T z) {w e : Nat} (hw : 5 ≤ w ∧ w < 24) (hbe : b ≤ e) (he : e ≤ z) : f_X8_isWord_0 sh ln w μ (nI b) (nI e) = some (bI (wrd T b e w)) := by
  have hz := h.2.2.1
  have hl := wl hw
  have q1 : (nI (e - b) = nI (lenS w)) = (e - b = lenS w) := q_eq (by omega) (by omega)
  rw [f_X8_isWord_0, q_sub hbe]
  by_cases c : e - b = lenS w
  · rw [if_pos (q1.mpr c)]
    have hh : ∃ r, Wh (fun z : Int32 => f_X8_isWord_0_L15 sh ln w (nI b) μ z) ((0 : Int32)) = some r ∧ r = bI (wrd T b e w) := by
      refine Wh_inv (lenS w) (fun k s => s = nI k ∧ ∀ i, i < k → nI (T (b + i)) = (bytS w).getD i 0) _ ⟨rfl, fun i hi => by omega⟩ ?_ ?_
      · rintro k _ hk ⟨rfl, hI⟩
        have hstep : f_X8_isWord_0_L15 sh ln w (nI b) μ (nI k) = (if nI (T (b + k)) = (bytS w).getD k 0 then some (.inl (nI (k + 1))) else (Option.map Sum.inr (α := Int32) (some (0 : Int32)))) := by
          rw [f_X8_isWord_0_L15, if_neg (by rw [q_le (by omega) (by omega)]; omega), nI_add, k_byteAt0 h (by omega), Option.bind_some, q_ck (by omega) hk, q_cl (by omega), show (1 : Int32) = nI 1 from rfl, nI_add]
        by_cases d : nI (T (b + k)) = (bytS w).getD k 0
        · left
          refine ⟨nI (k + 1), by rw [hstep, if_pos d], rfl, fun i hi => ?_⟩
          by_cases ei : i = k
          · rw [ei]; exact d
          · exact hI i (by omega)
        · right
          refine ⟨nI 0, by rw [hstep, if_neg d]; rfl, ?_⟩
          unfold wrd
          rw [decide_eq_false (fun x => d (x.2 k hk))]
          rfl
      · rintro _ ⟨rfl, hI⟩
        refine ⟨nI 1, ?_, ?_⟩
        · show f_X8_isWord_0_L15 sh ln w (nI b) μ (nI (lenS w)) = _
          rw [f_X8_isWord_0_L15, if_pos (Int32.le_refl _)]
          rfl
        · unfold wrd
          rw [decide_eq_true ⟨c, hI⟩]; rfl
    obtain ⟨r, e1, e2⟩ := hh
    rw [e1, e2]
  · have hf : wrd T b e w = false := by
      unfold wrd
      exact decide_eq_false (fun x => c x.1)
    rw [if_neg (fun x => c (q1.mp x)), hf]
    rfl
theorem k_eot1 (h : TK 1 ln μ T z) (hb : b < z) : f_X8_endOfThing_1 sh ln μ (nI b) = some (nI (eot T z b)) := by
  have hz := h.2.2.1
  have h256 := h.2.2.2.1
  have e0 := k_byteAt1 (sh := sh) h (i := b) (by omega)
  rw [f_X8_endOfThing_1, e0, Option.bind_some, k_isLetter (h256 b), Option.bind_some]
  by_cases c1 : isLe (T b) = true
  · rw [c1, if_neg (show ¬ bI true = 0 by decide), eot_le c1, scn_go hb c1, show (1 : Int32) = nI 1 from rfl, nI_add]
    have ok := scn_ok (P := isLe) (T := T) (z := z) (b + 1)
    have hle := ok.2.1 (by omega)
    obtain ⟨e, he⟩ : ∃ e, e = scn isLe T z (b + 1) := ⟨_, rfl⟩
    rw [← he] at ok hle ⊢
    refine Wh_it (e - (b + 1)) (fun k => nI (b + 1 + k)) rfl (fun k hk => ?_) ?_
    · have hc := ok.2.2.2 (b + 1 + k) (by omega) (by omega)
      show f_X8_endOfThing_1_L15 sh ln μ (nI (b + 1 + k)) = _
      rw [f_X8_endOfThing_1_L15, h.2.1, if_neg (by rw [q_le (by omega) (by omega)]; omega), k_byteAt1 h (by omega), Option.bind_some, k_isLetter (h256 _), hc.2, Option.bind_some, if_neg (show ¬ bI true = 0 by decide), show (1 : Int32) = nI 1 from rfl, nI_add]
      rfl
    · show f_X8_endOfThing_1_L15 sh ln μ (nI (b + 1 + (e - (b + 1)))) = _
      rw [show b + 1 + (e - (b + 1)) = e by omega, f_X8_endOfThing_1_L15, h.2.1]
      by_cases d : e < z
      · have hn : isLe (T e) = false := (Bool.not_eq_true _).mp (fun x => ok.2.2.1 ⟨d, x⟩)
        rw [if_neg (by rw [q_le (by omega) (by omega)]; omega), k_byteAt1 h (by omega), Option.bind_some, k_isLetter (h256 _), hn, Option.bind_some, if_pos (show bI false = 0 from rfl)]
        rfl
      · rw [if_pos (by rw [q_le (by omega) (by omega)]; omega)]
        rfl
  · have c1' := (Bool.not_eq_true _).mp c1
    rw [c1', if_pos (show bI false = 0 from rfl), Option.bind_some, k_isDigit (h256 b), Option.bind_some]
    by_cases c2 : isDi (T b) = true
    · rw [c2, if_neg (show ¬ bI true = 0 by decide), eot_di hb c2, scn_go hb c2, show (1 : Int32) = nI 1 from rfl, nI_add]
      have ok := scn_ok (P := isDi) (T := T) (z := z) (b + 1)
      have hle := ok.2.1 (by omega)
      obtain ⟨e, he⟩ : ∃ e, e = scn isDi T z (b + 1) := ⟨_, rfl⟩
      rw [← he] at ok hle ⊢
      refine Wh_it (e - (b + 1)) (fun k => nI (b + 1 + k)) rfl (fun k hk => ?_) ?_
      · have hc := ok.2.2.2 (b + 1 + k) (by omega) (by omega)
        show f_X8_endOfThing_1_L51 sh ln μ (nI (b + 1 + k)) = _
        rw [f_X8_endOfThing_1_L51, h.2.1, if_neg (by rw [q_le (by omega) (by omega)]; omega), k_byteAt1 h (by omega), Option.bind_some, k_isDigit (h256 _), hc.2, Option.bind_some, if_neg (show ¬ bI true = 0 by decide), show (1 : Int32) = nI 1 from rfl, nI_add]
        rfl
      · show f_X8_endOfThing_1_L51 sh ln μ (nI (b + 1 + (e - (b + 1)))) = _
        rw [show b + 1 + (e - (b + 1)) = e by omega, f_X8_endOfThing_1_L51, h.2.1]
        by_cases d : e < z
        · have hn : isDi (T e) = false := (Bool.not_eq_true _).mp (fun x => ok.2.2.1 ⟨d, x⟩)
          rw [if_neg (by rw [q_le (by omega) (by omega)]; omega), k_byteAt1 h (by omega), Option.bind_some, k_isDigit (h256 _), hn, Option.bind_some, if_pos (show bI false = 0 from rfl)]
          rfl
        · rw [if_pos (by rw [q_le (by omega) (by omega)]; omega)]
          rfl
    · have c2' := (Bool.not_eq_true _).mp c2
      rw [c2', if_pos (show bI false = 0 from rfl), eot_sg c1' c2', show (1 : Int32) = nI 1 from rfl, nI_add]
theorem k_isWord1 (h : TK 1 ln μ T z) {w e : Nat} (hw : 5 ≤ w ∧ w < 24) (hbe : b ≤ e) (he : e ≤ z) : f_X8_isWord_1 sh ln w μ (nI b) (nI e) = some (bI (wrd T b e w)) := by
  have hz := h.2.2.1
  have hl := wl hw
  have q1 : (nI (e - b) = nI (lenS w)) = (e - b = lenS w) := q_eq (by omega) (by omega)
  rw [f_X8_isWord_1, q_sub hbe]
  by_cases c : e - b = lenS w
  · rw [if_pos (q1.mpr c)]
    have hh : ∃ r, Wh (fun z : Int32 => f_X8_isWord_1_L15 sh ln w (nI b) μ z) ((0 : Int32)) = some r ∧ r = bI (wrd T b e w) := by
      refine Wh_inv (lenS w) (fun k s => s = nI k ∧ ∀ i, i < k → nI (T (b + i)) = (bytS w).getD i 0) _ ⟨rfl, fun i hi => by omega⟩ ?_ ?_
      · rintro k _ hk ⟨rfl, hI⟩
        have hstep : f_X8_isWord_1_L15 sh ln w (nI b) μ (nI k) = (if nI (T (b + k)) = (bytS w).getD k 0 then some (.inl (nI (k + 1))) else (Option.map Sum.inr (α := Int32) (some (0 : Int32)))) := by
          rw [f_X8_isWord_1_L15, if_neg (by rw [q_le (by omega) (by omega)]; omega), nI_add, k_byteAt1 h (by omega), Option.bind_some, q_ck (by omega) hk, q_cl (by omega), show (1 : Int32) = nI 1 from rfl, nI_add]
        by_cases d : nI (T (b + k)) = (bytS w).getD k 0
        · left
          refine ⟨nI (k + 1), by rw [hstep, if_pos d], rfl, fun i hi => ?_⟩
          by_cases ei : i = k
          · rw [ei]; exact d
          · exact hI i (by omega)
        · right
          refine ⟨nI 0, by rw [hstep, if_neg d]; rfl, ?_⟩
          unfold wrd
          rw [decide_eq_false (fun x => d (x.2 k hk))]
          rfl
      · rintro _ ⟨rfl, hI⟩
        refine ⟨nI 1, ?_, ?_⟩
        · show f_X8_isWord_1_L15 sh ln w (nI b) μ (nI (lenS w)) = _
          rw [f_X8_isWord_1_L15, if_pos (Int32.le_refl _)]
          rfl
        · unfold wrd
          rw [decide_eq_true ⟨c, hI⟩]; rfl
    obtain ⟨r, e1, e2⟩ := hh
    rw [e1, e2]
  · have hf : wrd T b e w = false := by
      unfold wrd
      exact decide_eq_false (fun x => c x.1)
    rw [if_neg (fun x => c (q1.mp x)), hf]
    rfl
theorem kw_step {B : Bool} {A C : Option Int32} : ((some (bI B)).bind fun x => if x = 0 then A else C) = if B = true then C else A := by cases B <;> rfl
theorem k_kow0 (h : TK 0 ln μ T z) {e : Nat} (hbe : b ≤ e) (he : e ≤ z) : f_X8_kindOfWord_0 sh ln μ (nI b) (nI e) = some (nI (kow T b e)) := by
  have hw : ∀ w, 5 ≤ w → w < 24 → f_X8_isWord_0 sh ln w μ (nI b) (nI e) = some (bI (wrd T b e w)) := fun w h5 h24 => k_isWord0 h ⟨h5, h24⟩ hbe he
  rw [f_X8_kindOfWord_0]
  unfold kow
  rw [hw 5 (by omega) (by omega), Option.bind_some]
  by_cases c5 : wrd T b e 5 = true
  · rw [c5, if_neg (show ¬ bI true = 0 by decide), if_pos rfl]; rfl
  rw [(Bool.not_eq_true _).mp c5, if_pos (show bI false = 0 from rfl), if_neg (show ¬ false = true by decide)]
  rw [hw 6 (by omega) (by omega), Option.bind_some]
  by_cases c6 : wrd T b e 6 = true
  · rw [c6, if_neg (show ¬ bI true = 0 by decide), if_pos rfl]; rfl
  rw [(Bool.not_eq_true _).mp c6, if_pos (show bI false = 0 from rfl), if_neg (show ¬ false = true by decide)]
  rw [hw 7 (by omega) (by omega), Option.bind_some]
  by_cases c7 : wrd T b e 7 = true
  · rw [c7, if_neg (show ¬ bI true = 0 by decide), if_pos rfl]; rfl
  rw [(Bool.not_eq_true _).mp c7, if_pos (show bI false = 0 from rfl), if_neg (show ¬ false = true by decide)]
  rw [hw 8 (by omega) (by omega), Option.bind_some]
  by_cases c8 : wrd T b e 8 = true
  · rw [c8, if_neg (show ¬ bI true = 0 by decide), if_pos rfl]; rfl
  rw [(Bool.not_eq_true _).mp c8, if_pos (show bI false = 0 from rfl), if_neg (show ¬ false = true by decide)]
  rw [hw 9 (by omega) (by omega), Option.bind_some]
  by_cases c9 : wrd T b e 9 = true
  · rw [c9, if_neg (show ¬ bI true = 0 by decide), if_pos rfl]; rfl
  rw [(Bool.not_eq_true _).mp c9, if_pos (show bI false = 0 from rfl), if_neg (show ¬ false = true by decide)]
  rw [hw 10 (by omega) (by omega), Option.bind_some]
  by_cases c10 : wrd T b e 10 = true
  · rw [c10, if_neg (show ¬ bI true = 0 by decide), if_pos rfl]; rfl
  rw [(Bool.not_eq_true _).mp c10, if_pos (show bI false = 0 from rfl), if_neg (show ¬ false = true by decide)]
  rw [hw 11 (by omega) (by omega), Option.bind_some]
  by_cases c11 : wrd T b e 11 = true
  · rw [c11, if_neg (show ¬ bI true = 0 by decide), if_pos rfl]; rfl
  rw [(Bool.not_eq_true _).mp c11, if_pos (show bI false = 0 from rfl), if_neg (show ¬ false = true by decide)]
  rw [hw 12 (by omega) (by omega), Option.bind_some]
  by_cases c12 : wrd T b e 12 = true
  · rw [c12, if_neg (show ¬ bI true = 0 by decide), if_pos rfl]; rfl
  rw [(Bool.not_eq_true _).mp c12, if_pos (show bI false = 0 from rfl), if_neg (show ¬ false = true by decide)]
  rw [hw 13 (by omega) (by omega), Option.bind_some]
  by_cases c13 : wrd T b e 13 = true
  · rw [c13, if_neg (show ¬ bI true = 0 by decide), if_pos rfl]; rfl
  rw [(Bool.not_eq_true _).mp c13, if_pos (show bI false = 0 from rfl), if_neg (show ¬ false = true by decide)]
  rw [hw 14 (by omega) (by omega), Option.bind_some]
  by_cases c14 : wrd T b e 14 = true
  · rw [c14, if_neg (show ¬ bI true = 0 by decide), if_pos rfl]; rfl
  rw [(Bool.not_eq_true _).mp c14, if_pos (show bI false = 0 from rfl), if_neg (show ¬ false = true by decide)]
  rw [hw 15 (by omega) (by omega), Option.bind_some]
  by_cases c15 : wrd T b e 15 = true
  · rw [c15, if_neg (show ¬ bI true = 0 by decide), if_pos rfl]; rfl
  rw [(Bool.not_eq_true _).mp c15, if_pos (show bI false = 0 from rfl), if_neg (show ¬ false = true by decide)]
  rw [hw 16 (by omega) (by omega), Option.bind_some]
  by_cases c16 : wrd T b e 16 = true
  · rw [c16, if_neg (show ¬ bI true = 0 by decide), if_pos rfl]; rfl
  rw [(Bool.not_eq_true _).mp c16, if_pos (show bI false = 0 from rfl), if_neg (show ¬ false = true by decide)]
  rw [hw 17 (by omega) (by omega), Option.bind_some]
  by_cases c17 : wrd T b e 17 = true
  · rw [c17, if_neg (show ¬ bI true = 0 by decide), if_pos rfl]; rfl
  rw [(Bool.not_eq_true _).mp c17, if_pos (show bI false = 0 from rfl), if_neg (show ¬ false = true by decide)]
  rw [hw 18 (by omega) (by omega), Option.bind_some]
  by_cases c18 : wrd T b e 18 = true
  · rw [c18, if_neg (show ¬ bI true = 0 by decide), if_pos rfl]; rfl
  rw [(Bool.not_eq_true _).mp c18, if_pos (show bI false = 0 from rfl), if_neg (show ¬ false = true by decide)]
  rw [hw 19 (by omega) (by omega), Option.bind_some]
  by_cases c19 : wrd T b e 19 = true
  · rw [c19, if_neg (show ¬ bI true = 0 by decide), if_pos rfl]; rfl
  rw [(Bool.not_eq_true _).mp c19, if_pos (show bI false = 0 from rfl), if_neg (show ¬ false = true by decide)]
  rw [hw 20 (by omega) (by omega), Option.bind_some]
  by_cases c20 : wrd T b e 20 = true
  · rw [c20, if_neg (show ¬ bI true = 0 by decide), if_pos rfl]; rfl
  rw [(Bool.not_eq_true _).mp c20, if_pos (show bI false = 0 from rfl), if_neg (show ¬ false = true by decide)]
  rw [hw 21 (by omega) (by omega), Option.bind_some]
  by_cases c21 : wrd T b e 21 = true
  · rw [c21, if_neg (show ¬ bI true = 0 by decide), if_pos rfl]; rfl
  rw [(Bool.not_eq_true _).mp c21, if_pos (show bI false = 0 from rfl), if_neg (show ¬ false = true by decide)]
  rw [hw 22 (by omega) (by omega), Option.bind_some]
  by_cases c22 : wrd T b e 22 = true
  · rw [c22, if_neg (show ¬ bI true = 0 by decide), if_pos rfl]; rfl
  rw [(Bool.not_eq_true _).mp c22, if_pos (show bI false = 0 from rfl), if_neg (show ¬ false = true by decide)]
  rw [hw 23 (by omega) (by omega), Option.bind_some]
  by_cases c23 : wrd T b e 23 = true
  · rw [c23, if_neg (show ¬ bI true = 0 by decide), if_pos rfl]; rfl
  rw [(Bool.not_eq_true _).mp c23, if_pos (show bI false = 0 from rfl), if_neg (show ¬ false = true by decide)]
  rfl
theorem k_valueOf0 (h : TK 0 ln μ T z) {k : Nat} (hk : k ≤ 3) (hbz : b + k ≤ z) (hd : ∀ i, i < k → 48 ≤ T (b + i) ∧ T (b + i) ≤ 57) : f_X8_valueOf_0 sh ln μ (nI b) (nI (b + k)) = some (nI (vl T b k)) := by
  have hz := h.2.2.1
  rw [f_X8_valueOf_0]
  refine Wh_it k (fun i => (nI (vl T b i), nI (b + i))) rfl (fun i hi => ?_) ?_
  · show f_X8_valueOf_0_L5 sh ln (nI (b + k)) μ (nI (vl T b i)) (nI (b + i)) = some (.inl (nI (vl T b (i + 1)), nI (b + (i + 1))))
    have hv : vl T b i ≤ 999 := vl_b _ (by omega) (fun i hi => (hd _ (by omega)).2)
    have ht := hd i hi
    rw [f_X8_valueOf_0_L5, if_neg (by rw [q_le (by omega) (by omega)]; omega), k_byteAt0 h (by omega), Option.bind_some, show (10 : Int32) = nI 10 from rfl, pk_mul, nI_add, show (48 : Int32) = nI 48 from rfl, q_sub (by omega), show (1 : Int32) = nI 1 from rfl, nI_add]
    have : vl T b i * 10 + T (b + i) - 48 = vl T b (i + 1) := by
      show _ = 10 * vl T b i + (T (b + i) - 48)
      omega
    rw [this]
    rfl
  · show f_X8_valueOf_0_L5 sh ln (nI (b + k)) μ (nI (vl T b k)) (nI (b + k)) = _
    rw [f_X8_valueOf_0_L5, if_pos (Int32.le_refl _)]
    rfl
theorem k_kow1 (h : TK 1 ln μ T z) {e : Nat} (hbe : b ≤ e) (he : e ≤ z) : f_X8_kindOfWord_1 sh ln μ (nI b) (nI e) = some (nI (kow T b e)) := by
  have hw : ∀ w, 5 ≤ w → w < 24 → f_X8_isWord_1 sh ln w μ (nI b) (nI e) = some (bI (wrd T b e w)) := fun w h5 h24 => k_isWord1 h ⟨h5, h24⟩ hbe he
  rw [f_X8_kindOfWord_1]
  unfold kow
  rw [hw 5 (by omega) (by omega), Option.bind_some]
  by_cases c5 : wrd T b e 5 = true
  · rw [c5, if_neg (show ¬ bI true = 0 by decide), if_pos rfl]; rfl
  rw [(Bool.not_eq_true _).mp c5, if_pos (show bI false = 0 from rfl), if_neg (show ¬ false = true by decide)]
  rw [hw 6 (by omega) (by omega), Option.bind_some]
  by_cases c6 : wrd T b e 6 = true
  · rw [c6, if_neg (show ¬ bI true = 0 by decide), if_pos rfl]; rfl
  rw [(Bool.not_eq_true _).mp c6, if_pos (show bI false = 0 from rfl), if_neg (show ¬ false = true by decide)]
  rw [hw 7 (by omega) (by omega), Option.bind_some]
  by_cases c7 : wrd T b e 7 = true
  · rw [c7, if_neg (show ¬ bI true = 0 by decide), if_pos rfl]; rfl
  rw [(Bool.not_eq_true _).mp c7, if_pos (show bI false = 0 from rfl), if_neg (show ¬ false = true by decide)]
  rw [hw 8 (by omega) (by omega), Option.bind_some]
  by_cases c8 : wrd T b e 8 = true
  · rw [c8, if_neg (show ¬ bI true = 0 by decide), if_pos rfl]; rfl
  rw [(Bool.not_eq_true _).mp c8, if_pos (show bI false = 0 from rfl), if_neg (show ¬ false = true by decide)]
  rw [hw 9 (by omega) (by omega), Option.bind_some]
  by_cases c9 : wrd T b e 9 = true
  · rw [c9, if_neg (show ¬ bI true = 0 by decide), if_pos rfl]; rfl
  rw [(Bool.not_eq_true _).mp c9, if_pos (show bI false = 0 from rfl), if_neg (show ¬ false = true by decide)]
  rw [hw 10 (by omega) (by omega), Option.bind_some]
  by_cases c10 : wrd T b e 10 = true
  · rw [c10, if_neg (show ¬ bI true = 0 by decide), if_pos rfl]; rfl
  rw [(Bool.not_eq_true _).mp c10, if_pos (show bI false = 0 from rfl), if_neg (show ¬ false = true by decide)]
  rw [hw 11 (by omega) (by omega), Option.bind_some]
  by_cases c11 : wrd T b e 11 = true
  · rw [c11, if_neg (show ¬ bI true = 0 by decide), if_pos rfl]; rfl
  rw [(Bool.not_eq_true _).mp c11, if_pos (show bI false = 0 from rfl), if_neg (show ¬ false = true by decide)]
  rw [hw 12 (by omega) (by omega), Option.bind_some]
  by_cases c12 : wrd T b e 12 = true
  · rw [c12, if_neg (show ¬ bI true = 0 by decide), if_pos rfl]; rfl
  rw [(Bool.not_eq_true _).mp c12, if_pos (show bI false = 0 from rfl), if_neg (show ¬ false = true by decide)]
  rw [hw 13 (by omega) (by omega), Option.bind_some]
  by_cases c13 : wrd T b e 13 = true
  · rw [c13, if_neg (show ¬ bI true = 0 by decide), if_pos rfl]; rfl
  rw [(Bool.not_eq_true _).mp c13, if_pos (show bI false = 0 from rfl), if_neg (show ¬ false = true by decide)]
  rw [hw 14 (by omega) (by omega), Option.bind_some]
  by_cases c14 : wrd T b e 14 = true
  · rw [c14, if_neg (show ¬ bI true = 0 by decide), if_pos rfl]; rfl
  rw [(Bool.not_eq_true _).mp c14, if_pos (show bI false = 0 from rfl), if_neg (show ¬ false = true by decide)]
  rw [hw 15 (by omega) (by omega), Option.bind_some]
  by_cases c15 : wrd T b e 15 = true
  · rw [c15, if_neg (show ¬ bI true = 0 by decide), if_pos rfl]; rfl
  rw [(Bool.not_eq_true _).mp c15, if_pos (show bI false = 0 from rfl), if_neg (show ¬ false = true by decide)]
  rw [hw 16 (by omega) (by omega), Option.bind_some]
  by_cases c16 : wrd T b e 16 = true
  · rw [c16, if_neg (show ¬ bI true = 0 by decide), if_pos rfl]; rfl
  rw [(Bool.not_eq_true _).mp c16, if_pos (show bI false = 0 from rfl), if_neg (show ¬ false = true by decide)]
  rw [hw 17 (by omega) (by omega), Option.bind_some]
  by_cases c17 : wrd T b e 17 = true
  · rw [c17, if_neg (show ¬ bI true = 0 by decide), if_pos rfl]; rfl
  rw [(Bool.not_eq_true _).mp c17, if_pos (show bI false = 0 from rfl), if_neg (show ¬ false = true by decide)]
  rw [hw 18 (by omega) (by omega), Option.bind_some]
  by_cases c18 : wrd T b e 18 = true
  · rw [c18, if_neg (show ¬ bI true = 0 by decide), if_pos rfl]; rfl
  rw [(Bool.not_eq_true _).mp c18, if_pos (show bI false = 0 from rfl), if_neg (show ¬ false = true by decide)]
  rw [hw 19 (by omega) (by omega), Option.bind_some]
  by_cases c19 : wrd T b e 19 = true
  · rw [c19, if_neg (show ¬ bI true = 0 by decide), if_pos rfl]; rfl
  rw [(Bool.not_eq_true _).mp c19, if_pos (show bI false = 0 from rfl), if_neg (show ¬ false = true by decide)]
  rw [hw 20 (by omega) (by omega), Option.bind_some]
  by_cases c20 : wrd T b e 20 = true
  · rw [c20, if_neg (show ¬ bI true = 0 by decide), if_pos rfl]; rfl
  rw [(Bool.not_eq_true _).mp c20, if_pos (show bI false = 0 from rfl), if_neg (show ¬ false = true by decide)]
  rw [hw 21 (by omega) (by omega), Option.bind_some]
  by_cases c21 : wrd T b e 21 = true
  · rw [c21, if_neg (show ¬ bI true = 0 by decide), if_pos rfl]; rfl
  rw [(Bool.not_eq_true _).mp c21, if_pos (show bI false = 0 from rfl), if_neg (show ¬ false = true by decide)]
  rw [hw 22 (by omega) (by omega), Option.bind_some]
  by_cases c22 : wrd T b e 22 = true
  · rw [c22, if_neg (show ¬ bI true = 0 by decide), if_pos rfl]; rfl
  rw [(Bool.not_eq_true _).mp c22, if_pos (show bI false = 0 from rfl), if_neg (show ¬ false = true by decide)]
  rw [hw 23 (by omega) (by omega), Option.bind_some]
  by_cases c23 : wrd T b e 23 = true
  · rw [c23, if_neg (show ¬ bI true = 0 by decide), if_pos rfl]; rfl
  rw [(Bool.not_eq_true _).mp c23, if_pos (show bI false = 0 from rfl), if_neg (show ¬ false = true by decide)]
  rfl
theorem k_valueOf1 (h : TK 1 ln μ T z) {k : Nat} (hk : k ≤ 3) (hbz : b + k ≤ z) (hd : ∀ i, i < k → 48 ≤ T (b + i) ∧ T (b + i) ≤ 57) : f_X8_valueOf_1 sh ln μ (nI b) (nI (b + k)) = some (nI (vl T b k)) := by
  have hz := h.2.2.1
  rw [f_X8_valueOf_1]
  refine Wh_it k (fun i => (nI (vl T b i), nI (b + i))) rfl (fun i hi => ?_) ?_
  · show f_X8_valueOf_1_L5 sh ln (nI (b + k)) μ (nI (vl T b i)) (nI (b + i)) = some (.inl (nI (vl T b (i + 1)), nI (b + (i + 1))))
    have hv : vl T b i ≤ 999 := vl_b _ (by omega) (fun i hi => (hd _ (by omega)).2)
    have ht := hd i hi
    rw [f_X8_valueOf_1_L5, if_neg (by rw [q_le (by omega) (by omega)]; omega), k_byteAt1 h (by omega), Option.bind_some, show (10 : Int32) = nI 10 from rfl, pk_mul, nI_add, show (48 : Int32) = nI 48 from rfl, q_sub (by omega), show (1 : Int32) = nI 1 from rfl, nI_add]
    have : vl T b i * 10 + T (b + i) - 48 = vl T b (i + 1) := by
      show _ = 10 * vl T b i + (T (b + i) - 48)
      omega
    rw [this]
    rfl
  · show f_X8_valueOf_1_L5 sh ln (nI (b + k)) μ (nI (vl T b k)) (nI (b + k)) = _
    rw [f_X8_valueOf_1_L5, if_pos (Int32.le_refl _)]
    rfl
end TOK
