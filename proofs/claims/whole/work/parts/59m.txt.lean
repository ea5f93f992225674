-- texts: what stands where
def scnF (P : Nat → Bool) (T : Nat → Nat) (z : Nat) : Nat → Nat → Nat
  | 0, p => p
  | f + 1, p => if p < z ∧ P (T p) = true then scnF P T z f (p + 1) else p
def scn (P : Nat → Bool) (T : Nat → Nat) (z p : Nat) : Nat := scnF P T z (z - p) p
section SCN
variable {P : Nat → Bool} {T : Nat → Nat} {z p : Nat}
theorem scn_go (h : p < z) (hP : P (T p) = true) : scn P T z p = scn P T z (p + 1) := by
  unfold scn
  rw [show z - p = (z - (p + 1)) + 1 by omega]
  show (if p < z ∧ P (T p) = true then scnF P T z (z - (p + 1)) (p + 1) else p) = _
  rw [if_pos ⟨h, hP⟩]
theorem scn_no (h : ¬ (p < z ∧ P (T p) = true)) : scn P T z p = p := by
  unfold scn
  cases z - p with
  | zero => rfl
  | succ f =>
    show (if p < z ∧ P (T p) = true then scnF P T z f (p + 1) else p) = p
    rw [if_neg h]
theorem scn_ok (p : Nat) : p ≤ scn P T z p ∧ (p ≤ z → scn P T z p ≤ z) ∧ ¬ (scn P T z p < z ∧ P (T (scn P T z p)) = true) ∧ ∀ i, p ≤ i → i < scn P T z p → i < z ∧ P (T i) = true := by
  induction hf : z - p generalizing p with
  | zero =>
    have c : ¬ (p < z ∧ P (T p) = true) := fun x => by omega
    rw [scn_no c]
    exact ⟨Nat.le_refl _, fun x => x, c, fun i h0 h1 => by omega⟩
  | succ f ih =>
    by_cases c : p < z ∧ P (T p) = true
    · obtain ⟨h1, h2, h3, h4⟩ := ih (p + 1) (by omega)
      rw [scn_go c.1 c.2]
      refine ⟨by omega, fun _ => h2 (by omega), h3, fun i h0 h5 => ?_⟩
      by_cases e : i = p
      · subst e; exact c
      · exact h4 i (by omega) h5
    · rw [scn_no c]
      exact ⟨Nat.le_refl _, fun x => x, c, fun i h0 h1 => by omega⟩
theorem scn_id (p : Nat) : scn P T z (scn P T z p) = scn P T z p := scn_no (scn_ok p).2.2.1
end SCN
def isBl (c : Nat) : Bool := decide (c = 32)
def isLe (c : Nat) : Bool := decide (97 ≤ c ∧ c ≤ 122)
def isDi (c : Nat) : Bool := decide (48 ≤ c ∧ c ≤ 57)
theorem isLe_i {c : Nat} : (isLe c = true) = (97 ≤ c ∧ c ≤ 122) := by unfold isLe; exact decide_eq_true_eq
theorem isDi_i {c : Nat} : (isDi c = true) = (48 ≤ c ∧ c ≤ 57) := by unfold isDi; exact decide_eq_true_eq
theorem isBl_i {c : Nat} : (isBl c = true) = (c = 32) := by unfold isBl; exact decide_eq_true_eq
/-- where the next thing begins, where it ends -/
def nb (T : Nat → Nat) (z p : Nat) : Nat := scn isBl T z p
def eot (T : Nat → Nat) (z b : Nat) : Nat := if isLe (T b) = true then scn isLe T z b else if isDi (T b) = true then scn isDi T z b else b + 1
def vl (T : Nat → Nat) (b : Nat) : Nat → Nat
  | 0 => 0
  | k + 1 => 10 * vl T b k + (T (b + k) - 48)
/-- a number's worth by its first three digits -/
def nmv (T : Nat → Nat) (z b : Nat) : Nat := if isDi (T b) = true then vl T b (min (eot T z b - b) 3) else 0
def wrd (T : Nat → Nat) (b e w : Nat) : Bool := decide (e - b = lenS w ∧ ∀ i, i < lenS w → nI (T (b + i)) = (bytS w).getD i 0)
def kow (T : Nat → Nat) (b e : Nat) : Nat := if wrd T b e 5 = true then 301 else if wrd T b e 6 = true then 302 else if wrd T b e 7 = true then 303 else if wrd T b e 8 = true then 304 else if wrd T b e 9 = true then 305 else if wrd T b e 10 = true then 306 else if wrd T b e 11 = true then 307 else if wrd T b e 12 = true then 308 else if wrd T b e 13 = true then 309 else if wrd T b e 14 = true then 310 else if wrd T b e 15 = true then 311 else if wrd T b e 16 = true then 312 else if wrd T b e 17 = true then 313 else if wrd T b e 18 = true then 314 else if wrd T b e 19 = true then 315 else if wrd T b e 20 = true then 316 else if wrd T b e 21 = true then 317 else if wrd T b e 22 = true then 318 else if wrd T b e 23 = true then 319 else 1
def kd (T : Nat → Nat) (z b : Nat) : Nat := if isLe (T b) = true then kow T b (eot T z b) else if isDi (T b) = true then (if eot T z b - b ≤ 3 then 2 else 1) else if 32 < T b then T b else 1
/-- what stands next -/
def KN (T : Nat → Nat) (z b : Nat) : Nat := if b < z then kd T z b else 0
/-- the next thing behind one -/
def nx (T : Nat → Nat) (z b : Nat) : Nat := nb T z (eot T z b)
section TXT
variable {T : Nat → Nat} {z p b : Nat}
theorem nb_ok (p : Nat) : p ≤ nb T z p ∧ (p ≤ z → nb T z p ≤ z) ∧ (nb T z p < z → T (nb T z p) ≠ 32) := by
  have h := scn_ok (P := isBl) (T := T) (z := z) p
  exact ⟨h.1, h.2.1, fun h2 e => h.2.2.1 ⟨h2, by rw [isBl_i]; exact e⟩⟩
theorem eot_ok (h : b < z) : b < eot T z b ∧ eot T z b ≤ z := by
  unfold eot
  split
  · rename_i c
    rw [scn_go h c]
    have := scn_ok (P := isLe) (T := T) (z := z) (b + 1)
    exact ⟨by omega, this.2.1 (by omega)⟩
  · split
    · rename_i c
      rw [scn_go h c]
      have := scn_ok (P := isDi) (T := T) (z := z) (b + 1)
      exact ⟨by omega, this.2.1 (by omega)⟩
    · omega
theorem nx_ok (h : b < z) : b < nx T z b ∧ nx T z b ≤ z := by
  have h1 := eot_ok (T := T) h
  have h2 := nb_ok (T := T) (z := z) (eot T z b)
  exact ⟨by unfold nx; omega, h2.2.1 h1.2⟩
theorem nb_nb (p : Nat) : nb T z (nb T z p) = nb T z p := scn_id p
theorem nb_nx (b : Nat) : nb T z (nx T z b) = nx T z b := nb_nb _
theorem vl_le (hd : ∀ k, k < 3 → T (b + k) ≤ 57) : vl T b 1 ≤ 9 ∧ vl T b 2 ≤ 99 ∧ vl T b 3 ≤ 999 := by
  have h0 := hd 0 (by omega)
  have h1 := hd 1 (by omega)
  have h2 := hd 2 (by omega)
  have e1 : vl T b 1 = 10 * 0 + (T (b + 0) - 48) := rfl
  have e2 : vl T b 2 = 10 * vl T b 1 + (T (b + 1) - 48) := rfl
  have e3 : vl T b 3 = 10 * vl T b 2 + (T (b + 2) - 48) := rfl
  omega
theorem vl_b (k : Nat) (hk : k ≤ 3) (hd : ∀ i, i < k → T (b + i) ≤ 57) : vl T b k ≤ 999 := by
  have e1 : vl T b 1 = 10 * 0 + (T (b + 0) - 48) := rfl
  have e2 : vl T b 2 = 10 * vl T b 1 + (T (b + 1) - 48) := rfl
  have e3 : vl T b 3 = 10 * vl T b 2 + (T (b + 2) - 48) := rfl
  have : k = 0 ∨ k = 1 ∨ k = 2 ∨ k = 3 := by omega
  rcases this with rfl | rfl | rfl | rfl
  · show 0 ≤ 999; omega
  · have := hd 0 (by omega); omega
  · have := hd 0 (by omega); have := hd 1 (by omega); omega
  · have := hd 0 (by omega); have := hd 1 (by omega); have := hd 2 (by omega); omega
theorem eot_di (hb : b < z) (c : isDi (T b) = true) : eot T z b = scn isDi T z b := by
  have c0 : ¬ isLe (T b) = true := by rw [isLe_i]; rw [isDi_i] at c; omega
  unfold eot
  rw [if_neg c0, if_pos c]
theorem eot_le (c : isLe (T b) = true) : eot T z b = scn isLe T z b := by
  unfold eot
  rw [if_pos c]
theorem eot_sg (c : isLe (T b) = false) (d : isDi (T b) = false) : eot T z b = b + 1 := by
  unfold eot
  rw [c, d]
  rfl
theorem nmv_le (hb : b < z) : nmv T z b ≤ 999 := by
  unfold nmv
  by_cases c : isDi (T b) = true
  · rw [if_pos c]
    refine vl_b _ (Nat.min_le_right _ _) (fun i hi => ?_)
    have e := eot_di hb c
    have h := (scn_ok (P := isDi) (T := T) (z := z) b).2.2.2 (b + i) (by omega) (by rw [← e]; omega)
    rw [isDi_i] at h
    exact h.2.2
  · rw [if_neg c]; omega
-- words are unlike
def wuB (w v : Nat) : Bool := decide (w = v) || decide (¬ (lenS w = lenS v ∧ ∀ i, i < lenS w → (bytS w).getD i 0 = (bytS v).getD i 0))
theorem wu_all : ∀ w, w < 24 → 5 ≤ w → ∀ v, v < 24 → 5 ≤ v → wuB w v = true := by decide +kernel
theorem wrd_u {w v e : Nat} (hw : 5 ≤ w ∧ w < 24) (hv : 5 ≤ v ∧ v < 24) (h1 : wrd T b e w = true) (h2 : wrd T b e v = true) : w = v := by
  have h := wu_all w hw.2 hw.1 v hv.2 hv.1
  unfold wuB at h
  rw [Bool.or_eq_true] at h
  rcases h with h | h
  · exact of_decide_eq_true h
  · refine absurd ?_ (of_decide_eq_true h)
    have g1 := of_decide_eq_true h1
    have g2 := of_decide_eq_true h2
    exact ⟨by rw [← g1.1, ← g2.1], fun i hi => by rw [← g1.2 i hi, ← g2.2 i (by rw [← g2.1, g1.1]; exact hi)]⟩
theorem kow_w {w e : Nat} (hw : 5 ≤ w ∧ w < 24) (h : wrd T b e w = true) : kow T b e = 296 + w := by
  have hn : ∀ v, 5 ≤ v → v < 24 → v ≠ w → ¬ wrd T b e v = true := fun v h5 h24 hne h2 => hne (wrd_u ⟨h5, h24⟩ hw h2 h)
  have : w = 5 ∨ w = 6 ∨ w = 7 ∨ w = 8 ∨ w = 9 ∨ w = 10 ∨ w = 11 ∨ w = 12 ∨ w = 13 ∨ w = 14 ∨ w = 15 ∨ w = 16 ∨ w = 17 ∨ w = 18 ∨ w = 19 ∨ w = 20 ∨ w = 21 ∨ w = 22 ∨ w = 23 := by omega
  unfold kow
  rcases this with rfl | rfl | rfl | rfl | rfl | rfl | rfl | rfl | rfl | rfl | rfl | rfl | rfl | rfl | rfl | rfl | rfl | rfl | rfl
  all_goals simp (disch := omega) only [h, hn, if_pos, if_neg, if_true, if_false, not_false_eq_true, Bool.false_eq_true]
theorem kow_n {e k : Nat} (h : kow T b e = k) : k = 1 ∨ ∃ w, 5 ≤ w ∧ w < 24 ∧ k = 296 + w ∧ wrd T b e w = true := by
  subst h
  unfold kow
  by_cases c5 : wrd T b e 5 = true
  · rw [if_pos c5]; exact Or.inr ⟨5, by omega, by omega, rfl, c5⟩
  rw [if_neg c5]
  by_cases c6 : wrd T b e 6 = true
  · rw [if_pos c6]; exact Or.inr ⟨6, by omega, by omega, rfl, c6⟩
  rw [if_neg c6]
  by_cases c7 : wrd T b e 7 = true
  · rw [if_pos c7]; exact Or.inr ⟨7, by omega, by omega, rfl, c7⟩
  rw [if_neg c7]
  by_cases c8 : wrd T b e 8 = true
  · rw [if_pos c8]; exact Or.inr ⟨8, by omega, by omega, rfl, c8⟩
  rw [if_neg c8]
  by_cases c9 : wrd T b e 9 = true
  · rw [if_pos c9]; exact Or.inr ⟨9, by omega, by omega, rfl, c9⟩
  rw [if_neg c9]
  by_cases c10 : wrd T b e 10 = true
  · rw [if_pos c10]; exact Or.inr ⟨10, by omega, by omega, rfl, c10⟩
  rw [if_neg c10]
  by_cases c11 : wrd T b e 11 = true
  · rw [if_pos c11]; exact Or.inr ⟨11, by omega, by omega, rfl, c11⟩
  rw [if_neg c11]
  by_cases c12 : wrd T b e 12 = true
  · rw [if_pos c12]; exact Or.inr ⟨12, by omega, by omega, rfl, c12⟩
  rw [if_neg c12]
  by_cases c13 : wrd T b e 13 = true
  · rw [if_pos c13]; exact Or.inr ⟨13, by omega, by omega, rfl, c13⟩
  rw [if_neg c13]
  by_cases c14 : wrd T b e 14 = true
  · rw [if_pos c14]; exact Or.inr ⟨14, by omega, by omega, rfl, c14⟩
  rw [if_neg c14]
  by_cases c15 : wrd T b e 15 = true
  · rw [if_pos c15]; exact Or.inr ⟨15, by omega, by omega, rfl, c15⟩
  rw [if_neg c15]
  by_cases c16 : wrd T b e 16 = true
  · rw [if_pos c16]; exact Or.inr ⟨16, by omega, by omega, rfl, c16⟩
  rw [if_neg c16]
  by_cases c17 : wrd T b e 17 = true
  · rw [if_pos c17]; exact Or.inr ⟨17, by omega, by omega, rfl, c17⟩
  rw [if_neg c17]
  by_cases c18 : wrd T b e 18 = true
  · rw [if_pos c18]; exact Or.inr ⟨18, by omega, by omega, rfl, c18⟩
  rw [if_neg c18]
  by_cases c19 : wrd T b e 19 = true
  · rw [if_pos c19]; exact Or.inr ⟨19, by omega, by omega, rfl, c19⟩
  rw [if_neg c19]
  by_cases c20 : wrd T b e 20 = true
  · rw [if_pos c20]; exact Or.inr ⟨20, by omega, by omega, rfl, c20⟩
  rw [if_neg c20]
  by_cases c21 : wrd T b e 21 = true
  · rw [if_pos c21]; exact Or.inr ⟨21, by omega, by omega, rfl, c21⟩
  rw [if_neg c21]
  by_cases c22 : wrd T b e 22 = true
  · rw [if_pos c22]; exact Or.inr ⟨22, by omega, by omega, rfl, c22⟩
  rw [if_neg c22]
  by_cases c23 : wrd T b e 23 = true
  · rw [if_pos c23]; exact Or.inr ⟨23, by omega, by omega, rfl, c23⟩
  rw [if_neg c23]
  exact Or.inl rfl
/-- of which sort a thing is -/
theorem kd_s (hT : T b < 256) : (isLe (T b) = true ∧ (kd T z b = 1 ∨ ∃ w, 5 ≤ w ∧ w < 24 ∧ kd T z b = 296 + w ∧ wrd T b (eot T z b) w = true)) ∨ (isDi (T b) = true ∧ isLe (T b) = false ∧ (kd T z b = 2 ∧ eot T z b - b ≤ 3 ∨ kd T z b = 1 ∧ 3 < eot T z b - b)) ∨ (isLe (T b) = false ∧ isDi (T b) = false ∧ (kd T z b = T b ∧ 32 < T b ∨ kd T z b = 1 ∧ T b ≤ 32)) := by
  unfold kd
  by_cases c : isLe (T b) = true
  · rw [if_pos c]
    exact Or.inl ⟨c, kow_n rfl⟩
  · have c' := (Bool.not_eq_true _).mp c
    rw [if_neg c]
    by_cases d : isDi (T b) = true
    · rw [if_pos d]
      refine Or.inr (Or.inl ⟨d, c', ?_⟩)
      by_cases e : eot T z b - b ≤ 3
      · rw [if_pos e]; exact Or.inl ⟨rfl, e⟩
      · rw [if_neg e]; exact Or.inr ⟨rfl, by omega⟩
    · have d' := (Bool.not_eq_true _).mp d
      rw [if_neg d]
      refine Or.inr (Or.inr ⟨c', d', ?_⟩)
      by_cases e : 32 < T b
      · rw [if_pos e]; exact Or.inl ⟨rfl, e⟩
      · rw [if_neg e]; exact Or.inr ⟨rfl, by omega⟩
theorem KN_0 (hT : T b < 256) : KN T z b = 0 ↔ ¬ b < z := by
  unfold KN
  by_cases h : b < z
  · rw [if_pos h]
    refine ⟨fun e => ?_, fun x => absurd h x⟩
    rcases kd_s (z := z) hT with ⟨_, e1 | ⟨w, h5, h6, e1, _⟩⟩ | ⟨_, _, e1 | e1⟩ | ⟨_, _, e1 | e1⟩ <;> omega
  · rw [if_neg h]; exact ⟨fun _ => h, fun _ => rfl⟩
theorem KN_lt (hT : T b < 256) : KN T z b < 320 := by
  unfold KN
  split
  · rcases kd_s (z := z) hT with ⟨_, e1 | ⟨w, h5, h6, e1, _⟩⟩ | ⟨_, _, e1 | e1⟩ | ⟨_, _, e1 | e1⟩ <;> omega
  · omega
/-- a word stands there -/
theorem KN_w (hT : T b < 256) {w : Nat} (hw : 5 ≤ w ∧ w < 24) : KN T z b = 296 + w ↔ b < z ∧ isLe (T b) = true ∧ wrd T b (eot T z b) w = true := by
  unfold KN
  by_cases h : b < z
  · rw [if_pos h]
    refine ⟨fun e => ?_, fun x => ?_⟩
    · rcases kd_s (z := z) hT with ⟨c, e1 | ⟨v, h5, h6, e1, hv⟩⟩ | ⟨_, _, e1 | e1⟩ | ⟨_, _, e1 | e1⟩
      · omega
      · have : v = w := by omega
        subst this
        exact ⟨h, c, hv⟩
      all_goals omega
    · unfold kd
      rw [if_pos x.2.1]
      exact kow_w hw x.2.2
  · rw [if_neg h]
    exact ⟨fun e => by omega, fun x => absurd x.1 h⟩
/-- a sign stands there -/
theorem KN_s (hT : T b < 256) {c : Nat} (hc : 32 < c ∧ c < 256 ∧ isLe c = false ∧ isDi c = false) : KN T z b = c ↔ b < z ∧ T b = c := by
  unfold KN
  by_cases h : b < z
  · rw [if_pos h]
    refine ⟨fun e => ?_, fun x => ?_⟩
    · rcases kd_s (z := z) hT with ⟨_, e1 | ⟨v, h5, h6, e1, hv⟩⟩ | ⟨_, _, e1 | e1⟩ | ⟨_, _, e1 | e1⟩
      all_goals first | omega | exact ⟨h, by omega⟩
    · unfold kd
      rw [x.2, hc.2.2.1, hc.2.2.2]
      rw [if_neg (by decide), if_neg (by decide), if_pos hc.1]
  · rw [if_neg h]
    exact ⟨fun e => by omega, fun x => absurd x.1 h⟩
/-- a number stands there -/
theorem KN_2 (hT : T b < 256) : KN T z b = 2 ↔ b < z ∧ isDi (T b) = true ∧ eot T z b - b ≤ 3 := by
  unfold KN
  by_cases h : b < z
  · rw [if_pos h]
    refine ⟨fun e => ?_, fun x => ?_⟩
    · rcases kd_s (z := z) hT with ⟨_, e1 | ⟨v, h5, h6, e1, hv⟩⟩ | ⟨d, _, e1 | e1⟩ | ⟨_, _, e1 | e1⟩
      all_goals first | omega | exact ⟨h, d, e1.2⟩
    · rcases kd_s (z := z) hT with ⟨c, _⟩ | ⟨d, _, e1 | e1⟩ | ⟨_, d, _⟩
      · have h1 := x.2.1
        rw [isDi_i] at h1
        rw [isLe_i] at c
        omega
      · exact e1.1
      · omega
      · rw [d] at x; exact absurd x.2.1 (by decide)
  · rw [if_neg h]
    exact ⟨fun e => by omega, fun x => absurd x.1 h⟩
end TXT
