-- texts: the reference's terminals
theorem sgn_lo : ∀ c, c < 128 → sgn c = nI c := by decide +kernel
theorem sgn_hi : ∀ c, c < 256 → 128 ≤ c → sgn c < 0 := by decide +kernel
/-- the text that is read -/
def TQ (μ : Mm) (T : Nat → Nat) (z : Nat) : Prop := μ (0, 0) 14 = nI z ∧ z ≤ 400 ∧ (∀ i, T i < 256) ∧ ∀ i, i < 400 → μ (11, 0) i = sgn (T i)
def PB (μ : Mm) (p b : Nat) : Mm := mrow μ (0, 0) (upd (upd (μ (0, 0)) 13 (nI p)) 15 (nI b))
/-- what reading changes -/
def QF (μ a : Mm) : Prop := (∀ q : Ky, q ≠ (0, 0) → a q = μ q) ∧ ∀ i, i ≠ 13 → i ≠ 15 → a (0, 0) i = μ (0, 0) i
theorem QF.rf {μ : Mm} : QF μ μ := ⟨fun _ _ => rfl, fun _ _ _ => rfl⟩
theorem QF.tr {μ a b : Mm} (h : QF μ a) (h2 : QF a b) : QF μ b := ⟨fun q hq => (h2.1 q hq).trans (h.1 q hq), fun i h0 h1 => (h2.2 i h0 h1).trans (h.2 i h0 h1)⟩
theorem QF.k {μ a : Mm} (h : QF μ a) {k i : Nat} (hk : k ≠ 0) : a (k, i) = μ (k, i) := h.1 _ (fun e => hk (congrArg Prod.fst e))
/-- the next thing that stands there begins at b -/
def QC (μ : Mm) (T : Nat → Nat) (z b : Nat) : Prop := TQ μ T z ∧ ∃ p, p ≤ z ∧ μ (0, 0) 13 = nI p ∧ nb T z p = b
section TRM
variable {μ : Mm} {T : Nat → Nat} {z p b : Nat}
theorem PB_13 (μ : Mm) (p b : Nat) : PB μ p b (0, 0) 13 = nI p := by unfold PB; rw [mrow_self, q_upd, if_neg (by omega), q_upd, if_pos rfl]
theorem PB_15 (μ : Mm) (p b : Nat) : PB μ p b (0, 0) 15 = nI b := by unfold PB; rw [mrow_self, q_upd, if_pos rfl]
theorem PB_QF (μ : Mm) (p b : Nat) : QF μ (PB μ p b) := by
  unfold PB
  exact ⟨fun q hq => mrow_ne hq, fun i h0 h1 => by rw [mrow_self, q_upd, if_neg h1, q_upd, if_neg h0]⟩
theorem TQ.to (h : TQ μ T z) {a : Mm} (hF : QF μ a) : TQ a T z := ⟨by rw [hF.2 _ (by omega) (by omega)]; exact h.1, h.2.1, h.2.2.1, fun i hi => by rw [hF.k (by omega)]; exact h.2.2.2 i hi⟩
theorem PB_PB (μ : Mm) (p b p' b' : Nat) : PB (PB μ p b) p' b' = PB μ p' b' := by
  unfold PB
  rw [mrow_mrow, mrow_self]
  congr 1
  funext i
  rw [q_upd, q_upd, q_upd, q_upd, q_upd, q_upd]
  by_cases c : i = 15
  · rw [if_pos c, if_pos c]
  · rw [if_neg c, if_neg c]
    by_cases d : i = 13
    · simp [q_upd, c, d]
    · simp [q_upd, c, d]
theorem PB_p (μ : Mm) (p b p' : Nat) : mst (PB μ p b) (0, 0) 13 (nI p') = PB μ p' b := by
  rw [← PB_PB μ p b p' b]
  unfold PB
  rw [mst_row, mrow_self]
  congr 1
  funext i
  rw [q_upd, q_upd, q_upd, q_upd, q_upd, q_upd]
  by_cases c : i = 13
  · rw [if_pos c, if_neg (by omega), if_pos c]
  · rw [if_neg c]
    by_cases d : i = 15
    · simp [q_upd, c, d]
    · simp [q_upd, c, d]
theorem q_isAt (h : TQ μ T z) (h13 : μ (0, 0) 13 = nI p) (hp : p ≤ z) {lo hi : Nat} (hh : lo ≤ hi ∧ hi < 128) : f_X11_isAt μ (nI lo) (nI hi) = some (bI (decide (p < z ∧ lo ≤ T p ∧ T p ≤ hi))) := by
  have hz := h.2.1
  rw [f_X11_isAt, h13, h.1]
  by_cases c : p < z
  · have ht := h.2.2.2 p (by omega)
    have h256 := h.2.2.1 p
    rw [if_neg (by rw [q_le (by omega) (by omega)]; omega), q_ck (by omega) (by omega), q_cl (by omega), ht, q_ck (by omega) (by omega)]
    by_cases d : T p < 128
    · have q1 : (nI (T p) < nI lo) = (T p < lo) := q_lt (by omega) (by omega)
      have q2 : (nI hi < nI (T p)) = (hi < T p) := q_lt (by omega) (by omega)
      rw [sgn_lo _ d]
      by_cases c1 : T p < lo
      · rw [if_pos (q1.mpr c1), decide_eq_false (by omega)]; rfl
      · rw [if_neg (fun x => c1 (q1.mp x))]
        by_cases c2 : hi < T p
        · rw [if_pos (q2.mpr c2), decide_eq_false (by omega)]; rfl
        · rw [if_neg (fun x => c2 (q2.mp x)), decide_eq_true (by omega)]; rfl
    · have h1 := sgn_hi _ h256 (by omega)
      have h2 : nI 0 ≤ nI lo := nI_le (by omega) (by omega)
      rw [if_pos (Int32.lt_of_lt_of_le h1 h2), decide_eq_false (by omega)]; rfl
  · rw [if_pos (by rw [q_le (by omega) (by omega)]; omega), decide_eq_false (by omega)]; rfl
theorem q_blanks (h : TQ μ T z) (h13 : μ (0, 0) 13 = nI p) (hp : p ≤ z) : f_X11_blanks μ = some (PB μ (nb T z p) (nb T z p)) := by
  have hz := h.2.1
  have ok := scn_ok (P := isBl) (T := T) (z := z) p
  have hn : nb T z p ≤ z := ok.2.1 hp
  have hge : p ≤ nb T z p := ok.1
  obtain ⟨PP, hPP⟩ : ∃ PP : Nat → Mm, PP = fun k => mrow μ (0, 0) (upd (μ (0, 0)) 13 (nI (p + k))) := ⟨_, rfl⟩
  have h0 : PP 0 = μ := by
    rw [hPP]
    show mrow μ (0, 0) (upd (μ (0, 0)) 13 (nI p)) = μ
    have : upd (μ (0, 0)) 13 (nI p) = μ (0, 0) := by
      funext i
      rw [q_upd]
      by_cases c : i = 13
      · rw [if_pos c, c, h13]
      · rw [if_neg c]
    rw [this, mrow_id]
  have e13 : ∀ k, PP k (0, 0) 13 = nI (p + k) := fun k => by rw [hPP]; show mrow μ (0, 0) _ (0, 0) 13 = _; rw [mrow_self, q_upd, if_pos rfl]
  have hQ : ∀ k, TQ (PP k) T z := fun k => h.to (by
    rw [hPP]
    exact ⟨fun q hq => mrow_ne hq, fun i g0 g1 => by show mrow μ (0, 0) _ (0, 0) i = _; rw [mrow_self, q_upd, if_neg g0]⟩)
  refine Wh_it (nb T z p - p) PP h0.symm (fun k hk => ?_) ?_
  · have hb := ok.2.2.2 (p + k) (by omega) (by show p + k < nb T z p; omega)
    rw [isBl_i] at hb
    rw [f_X11_blanks_L0, show (32 : Int32) = nI 32 from rfl, q_isAt (hQ k) (e13 k) (by omega) (by omega), decide_eq_true (by omega), Option.bind_some, if_neg (show ¬ bI true = 0 by decide), e13, show (1 : Int32) = nI 1 from rfl, nI_add]
    have : mst (PP k) (0, 0) 13 (nI (p + k + 1)) = PP (k + 1) := by
      rw [hPP]
      show mst (mrow μ (0, 0) (upd (μ (0, 0)) 13 (nI (p + k)))) (0, 0) 13 (nI (p + k + 1)) = mrow μ (0, 0) (upd (μ (0, 0)) 13 (nI (p + (k + 1))))
      rw [mst_row, mrow_mrow, mrow_self, upd_upd]
      rfl
    rw [this]
  · have hs := ok.2.2.1
    rw [isBl_i] at hs
    have hs' : ¬ (nb T z p < z ∧ T (nb T z p) = 32) := hs
    have ee : p + (nb T z p - p) = nb T z p := by omega
    rw [f_X11_blanks_L0, show (32 : Int32) = nI 32 from rfl, q_isAt (p := nb T z p) (hQ _) (by rw [e13, ee]) (by omega) (by omega), decide_eq_false (by omega), Option.bind_some, if_pos (show bI false = 0 from rfl), e13, ee]
    have : mst (PP (nb T z p - p)) (0, 0) 15 (nI (nb T z p)) = PB μ (nb T z p) (nb T z p) := by
      rw [hPP]
      show mst (mrow μ (0, 0) (upd (μ (0, 0)) 13 (nI (p + (nb T z p - p))))) (0, 0) 15 _ = _
      rw [ee, mst_row, mrow_mrow, mrow_self]
      rfl
    rw [this]
    rfl
theorem q_letters (h : TQ μ T z) (h13 : μ (0, 0) 13 = nI p) (hp : p ≤ z) : f_X11_letters μ = some (PB μ (scn isLe T z (nb T z p)) (nb T z p)) := by
  have hz := h.2.1
  have hn := (nb_ok (T := T) (z := z) p).2.1 hp
  have ok := scn_ok (P := isLe) (T := T) (z := z) (nb T z p)
  have hQ : ∀ k b, TQ (PB μ k b) T z := fun k b => h.to (PB_QF _ _ _)
  have hle := ok.2.1 hn
  rw [f_X11_letters, q_blanks h h13 hp, Option.bind_some]
  obtain ⟨b, hb⟩ : ∃ b, b = nb T z p := ⟨_, rfl⟩
  rw [← hb] at ok hn hle ⊢
  refine Wh_it (scn isLe T z b - b) (fun k => PB μ (b + k) b) rfl (fun k hk => ?_) ?_
  · have hb2 := ok.2.2.2 (b + k) (by omega) (by omega)
    rw [isLe_i] at hb2
    rw [f_X11_letters_L4, show (97 : Int32) = nI 97 from rfl, show (122 : Int32) = nI 122 from rfl, q_isAt (hQ _ _) (PB_13 _ _ _) (by omega) (by omega), decide_eq_true (by omega), Option.bind_some, if_neg (show ¬ bI true = 0 by decide), PB_13, show (1 : Int32) = nI 1 from rfl, nI_add, PB_p]
    rfl
  · have hs := ok.2.2.1
    rw [isLe_i] at hs
    have ee : b + (scn isLe T z b - b) = scn isLe T z b := by have := ok.1; omega
    show f_X11_letters_L4 (PB μ (b + (scn isLe T z b - b)) b) = _
    rw [ee, f_X11_letters_L4, show (97 : Int32) = nI 97 from rfl, show (122 : Int32) = nI 122 from rfl, q_isAt (hQ _ _) (PB_13 _ _ _) (by omega) (by omega), decide_eq_false (by omega), Option.bind_some, if_pos (show bI false = 0 from rfl)]
    rfl
-- words
def wlB (w : Nat) : Bool := decide (0 < lenS w ∧ lenS w < 10 ∧ ∀ i, i < lenS w → nI 97 ≤ (bytS w).getD i 0 ∧ (bytS w).getD i 0 ≤ nI 122)
theorem wl_all : ∀ w, w < 24 → 5 ≤ w → wlB w = true := by decide +kernel
theorem wl {w : Nat} (hw : 5 ≤ w ∧ w < 24) : 0 < lenS w ∧ lenS w < 10 ∧ ∀ i, i < lenS w → nI 97 ≤ (bytS w).getD i 0 ∧ (bytS w).getD i 0 ≤ nI 122 := of_decide_eq_true (wl_all w hw.2 hw.1)
theorem sgn_eq {c : Nat} (hc : c < 256) {x : Int32} (h1 : nI 97 ≤ x) (h2 : x ≤ nI 122) : (sgn c = x) = (nI c = x) := by
  by_cases d : c < 128
  · rw [sgn_lo c d]
  · have g1 := sgn_hi c hc (by omega)
    refine propext ⟨fun e => ?_, fun e => ?_⟩
    · rw [e] at g1
      exact absurd (Int32.lt_of_le_of_lt h1 g1) (by decide)
    · rw [← e, q_le (by omega) (by omega)] at h2
      omega
theorem q_isWord (h : TQ μ T z) {w e : Nat} (hw : 5 ≤ w ∧ w < 24) (h13 : μ (0, 0) 13 = nI e) (h15 : μ (0, 0) 15 = nI b) (hbe : b ≤ e) (he : e ≤ z) : f_X11_isWord w μ = some (bI (wrd T b e w)) := by
  have hz := h.2.1
  have hl := wl hw
  have q1 : (nI (e - b) = nI (lenS w)) = (e - b = lenS w) := q_eq (by omega) (by omega)
  rw [f_X11_isWord, h13, h15, q_sub hbe]
  by_cases c : e - b = lenS w
  · rw [if_pos (q1.mpr c), f_X11_isWord_J21]
    have hh : ∃ r, Wh (fun z : Int32 × Int32 => f_X11_isWord_L24 w μ z.1 z.2) ((1 : Int32), (0 : Int32)) = some r ∧ r = bI (wrd T b e w) := by
      refine Wh_inv (lenS w) (fun k s => (s = (nI 1, nI k) ∧ ∀ i, i < k → nI (T (b + i)) = (bytS w).getD i 0) ∨ (s.1 = nI 0 ∧ wrd T b e w = false)) _ (Or.inl ⟨rfl, fun i hi => by omega⟩) ?_ ?_
      · intro k s hk hI
        rcases hI with ⟨rfl, hI⟩ | ⟨hI, hf⟩
        · left
          have ht := h.2.2.2 (b + k) (by omega)
          have h256 := h.2.2.1 (b + k)
          have hx := hl.2.2 k hk
          have hse := sgn_eq h256 hx.1 hx.2
          have hstep : f_X11_isWord_L24 w μ (nI 1) (nI k) = (if (sgn (T (b + k)) = (bytS w).getD k 0) then some (.inl ((1 : Int32), nI (k + 1))) else (some (.inl ((0 : Int32), nI (k + 1))))) := by
            rw [f_X11_isWord_L24, if_neg (show ¬ nI 1 = 0 by decide), if_neg (by rw [q_le (by omega) (by omega)]; omega), h15, nI_add, q_ck (by omega) (by omega), q_cl (by omega), q_ck (by omega) hk, q_cl (by omega), ht, show (1 : Int32) = nI 1 from rfl, nI_add]
          by_cases d : nI (T (b + k)) = (bytS w).getD k 0
          · refine ⟨(nI 1, nI (k + 1)), by rw [hstep, if_pos (hse.mpr d)]; rfl, Or.inl ⟨rfl, fun i hi => ?_⟩⟩
            by_cases ei : i = k
            · rw [ei]; exact d
            · exact hI i (by omega)
          · refine ⟨(nI 0, nI (k + 1)), by rw [hstep, if_neg (fun x => d (hse.mp x))]; rfl, Or.inr ⟨rfl, ?_⟩⟩
            unfold wrd
            exact decide_eq_false (fun x => d (x.2 k hk))
        · right
          obtain ⟨s1, s2⟩ := s
          have hI' : s1 = nI 0 := hI
          refine ⟨nI 0, ?_, by rw [hf]; rfl⟩
          show f_X11_isWord_L24 w μ s1 s2 = _
          rw [hI', f_X11_isWord_L24, if_pos (show nI 0 = 0 from rfl), q_cb0]
          rfl
      · intro s hI
        rcases hI with ⟨rfl, hI⟩ | ⟨hI, hf⟩
        · refine ⟨nI 1, ?_, ?_⟩
          · show f_X11_isWord_L24 w μ (nI 1) (nI (lenS w)) = _
            rw [f_X11_isWord_L24, if_neg (show ¬ nI 1 = 0 by decide), if_pos (Int32.le_refl _), q_cb1]
            rfl
          · unfold wrd
            rw [decide_eq_true ⟨c, hI⟩]; rfl
        · obtain ⟨s1, s2⟩ := s
          have hI' : s1 = nI 0 := hI
          refine ⟨nI 0, ?_, by rw [hf]; rfl⟩
          show f_X11_isWord_L24 w μ s1 s2 = _
          rw [hI', f_X11_isWord_L24, if_pos (show nI 0 = 0 from rfl), q_cb0]
          rfl
    obtain ⟨r, e1, e2⟩ := hh
    rw [e1, e2]
  · have hf : wrd T b e w = false := by
      unfold wrd
      exact decide_eq_false (fun x => c x.1)
    rw [if_neg (fun x => c (q1.mp x)), f_X11_isWord_J21, hf]
    refine Wh_end ?_
    show f_X11_isWord_L24 w μ (0 : Int32) (0 : Int32) = _
    rw [f_X11_isWord_L24, if_pos rfl, show (0 : Int32) = nI 0 from rfl, q_cb0]
    rfl
/-- what a word is, by the thing that stands there -/
theorem wrd_KN (hT : ∀ i, T i < 256) (hb : b ≤ z) {w : Nat} (hw : 5 ≤ w ∧ w < 24) : wrd T b (scn isLe T z b) w = decide (KN T z b = 296 + w) := by
  have hl := wl hw
  have hk := KN_w (z := z) (hT b) hw
  by_cases c : b < z ∧ isLe (T b) = true
  · by_cases d : wrd T b (scn isLe T z b) w = true
    · rw [d, decide_eq_true (hk.mpr ⟨c.1, c.2, by rw [eot_le c.2]; exact d⟩)]
    · rw [(Bool.not_eq_true _).mp d, decide_eq_false (fun x => d (by rw [← eot_le c.2]; exact (hk.mp x).2.2))]
  · rw [scn_no c, decide_eq_false (fun x => c ⟨(hk.mp x).1, (hk.mp x).2.1⟩)]
    unfold wrd
    exact decide_eq_false (fun x => by omega)
theorem QC.le (h : QC μ T z b) : b ≤ z ∧ nb T z b = b ∧ (b < z → T b ≠ 32) := by
  obtain ⟨h1, p, hp, _, e⟩ := h
  have := nb_ok (T := T) (z := z) p
  rw [e] at this
  exact ⟨this.2.1 hp, by rw [← e]; exact nb_nb p, this.2.2⟩
theorem QC.PB (h : TQ μ T z) {p b c : Nat} (hp : p ≤ z) (hc : nb T z p = c) : QC (PB μ p b) T z c := ⟨h.to (PB_QF _ _ _), p, hp, PB_13 _ _ _, hc⟩
theorem t_blanks (h : QC μ T z b) : ∃ a, f_X11_blanks μ = some a ∧ QF μ a ∧ a (0, 0) 15 = nI b ∧ a (0, 0) 13 = nI b ∧ QC a T z b := by
  have hle := h.le
  obtain ⟨h1, p, hp, h13, e⟩ := h
  refine ⟨PB μ b b, by rw [q_blanks h1 h13 hp, e], PB_QF _ _ _, PB_15 _ _ _, PB_13 _ _ _, QC.PB h1 hle.1 hle.2.1⟩
theorem t_letters (h : QC μ T z b) : ∃ a, f_X11_letters μ = some a ∧ QF μ a ∧ a (0, 0) 15 = nI b ∧ a (0, 0) 13 = nI (scn isLe T z b) ∧ TQ a T z ∧ (∀ w, 5 ≤ w → w < 24 → f_X11_isWord w a = some (bI (decide (KN T z b = 296 + w)))) ∧ (b < z ∧ isLe (T b) = true → QC a T z (nx T z b)) ∧ (¬ (b < z ∧ isLe (T b) = true) → a (0, 0) 13 = nI b ∧ QC a T z b) := by
  have hle := h.le
  obtain ⟨h1, p, hp, h13, e⟩ := h
  have ok := scn_ok (P := isLe) (T := T) (z := z) b
  refine ⟨PB μ (scn isLe T z b) b, by rw [q_letters h1 h13 hp, e], PB_QF _ _ _, PB_15 _ _ _, PB_13 _ _ _, h1.to (PB_QF _ _ _), fun w h5 h24 => ?_, fun c => ?_, fun c => ?_⟩
  · rw [q_isWord (h1.to (PB_QF _ _ _)) ⟨h5, h24⟩ (PB_13 _ _ _) (PB_15 _ _ _) ok.1 (ok.2.1 hle.1), wrd_KN h1.2.2.1 hle.1 ⟨h5, h24⟩]
  · refine QC.PB h1 (ok.2.1 hle.1) ?_
    unfold nx
    rw [eot_le c.2]
  · rw [scn_no c]
    exact ⟨PB_13 _ _ _, QC.PB h1 hle.1 hle.2.1⟩
theorem t_passes (h : QC μ T z b) {w : Nat} (hw : 5 ≤ w ∧ w < 24) : ∃ a, f_X11_passes w μ = some (bI (decide (KN T z b = 296 + w)), a) ∧ QF μ a ∧ a (0, 0) 15 = nI b ∧ QC a T z (if KN T z b = 296 + w then nx T z b else b) := by
  have hle := h.le
  have hk := KN_w (z := z) (h.1.2.2.1 b) hw
  obtain ⟨a, e1, hF, e15, e13, hQ, hW, hy, hn⟩ := t_letters h
  have e2 := hW w hw.1 hw.2
  by_cases c : KN T z b = 296 + w
  · rw [decide_eq_true c] at e2 ⊢
    refine ⟨a, ?_, hF, e15, by rw [if_pos c]; exact hy ⟨(hk.mp c).1, (hk.mp c).2.1⟩⟩
    rw [f_X11_passes, e1, Option.bind_some, e2, Option.bind_some, if_neg (show ¬ bI true = 0 by decide)]
    rfl
  · rw [decide_eq_false c] at e2 ⊢
    have hF2 : QF a (mst a (0, 0) 13 (a (0, 0) 15)) := by
      rw [mst_row]
      exact ⟨fun q hq => mrow_ne hq, fun i g0 g1 => by rw [mrow_self, q_upd, if_neg g0]⟩
    refine ⟨mst a (0, 0) 13 (a (0, 0) 15), ?_, hF.tr hF2, ?_, ?_⟩
    · rw [f_X11_passes, e1, Option.bind_some, e2, Option.bind_some, if_pos (show bI false = 0 from rfl)]
      rfl
    · rw [mst_row, mrow_self, q_upd, if_neg (by omega)]; exact e15
    · rw [if_neg c]
      exact ⟨hQ.to hF2, b, hle.1, by rw [mst_row, mrow_self, q_upd, if_pos rfl]; exact e15, hle.2.1⟩
theorem t_sign (h : QC μ T z b) {c : Nat} (hc : 32 < c ∧ c < 128 ∧ isLe c = false ∧ isDi c = false) : ∃ a, f_X11_sign μ (nI c) = some (bI (decide (KN T z b = c)), a) ∧ QF μ a ∧ a (0, 0) 15 = nI b ∧ QC a T z (if KN T z b = c then nx T z b else b) := by
  have hle := h.le
  have hk := KN_s (z := z) (h.1.2.2.1 b) (c := c) (by refine ⟨hc.1, by omega, hc.2.2⟩)
  obtain ⟨h1, p, hp, h13, e⟩ := h
  have hQ : ∀ p b, TQ (PB μ p b) T z := fun p b => h1.to (PB_QF _ _ _)
  have e1 := q_isAt (hQ b b) (PB_13 μ b b) hle.1 (lo := c) (hi := c) (by omega)
  by_cases d : KN T z b = c
  · have hd := hk.mp d
    have ee : eot T z b = b + 1 := eot_sg (by rw [hd.2]; exact hc.2.2.1) (by rw [hd.2]; exact hc.2.2.2)
    rw [decide_eq_true (by omega)] at e1
    rw [decide_eq_true d]
    refine ⟨PB μ (b + 1) b, ?_, PB_QF _ _ _, PB_15 _ _ _, ?_⟩
    · rw [f_X11_sign, q_blanks h1 h13 hp, e, Option.bind_some, e1, Option.bind_some, if_neg (show ¬ bI true = 0 by decide), PB_13, show (1 : Int32) = nI 1 from rfl, nI_add, PB_p]
      rfl
    · rw [if_pos d]
      exact QC.PB h1 (by omega) (by unfold nx; rw [ee])
  · have hd : ¬ (b < z ∧ T b = c) := fun x => d (hk.mpr x)
    rw [decide_eq_false (by omega)] at e1
    rw [decide_eq_false d]
    refine ⟨PB μ b b, ?_, PB_QF _ _ _, PB_15 _ _ _, ?_⟩
    · rw [f_X11_sign, q_blanks h1 h13 hp, e, Option.bind_some, e1, Option.bind_some, if_pos (show bI false = 0 from rfl)]
      rfl
    · rw [if_neg d]
      exact QC.PB h1 hle.1 hle.2.1
/-- a number between bounds stands there -/
def okN (T : Nat → Nat) (z b : Nat) (lo hi : Int32) : Prop := KN T z b = 2 ∧ ¬ nI (nmv T z b) < lo ∧ nI (nmv T z b) ≤ hi
theorem t_number (h : QC μ T z b) (lo hi : Int32) : ∃ a, QF μ a ∧ a (0, 0) 15 = nI b ∧ (okN T z b lo hi → f_X11_number μ lo hi = some (nI (nmv T z b), a) ∧ QC a T z (nx T z b)) ∧ (¬ okN T z b lo hi → f_X11_number μ lo hi = some (-nI 1, a)) := by
  have hle := h.le
  have hk := KN_2 (z := z) (h.1.2.2.1 b)
  obtain ⟨h1, p, hp, h13, e⟩ := h
  have hz := h1.2.1
  have hQ : ∀ p b, TQ (PB μ p b) T z := fun p b => h1.to (PB_QF _ _ _)
  have ok := scn_ok (P := isDi) (T := T) (z := z) b
  have hle2 := ok.2.1 hle.1
  obtain ⟨e0, he0⟩ : ∃ e0, e0 = scn isDi T z b := ⟨_, rfl⟩
  rw [← he0] at ok hle2
  have hdi : ∀ i, b ≤ i → i < e0 → 48 ≤ T i ∧ T i ≤ 57 := fun i h0 h2 => by
    have := (ok.2.2.2 i h0 h2).2
    rw [isDi_i] at this
    exact this
  have hvl : vl T b (min (e0 - b) 3) ≤ 999 := vl_b _ (Nat.min_le_right _ _) (fun i hi => (hdi _ (by omega) (by omega)).2)
  have hloop : ∀ r, f_X11_number_L6 lo hi (PB μ e0 b) (nI (vl T b (min (e0 - b) 3))) = some (.inr r) → f_X11_number μ lo hi = some r := by
    intro r hr
    rw [f_X11_number, q_blanks h1 h13 hp, e, Option.bind_some]
    refine Wh_it (e0 - b) (fun k => (PB μ (b + k) b, nI (vl T b (min k 3)))) ?_ (fun k hk2 => ?_) ?_
    · rfl
    · have hb2 := hdi (b + k) (by omega) (by omega)
      have hz2 := (ok.2.2.2 (b + k) (by omega) (by omega)).1
      show f_X11_number_L6 lo hi (PB μ (b + k) b) (nI (vl T b (min k 3))) = some (.inl (PB μ (b + (k + 1)) b, nI (vl T b (min (k + 1) 3))))
      rw [f_X11_number_L6, show (48 : Int32) = nI 48 from rfl, show (57 : Int32) = nI 57 from rfl, q_isAt (hQ _ _) (PB_13 _ _ _) (by omega) (by omega), decide_eq_true (by omega), Option.bind_some, if_neg (show ¬ bI true = 0 by decide), PB_13, PB_15, q_sub (by omega), Nat.add_sub_cancel_left, show (1 : Int32) = nI 1 from rfl, nI_add, PB_p]
      by_cases c3 : 3 ≤ k
      · rw [if_pos (by rw [show (3 : Int32) = nI 3 from rfl, q_le (by omega) (by omega)]; exact c3), show min (k + 1) 3 = 3 by omega, show min k 3 = 3 by omega]
        rfl
      · have hv : vl T b k ≤ 999 := vl_b _ (by omega) (fun i hi => (hdi _ (by omega) (by omega)).2)
        have ht : PB μ (b + k) b (11, 0) (b + k) = nI (T (b + k)) := by
          rw [(PB_QF μ (b + k) b).k (by omega), h1.2.2.2 _ (by omega), sgn_lo _ (by omega)]
        rw [if_neg (by rw [show (3 : Int32) = nI 3 from rfl, q_le (by omega) (by omega)]; exact c3), q_ck (by omega) (by omega), q_cl (by omega), ht, show min (k + 1) 3 = k + 1 by omega, show min k 3 = k by omega, show (10 : Int32) = nI 10 from rfl, pk_mul, nI_add, q_sub (by omega)]
        have : 10 * vl T b k + T (b + k) - 48 = vl T b (k + 1) := by
          show _ = 10 * vl T b k + (T (b + k) - 48)
          omega
        rw [this]
        rfl
    · have ee : b + (e0 - b) = e0 := by omega
      show f_X11_number_L6 lo hi (PB μ (b + (e0 - b)) b) (nI (vl T b (min (e0 - b) 3))) = _
      rw [ee]
      exact hr
  have hend : f_X11_number_L6 lo hi (PB μ e0 b) (nI (vl T b (min (e0 - b) 3))) = Option.map Sum.inr (if nI e0 = nI b then some ((-1 : Int32), PB μ e0 b) else (if (3 : Int32) < nI (e0 - b) then some ((-1 : Int32), PB μ e0 b) else (if nI (vl T b (min (e0 - b) 3)) < lo then some ((-1 : Int32), PB μ e0 b) else (if nI (vl T b (min (e0 - b) 3)) ≤ hi then some (nI (vl T b (min (e0 - b) 3)), PB μ e0 b) else (some ((-1 : Int32), PB μ e0 b)))))) := by
    have hs := ok.2.2.1
    rw [isDi_i] at hs
    rw [f_X11_number_L6, show (48 : Int32) = nI 48 from rfl, show (57 : Int32) = nI 57 from rfl, q_isAt (hQ _ _) (PB_13 _ _ _) (by omega) (by omega), decide_eq_false (by omega), Option.bind_some, if_pos (show bI false = 0 from rfl), PB_13, PB_15, q_sub ok.1]
  have q1 : (nI e0 = nI b) = (e0 = b) := q_eq (by omega) (by omega)
  have q2 : ((3 : Int32) < nI (e0 - b)) = (3 < e0 - b) := q_lt (a := 3) (by omega) (by omega)
  refine ⟨PB μ e0 b, PB_QF _ _ _, PB_15 _ _ _, fun g => ?_, fun g => ?_⟩
  · have g2 := hk.mp g.1
    have ee : eot T z b = e0 := by rw [he0]; exact eot_di g2.1 g2.2.1
    have hgo : b < e0 := by
      have := eot_ok (T := T) g2.1
      omega
    have env : vl T b (min (e0 - b) 3) = nmv T z b := by
      unfold nmv
      rw [if_pos g2.2.1, ee]
    refine ⟨hloop _ ?_, QC.PB h1 hle2 (by unfold nx; rw [ee])⟩
    rw [hend, if_neg (fun x => by have := q1.mp x; omega), if_neg (fun x => by have := q2.mp x; omega), env, if_neg g.2.1, if_pos g.2.2]
    rfl
  · refine hloop _ ?_
    rw [hend]
    by_cases c1 : e0 = b
    · rw [if_pos (q1.mpr c1)]; rfl
    · rw [if_neg (fun x => c1 (q1.mp x))]
      by_cases c2 : 3 < e0 - b
      · rw [if_pos (q2.mpr c2)]; rfl
      · rw [if_neg (fun x => c2 (q2.mp x))]
        have hbz := (ok.2.2.2 b (Nat.le_refl _) (by omega))
        have ee : eot T z b = e0 := by rw [he0]; exact eot_di hbz.1 hbz.2
        have env : vl T b (min (e0 - b) 3) = nmv T z b := by
          unfold nmv
          rw [if_pos hbz.2, ee]
        have h2 : KN T z b = 2 := hk.mpr ⟨hbz.1, hbz.2, by omega⟩
        rw [env]
        by_cases c3 : nI (nmv T z b) < lo
        · rw [if_pos c3]; rfl
        · rw [if_neg c3, if_neg (fun x => g ⟨h2, c3, x⟩)]; rfl
end TRM
