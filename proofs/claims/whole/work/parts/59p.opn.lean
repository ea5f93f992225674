-- texts: the class cuts a text into things
/-- what a step changes -/
def KS (c : Nat) (μ a : Mm) : Prop := (∀ q : Ky, q ≠ (6, c) → a q = μ q) ∧ ∀ i, i ≠ 4 → i ≠ 8 → i ≠ 9 → i ≠ 10 → a (6, c) i = μ (6, c) i
theorem KS.F {c : Nat} {μ a : Mm} (h : KS c μ a) : KF c μ a := ⟨h.1, fun i hi => h.2 i (by omega) (by omega) (by omega) (by omega)⟩
section OPN
variable {sh : Sh} {ln : Nat → Nat} {μ : Mm} {c : Nat} {T : Nat → Nat} {z b : Nat}
/-- a thing is kept -/
def KP (c : Nat) (μ a : Mm) (T : Nat → Nat) (z b k : Nat) : Prop := (∀ q : Ky, q ≠ (6, c) → q ≠ (7, c) → q ≠ (8, c) → q ≠ (9, c) → a q = μ q) ∧ a (6, c) = upd (μ (6, c)) 3 (nI (k + 1)) ∧
  (a (7, c) k = nI (kd T z b) ∧ a (8, c) k = nI b ∧ a (9, c) k = nI (nmv T z b)) ∧ ∀ i, i ≠ k → a (7, c) i = μ (7, c) i ∧ a (8, c) i = μ (8, c) i ∧ a (9, c) i = μ (9, c) i
theorem kp_mk {k : Nat} {x v : Int32} {g : Nat → Int32} (hx : x = nI (kd T z b)) (hv : v = nI (nmv T z b)) (hg : g k = v) (hg2 : ∀ i, i ≠ k → g i = μ (9, c) i) :
    KP c μ (mrow (mrow (mrow (mrow μ (8, c) (upd (μ (8, c)) k (nI b))) (9, c) g) (7, c) (upd (μ (7, c)) k x)) (6, c) (upd (μ (6, c)) 3 (nI (k + 1)))) T z b k := by
  refine ⟨fun q h6 h7 h8 h9 => by rw [mrow_ne h6, mrow_ne h7, mrow_ne h9, mrow_ne h8], by rw [mrow_self], ⟨?_, ?_, ?_⟩, fun i hi => ⟨?_, ?_, ?_⟩⟩
  · rw [mrow_neA (by omega), mrow_self, q_upd, if_pos rfl, hx]
  · rw [mrow_neA (by omega), mrow_neA (by omega), mrow_neA (by omega), mrow_self, q_upd, if_pos rfl]
  · rw [mrow_neA (by omega), mrow_neA (by omega), mrow_self, hg, hv]
  · rw [mrow_neA (by omega), mrow_self, q_upd, if_neg hi]
  · rw [mrow_neA (by omega), mrow_neA (by omega), mrow_neA (by omega), mrow_self, q_upd, if_neg hi]
  · rw [mrow_neA (by omega), mrow_neA (by omega), mrow_self, hg2 i hi]
theorem k_keep0 (h : TK 0 ln μ T z) (hb : b < z) {k : Nat} (hk : k < 400) (h3 : μ (6, 0) 3 = nI k) : ∃ a, f_X8_keep_0 sh ln μ (nI b) (nI (eot T z b)) = some a ∧ KP 0 μ a T z b k := by
  have hz := h.2.2.1
  have h256 := h.2.2.2.1
  have heo := eot_ok (T := T) hb
  obtain ⟨μ9, h9⟩ : ∃ μ9, μ9 = mrow (mrow μ (8, 0) (upd (μ (8, 0)) k (nI b))) (9, 0) (upd (μ (9, 0)) k (nI 0)) := ⟨_, rfl⟩
  have e6 : mst μ (8, 0) k (nI b) (6, 0) 3 = nI k := by rw [mst_row, mrow_neA (by omega)]; exact h3
  have em : mst (mst μ (8, 0) k (nI b)) (9, 0) k (0 : Int32) = μ9 := by rw [h9, mst_row, mst_row, mrow_neA (by omega)]; rfl
  have h9k : ∀ q : Ky, q ≠ (8, 0) → q ≠ (9, 0) → μ9 q = μ q := fun q g8 g9 => by rw [h9, mrow_ne g9, mrow_ne g8]
  have n6 : μ9 (6, 0) = μ (6, 0) := h9k _ (by simp) (by simp)
  have n7 : μ9 (7, 0) = μ (7, 0) := h9k _ (by simp) (by simp)
  have hT9 : TK 0 ln μ9 T z := by
    unfold TK at *
    rw [n6, h9k (12, 0) (by simp) (by simp)]
    exact h
  have e9 : μ9 (6, 0) 3 = nI k := by rw [n6]; exact h3
  have b9 := k_byteAt0 (sh := sh) hT9 (i := b) (by omega)
  have fin : ∀ x, ck 400 (μ9 (6, 0) 3) ((some (mst (mst μ9 (7, 0) (μ9 (6, 0) 3).toNatClampNeg x) (6, 0) 3 (((mst μ9 (7, 0) (μ9 (6, 0) 3).toNatClampNeg x) (6, 0) 3) + (1 : Int32)))).bind fun μ19 => some μ19) = some (mrow (mrow (mrow (mrow μ (8, 0) (upd (μ (8, 0)) k (nI b))) (9, 0) (upd (μ (9, 0)) k (nI 0))) (7, 0) (upd (μ (7, 0)) k x)) (6, 0) (upd (μ (6, 0)) 3 (nI (k + 1)))) := by
    intro x
    rw [e9, q_ck (by omega) hk, q_cl (by omega), Option.bind_some, mst_row, mst_row, mrow_neA (by omega), n7, n6, h3, show (1 : Int32) = nI 1 from rfl, nI_add, ← h9]
  rw [f_X8_keep_0, h3, if_neg (by rw [show (400 : Int32) = nI 400 from rfl, q_le (by omega) (by omega)]; omega), if_neg (by rw [show (400 : Int32) = nI 400 from rfl, q_le (by omega) (by omega)]; omega), if_pos (by rw [show (400 : Int32) = nI 400 from rfl, q_lt (by omega) (by omega)]; omega), q_ck (by omega) hk, q_cl (by omega), e6, q_ck (by omega) hk, q_cl (by omega), em, Option.bind_some, b9, Option.bind_some, k_isLetter (h256 b), Option.bind_some]
  by_cases c1 : isLe (T b) = true
  · have hd : isDi (T b) = false := by
      refine (Bool.not_eq_true _).mp (fun x => ?_)
      rw [isDi_i] at x
      rw [isLe_i] at c1
      omega
    have ekd : kd T z b = kow T b (eot T z b) := by unfold kd; rw [if_pos c1]
    have env : nmv T z b = 0 := by unfold nmv; rw [hd]; rfl
    rw [c1, if_neg (show ¬ bI true = 0 by decide), k_kow0 hT9 (by omega) heo.2, Option.bind_some, fin]
    exact ⟨_, rfl, kp_mk (by rw [ekd]) (v := nI 0) (by rw [env]) (by rw [q_upd, if_pos rfl]) (fun i hi => by rw [q_upd, if_neg hi])⟩
  · have c1' := (Bool.not_eq_true _).mp c1
    rw [c1', if_pos (show bI false = 0 from rfl), Option.bind_some, k_isDigit (h256 b), Option.bind_some]
    by_cases c2 : isDi (T b) = true
    · have ok := scn_ok (P := isDi) (T := T) (z := z) b
      rw [← eot_di hb c2] at ok
      have hdi : ∀ i, b ≤ i → i < eot T z b → 48 ≤ T i ∧ T i ≤ 57 := fun i h0 h2 => by
        have := (ok.2.2.2 i h0 h2).2
        rw [isDi_i] at this
        exact this
      have emin : (if nI b + (3 : Int32) < nI (eot T z b) then nI b + (3 : Int32) else nI (eot T z b)) = nI (b + min (eot T z b - b) 3) := by
        have ql : (nI (b + 3) < nI (eot T z b)) = (b + 3 < eot T z b) := q_lt (by omega) (by omega)
        rw [show (3 : Int32) = nI 3 from rfl, nI_add]
        by_cases d : b + 3 < eot T z b
        · rw [if_pos (ql.mpr d), show min (eot T z b - b) 3 = 3 by omega]
        · rw [if_neg (fun y => d (ql.mp y)), show b + min (eot T z b - b) 3 = eot T z b by omega]
      have env : nmv T z b = vl T b (min (eot T z b - b) 3) := by unfold nmv; rw [if_pos c2]
      have hJ : ∀ s0, f_X8_keep_0_J117 sh ln μ9 (nI b) (nI (eot T z b)) s0 (nI k) = some (mrow (mrow (mrow (mrow μ (8, 0) (upd (μ (8, 0)) k (nI b))) (9, 0) (upd (upd (μ (9, 0)) k (nI 0)) k (nI (nmv T z b)))) (7, 0) (upd (μ (7, 0)) k s0)) (6, 0) (upd (μ (6, 0)) 3 (nI (k + 1)))) := by
        intro s0
        have hT10 : TK 0 ln (mst μ9 (7, 0) k s0) T z := by
          unfold TK at *
          rw [mst_row, mrow_neA (by omega), mrow_neA (by omega)]
          exact hT9
        have ev := k_valueOf0 (sh := sh) hT10 (b := b) (k := min (eot T z b - b) 3) (Nat.min_le_right _ _) (by omega) (fun i hi => hdi _ (by omega) (by omega))
        have e10 : mst μ9 (7, 0) k s0 (6, 0) 3 = nI k := by rw [mst_row, mrow_neA (by omega)]; exact e9
        have n9 : μ9 (9, 0) = upd (μ (9, 0)) k (nI 0) := by rw [h9, mrow_self]
        rw [f_X8_keep_0_J117, q_ck (by omega) hk, q_cl (by omega), emin, ev, Option.bind_some, e10, q_ck (by omega) hk, q_cl (by omega), Option.bind_some]
        have e11 : mst (mst μ9 (7, 0) k s0) (9, 0) k (nI (vl T b (min (eot T z b - b) 3))) (6, 0) 3 = nI k := by rw [mst_row, mrow_neA (by omega)]; exact e10
        rw [e11, show (1 : Int32) = nI 1 from rfl, nI_add, ← env, mst_row, mst_row, mst_row, mrow_neA (show (7 : Nat) ≠ 9 by omega), n9, n7, mrow_neA (show (9 : Nat) ≠ 6 by omega), mrow_neA (show (7 : Nat) ≠ 6 by omega), n6, h9]
        congr 2
        rw [mrow_comm _ _ (show ((7, 0) : Ky) ≠ (9, 0) by simp), mrow_mrow]
      rw [c2, if_neg (show ¬ bI true = 0 by decide), e9, q_sub (by omega)]
      have q3 : ((3 : Int32) < nI (eot T z b - b)) = (3 < eot T z b - b) := q_lt (a := 3) (by omega) (by omega)
      by_cases d : 3 < eot T z b - b
      · have ekd : kd T z b = 1 := by unfold kd; rw [if_neg c1, if_pos c2, if_neg (by omega)]
        rw [if_pos (q3.mpr d), hJ]
        exact ⟨_, rfl, kp_mk (by rw [ekd]; rfl) rfl (by rw [q_upd, if_pos rfl]) (fun i hi => by rw [q_upd, if_neg hi, q_upd, if_neg hi])⟩
      · have ekd : kd T z b = 2 := by unfold kd; rw [if_neg c1, if_pos c2, if_pos (by omega)]
        rw [if_neg (fun x => d (q3.mp x)), hJ]
        exact ⟨_, rfl, kp_mk (by rw [ekd]; rfl) rfl (by rw [q_upd, if_pos rfl]) (fun i hi => by rw [q_upd, if_neg hi, q_upd, if_neg hi])⟩
    · have c2' := (Bool.not_eq_true _).mp c2
      have env : nmv T z b = 0 := by unfold nmv; rw [c2']; rfl
      have q3 : (nI (T b) ≤ (32 : Int32)) = (T b ≤ 32) := q_le (b := 32) (by have := h256 b; omega) (by omega)
      rw [c2', if_pos (show bI false = 0 from rfl), Option.bind_some]
      by_cases d : T b ≤ 32
      · have ekd : kd T z b = 1 := by unfold kd; rw [if_neg c1, if_neg c2, if_neg (by omega)]
        rw [if_pos (q3.mpr d), fin]
        exact ⟨_, rfl, kp_mk (by rw [ekd]; rfl) (v := nI 0) (by rw [env]) (by rw [q_upd, if_pos rfl]) (fun i hi => by rw [q_upd, if_neg hi])⟩
      · have ekd : kd T z b = T b := by unfold kd; rw [if_neg c1, if_neg c2, if_pos (by omega)]
        rw [if_neg (fun x => d (q3.mp x)), Option.bind_some, fin]
        exact ⟨_, rfl, kp_mk (by rw [ekd]) (v := nI 0) (by rw [env]) (by rw [q_upd, if_pos rfl]) (fun i hi => by rw [q_upd, if_neg hi])⟩
/-- the k-th thing comes -/
theorem k_stepAt0 (h : TK 0 ln μ T z) {m k : Nat} (hA : KA 0 μ T z m) (hk : k ≤ m) (h4 : μ (6, 0) 4 = nI k) : ∃ a, f_X8_step_0 sh ln μ = some a ∧ KS 0 μ a ∧ KC 0 ln a T z (tk T z k) := by
  have hm := hA.2.1
  have hz := h.2.2.1
  rw [f_X8_step_0, hA.1, h4]
  by_cases c : k < m
  · have hi := hA.2.2.2 k c
    obtain ⟨m1, hm1⟩ : ∃ m1, m1 = mrow μ (6, 0) (upd (upd (upd (upd (μ (6, 0)) 8 (nI (kd T z (tk T z k)))) 9 (nI (tk T z k))) 10 (nI (nmv T z (tk T z k)))) 4 (nI (k + 1))) := ⟨_, rfl⟩
    have key : (if nI m ≤ nI k then (some (mst (mst μ (6, 0) 8 (0 : Int32)) (6, 0) 9 ((mst μ (6, 0) 8 (0 : Int32)) (6, 0) 6))).bind fun μ2 => some μ2 else (if (400 : Int32) ≤ nI k then (some (mst (mst μ (6, 0) 8 (0 : Int32)) (6, 0) 9 ((mst μ (6, 0) 8 (0 : Int32)) (6, 0) 6))).bind fun μ4 => some μ4 else (if (400 : Int32) ≤ nI k then (some (mst (mst μ (6, 0) 8 (0 : Int32)) (6, 0) 9 ((mst μ (6, 0) 8 (0 : Int32)) (6, 0) 6))).bind fun μ6 => some μ6 else (if (400 : Int32) ≤ nI k then (some (mst (mst μ (6, 0) 8 (0 : Int32)) (6, 0) 9 ((mst μ (6, 0) 8 (0 : Int32)) (6, 0) 6))).bind fun μ8 => some μ8 else (ck 400 (nI k) (ck 400 ((mst μ (6, 0) 8 (μ (7, 0) (nI k).toNatClampNeg)) (6, 0) 4) ((some (mst (mst μ (6, 0) 8 (μ (7, 0) (nI k).toNatClampNeg)) (6, 0) 9 ((mst μ (6, 0) 8 (μ (7, 0) (nI k).toNatClampNeg)) (8, 0) ((mst μ (6, 0) 8 (μ (7, 0) (nI k).toNatClampNeg)) (6, 0) 4).toNatClampNeg))).bind fun μ11 => ck 400 (μ11 (6, 0) 4) ((some (mst (mst μ11 (6, 0) 10 (μ11 (9, 0) (μ11 (6, 0) 4).toNatClampNeg)) (6, 0) 4 (((mst μ11 (6, 0) 10 (μ11 (9, 0) (μ11 (6, 0) 4).toNatClampNeg)) (6, 0) 4) + (1 : Int32)))).bind fun μ13 => some μ13)))))))) = some m1 := by
      have r4 : ∀ (f : Nat → Int32), mrow μ (6, 0) (upd (μ (6, 0)) 8 (f 0)) (6, 0) 4 = nI k := fun f => by rw [mrow_self, q_upd, if_neg (by omega)]; exact h4
      rw [if_neg (by rw [q_le (by omega) (by omega)]; omega), if_neg (by rw [show (400 : Int32) = nI 400 from rfl, q_le (by omega) (by omega)]; omega), if_neg (by rw [show (400 : Int32) = nI 400 from rfl, q_le (by omega) (by omega)]; omega), if_neg (by rw [show (400 : Int32) = nI 400 from rfl, q_le (by omega) (by omega)]; omega), q_ck (by omega) (by omega), q_cl (by omega), hi.2.1]
      have s1 : mst μ (6, 0) 8 (nI (kd T z (tk T z k))) (6, 0) 4 = nI k := by rw [mst_row, mrow_self, q_upd, if_neg (by omega)]; exact h4
      have s2 : mst μ (6, 0) 8 (nI (kd T z (tk T z k))) (8, 0) k = nI (tk T z k) := by rw [mst_row, mrow_neA (by omega)]; exact hi.2.2.1
      rw [s1, q_ck (by omega) (by omega), q_cl (by omega), s2, Option.bind_some]
      have s3 : mst (mst μ (6, 0) 8 (nI (kd T z (tk T z k)))) (6, 0) 9 (nI (tk T z k)) (6, 0) 4 = nI k := by rw [mst_row, mrow_self, q_upd, if_neg (by omega)]; exact s1
      have s4 : mst (mst μ (6, 0) 8 (nI (kd T z (tk T z k)))) (6, 0) 9 (nI (tk T z k)) (9, 0) k = nI (nmv T z (tk T z k)) := by rw [mst_row, mrow_neA (by omega), mst_row, mrow_neA (by omega)]; exact hi.2.2.2
      rw [s3, q_ck (by omega) (by omega), q_cl (by omega), s4, Option.bind_some]
      have s5 : mst (mst (mst μ (6, 0) 8 (nI (kd T z (tk T z k)))) (6, 0) 9 (nI (tk T z k))) (6, 0) 10 (nI (nmv T z (tk T z k))) (6, 0) 4 = nI k := by rw [mst_row, mrow_self, q_upd, if_neg (by omega)]; exact s3
      rw [s5, show (1 : Int32) = nI 1 from rfl, nI_add, hm1, mst_row, mst_row, mst_row, mst_row, mrow_mrow, mrow_mrow, mrow_mrow, mrow_self, mrow_self, mrow_self]
    have hF : KS 0 μ m1 := by
      rw [hm1]
      exact ⟨fun q hq => mrow_ne hq, fun i h4 h8 h9 h10 => by rw [mrow_self, q_upd, if_neg h4, q_upd, if_neg h10, q_upd, if_neg h9, q_upd, if_neg h8]⟩
    refine ⟨m1, key, hF, h.to hF.F, m, k, hA.to hF.F, hk, rfl, ?_, ?_, fun _ => ?_, ?_⟩
    · rw [hm1, mrow_self, q_upd, if_neg (by omega), q_upd, if_neg (by omega), q_upd, if_neg (by omega), q_upd, if_pos rfl]
      unfold KN
      rw [if_pos hi.1]
    · rw [hm1, mrow_self, q_upd, if_neg (by omega), q_upd, if_neg (by omega), q_upd, if_pos rfl]
    · rw [hm1, mrow_self, q_upd, if_neg (by omega), q_upd, if_pos rfl]
    · rw [hm1, mrow_self, q_upd, if_pos rfl, if_pos c]
  · have hkm : k = m := by omega
    have hF : KS 0 μ (mrow μ (6, 0) (upd (upd (μ (6, 0)) 8 (nI 0)) 9 (nI z))) := ⟨fun q hq => mrow_ne hq, fun i h4 h8 h9 h10 => by rw [mrow_self, q_upd, if_neg h9, q_upd, if_neg h8]⟩
    have ez : tk T z k = z := by rw [hkm]; exact hA.2.2.1
    have s1 : mst μ (6, 0) 8 (0 : Int32) (6, 0) 6 = nI z := by rw [mst_row, mrow_self, q_upd, if_neg (by omega)]; exact h.2.1
    refine ⟨mrow μ (6, 0) (upd (upd (μ (6, 0)) 8 (nI 0)) 9 (nI z)), ?_, hF, h.to hF.F, m, k, hA.to hF.F, hk, rfl, ?_, ?_, fun x => by omega, ?_⟩
    · rw [if_pos (by rw [q_le (by omega) (by omega)]; omega), s1, Option.bind_some, mst_row, mst_row, mrow_mrow, mrow_self]
      rfl
    · rw [mrow_self, q_upd, if_neg (by omega), q_upd, if_pos rfl, ez]
      unfold KN
      rw [if_neg (by omega)]
    · rw [mrow_self, q_upd, if_pos rfl, ez]
    · rw [mrow_self, q_upd, if_neg (by omega), q_upd, if_neg (by omega), if_neg c, h4, hkm]
theorem k_step0 (h : KC 0 ln μ T z b) (hb : b < z) : ∃ a, f_X8_step_0 sh ln μ = some a ∧ KS 0 μ a ∧ KC 0 ln a T z (nx T z b) := by
  obtain ⟨h1, m, k, hA, hk, e, h8, h9, h10, h4⟩ := h
  have hkm : k < m := by
    by_cases c : k < m
    · exact c
    · have : k = m := by omega
      rw [this, hA.2.2.1] at e
      omega
  rw [if_pos hkm] at h4
  have := k_stepAt0 (sh := sh) h1 hA (k := k + 1) (by omega) h4
  have e2 : tk T z (k + 1) = nx T z b := by rw [← e]; rfl
  rw [e2] at this
  exact this
theorem k_open0 {z : Nat} (h12 : ∀ i, i < 400 → μ (12, 0) i = nI (T i)) (h256 : ∀ i, T i < 256) (hz : z ≤ 400) (hl : ln 0 = 400) : ∃ a, f_X8_open_0 sh ln μ (nI z) = some a ∧ (∀ q : Ky, q ≠ (6, 0) → q ≠ (7, 0) → q ≠ (8, 0) → q ≠ (9, 0) → a q = μ q) ∧ (∀ i, i < 3 ∨ 11 ≤ i → a (6, 0) i = μ (6, 0) i) ∧ a (6, 0) 7 = -nI 1 ∧ KC 0 ln a T z (nb T z 0) := by
  obtain ⟨μ2, h2⟩ : ∃ μ2, μ2 = mrow μ (6, 0) (upd (upd (upd (upd (μ (6, 0)) 5 (nI 1)) 6 (nI z)) 7 (-nI 1)) 3 (nI 0)) := ⟨_, rfl⟩
  have em : mst (mst (mst (mst μ (6, 0) 5 (1 : Int32)) (6, 0) 6 (nI z)) (6, 0) 7 (-1 : Int32)) (6, 0) 3 (0 : Int32) = μ2 := by
    rw [h2, mst_row, mst_row, mst_row, mst_row, mrow_mrow, mrow_mrow, mrow_mrow, mrow_self, mrow_self, mrow_self]
    rfl
  have hT2 : ∀ a, (∀ q : Ky, q ≠ (6, 0) → q ≠ (7, 0) → q ≠ (8, 0) → q ≠ (9, 0) → a q = μ2 q) → (∀ i, i ≠ 3 → a (6, 0) i = μ2 (6, 0) i) → TK 0 ln a T z := by
    intro a g1 g2
    unfold TK
    rw [g2 5 (by omega), g2 6 (by omega), g1 (12, 0) (by simp) (by simp) (by simp) (by simp), h2, mrow_self, mrow_neA (by omega)]
    exact ⟨by rw [q_upd, if_neg (by omega), q_upd, if_neg (by omega), q_upd, if_neg (by omega), q_upd, if_pos rfl]; decide, by rw [q_upd, if_neg (by omega), q_upd, if_neg (by omega), q_upd, if_pos rfl], hz, h256, h12, hl⟩
  have hh : ∃ r, Wh (fun z : Mm × Int32 => f_X8_open_0_L22 sh ln z.1 z.2) (μ2, (0 : Int32)) = some r ∧ ((∀ q : Ky, q ≠ (6, 0) → q ≠ (7, 0) → q ≠ (8, 0) → q ≠ (9, 0) → r q = μ2 q) ∧ (∀ i, i < 3 ∨ i = 7 ∨ 11 ≤ i → r (6, 0) i = μ2 (6, 0) i) ∧ (r (6, 0) 7 = μ2 (6, 0) 7 ∧ KC 0 ln r T z (nb T z 0))) := by
    refine Wh_inv z (fun t s => ∃ a p k, s = (a, nI p) ∧ t ≤ p ∧ p ≤ z ∧ k ≤ p ∧ (∀ q : Ky, q ≠ (6, 0) → q ≠ (7, 0) → q ≠ (8, 0) → q ≠ (9, 0) → a q = μ2 q) ∧ (∀ i, i ≠ 3 → a (6, 0) i = μ2 (6, 0) i) ∧ a (6, 0) 3 = nI k ∧ nb T z p = tk T z k ∧ ∀ i, i < k → tk T z i < z ∧ a (7, 0) i = nI (kd T z (tk T z i)) ∧ a (8, 0) i = nI (tk T z i) ∧ a (9, 0) i = nI (nmv T z (tk T z i))) _ ⟨μ2, 0, 0, rfl, by omega, by omega, by omega, fun _ _ _ _ _ => rfl, fun _ _ => rfl, by rw [h2, mrow_self, q_upd, if_pos rfl], rfl, fun i hi => by omega⟩ ?_ ?_
    · rintro t _ ht ⟨a, p, k, rfl, g0, g1, g2, g3, g4, g5, g6, g7⟩
      have hTa := hT2 a g3 g4
      by_cases c : p < z
      · left
        have heo := eot_ok (T := T) c
        have bp := k_byteAt0 (sh := sh) hTa (i := p) (by omega)
        have ep := k_eot0 (sh := sh) hTa c
        have emax : (if nI (eot T z p) < nI p + (1 : Int32) then nI p + (1 : Int32) else nI (eot T z p)) = nI (eot T z p) := by
          rw [show (1 : Int32) = nI 1 from rfl, nI_add, if_neg (by rw [q_lt (by omega) (by omega)]; omega)]
        have hstep : ∀ s, f_X8_open_0_L22 sh ln a (nI p) = s ↔ (if nI (T p) = (32 : Int32) then some (.inl (a, nI (eot T z p))) else ((f_X8_keep_0 sh ln a (nI p) (nI (eot T z p))).bind fun x51 => some (.inl (x51, nI (eot T z p)))) : Option ((Mm × Int32) ⊕ Mm)) = s := by
          intro s
          rw [f_X8_open_0_L22, hTa.2.1, if_neg (by rw [q_le (by omega) (by omega)]; omega), ep, Option.bind_some, bp, Option.bind_some, emax]
        have q32 : (nI (T p) = (32 : Int32)) = (T p = 32) := q_eq (b := 32) (by have := h256 p; omega) (by omega)
        by_cases d : T p = 32
        · have e1 : eot T z p = p + 1 := eot_sg (by rw [d]; rfl) (by rw [d]; rfl)
          refine ⟨(a, nI (p + 1)), (hstep _).mpr (by rw [if_pos (q32.mpr d), e1]), a, p + 1, k, rfl, by omega, by omega, by omega, g3, g4, g5, ?_, g7⟩
          rw [← g6]
          exact (scn_go (P := isBl) c (by rw [isBl_i]; exact d)).symm
        · obtain ⟨x, ex, hx⟩ := k_keep0 (sh := sh) hTa c (k := k) (by omega) g5
          have hnb : nb T z p = p := scn_no (fun y => d (by have := y.2; rw [isBl_i] at this; exact this))
          have hpk : tk T z k = p := by rw [← g6]; exact hnb
          obtain ⟨x1, x2, x3, x4⟩ := hx
          refine ⟨(x, nI (eot T z p)), (hstep _).mpr (by rw [if_neg (fun y => d (q32.mp y)), ex]; rfl), x, eot T z p, k + 1, rfl, by omega, heo.2, by omega, fun q h6 h7 h8 h9 => (x1 q h6 h7 h8 h9).trans (g3 q h6 h7 h8 h9), fun i hi => by rw [x2, q_upd, if_neg hi]; exact g4 i hi, by rw [x2, q_upd, if_pos rfl], ?_, fun i hi => ?_⟩
          · show _ = nx T z (tk T z k)
            rw [hpk]
            rfl
          · by_cases ei : i = k
            · rw [ei, hpk]
              exact ⟨c, x3⟩
            · have := g7 i (by omega)
              rw [(x4 i ei).1, (x4 i ei).2.1, (x4 i ei).2.2]
              exact this
      · right
        have hpz : p = z := by omega
        have hF4 : ∀ i, i ≠ 4 → mst a (6, 0) 4 (0 : Int32) (6, 0) i = a (6, 0) i := fun i hi => by rw [mst_row, mrow_self, q_upd, if_neg hi]
        have hTb : TK 0 ln (mst a (6, 0) 4 (0 : Int32)) T z := by
          unfold TK at *
          rw [hF4 5 (by omega), hF4 6 (by omega), mst_row, mrow_neA (by omega)]
          exact hTa
        have hnz : nb T z z = z := scn_no (fun y => by omega)
        have hA : KA 0 (mst a (6, 0) 4 (0 : Int32)) T z k := by
          refine ⟨by rw [hF4 3 (by omega)]; exact g5, by omega, by rw [← g6, hpz]; exact hnz, fun i hi => ?_⟩
          rw [mst_row, mrow_neA (by omega), mrow_neA (by omega), mrow_neA (by omega)]
          exact g7 i hi
        obtain ⟨r, er, hF, hK⟩ := k_stepAt0 (sh := sh) hTb hA (k := 0) (by omega) (by rw [mst_row, mrow_self, q_upd, if_pos rfl]; rfl)
        have f7 : r (6, 0) 7 = μ2 (6, 0) 7 := by rw [hF.2 7 (by omega) (by omega) (by omega) (by omega), hF4 7 (by omega)]; exact g4 7 (by omega)
        refine ⟨r, ?_, fun q h6 h7 h8 h9 => ?_, fun i hi => ?_, f7, hK⟩
        · show f_X8_open_0_L22 sh ln a (nI p) = _
          rw [f_X8_open_0_L22, hTa.2.1, if_pos (by rw [q_le (by omega) (by omega)]; omega), er]
          rfl
        · rw [hF.1 q h6, mst_row, mrow_ne h6]
          exact g3 q h6 h7 h8 h9
        · rcases hi with hi | hi | hi
          · rw [hF.2 i (by omega) (by omega) (by omega) (by omega), hF4 i (by omega)]; exact g4 i (by omega)
          · rw [hi]; exact f7
          · rw [hF.2 i (by omega) (by omega) (by omega) (by omega), hF4 i (by omega)]; exact g4 i (by omega)
    · rintro _ ⟨a, p, k, rfl, g0, g1, g2, g3, g4, g5, g6, g7⟩
      have hTa := hT2 a g3 g4
      have hpz : p = z := by omega
      have hF4 : ∀ i, i ≠ 4 → mst a (6, 0) 4 (0 : Int32) (6, 0) i = a (6, 0) i := fun i hi => by rw [mst_row, mrow_self, q_upd, if_neg hi]
      have hTb : TK 0 ln (mst a (6, 0) 4 (0 : Int32)) T z := by
        unfold TK at *
        rw [hF4 5 (by omega), hF4 6 (by omega), mst_row, mrow_neA (by omega)]
        exact hTa
      have hnz : nb T z z = z := scn_no (fun y => by omega)
      have hA : KA 0 (mst a (6, 0) 4 (0 : Int32)) T z k := by
        refine ⟨by rw [hF4 3 (by omega)]; exact g5, by omega, by rw [← g6, hpz]; exact hnz, fun i hi => ?_⟩
        rw [mst_row, mrow_neA (by omega), mrow_neA (by omega), mrow_neA (by omega)]
        exact g7 i hi
      obtain ⟨r, er, hF, hK⟩ := k_stepAt0 (sh := sh) hTb hA (k := 0) (by omega) (by rw [mst_row, mrow_self, q_upd, if_pos rfl]; rfl)
      have f7 : r (6, 0) 7 = μ2 (6, 0) 7 := by rw [hF.2 7 (by omega) (by omega) (by omega) (by omega), hF4 7 (by omega)]; exact g4 7 (by omega)
      refine ⟨r, ?_, fun q h6 h7 h8 h9 => ?_, fun i hi => ?_, f7, hK⟩
      · show f_X8_open_0_L22 sh ln a (nI p) = _
        rw [f_X8_open_0_L22, hTa.2.1, if_pos (by rw [q_le (by omega) (by omega)]; omega), er]
        rfl
      · rw [hF.1 q h6, mst_row, mrow_ne h6]
        exact g3 q h6 h7 h8 h9
      · rcases hi with hi | hi | hi
        · rw [hF.2 i (by omega) (by omega) (by omega) (by omega), hF4 i (by omega)]; exact g4 i (by omega)
        · rw [hi]; exact f7
        · rw [hF.2 i (by omega) (by omega) (by omega) (by omega), hF4 i (by omega)]; exact g4 i (by omega)
  obtain ⟨r, er, r1, r2, r3, r4⟩ := hh
  refine ⟨r, ?_, fun q h6 h7 h8 h9 => ?_, fun i hi => ?_, ?_, r4⟩
  · rw [f_X8_open_0, em, Option.bind_some]
    exact er
  · rw [r1 q h6 h7 h8 h9, h2, mrow_ne h6]
  · rw [r2 i (by omega), h2, mrow_self, q_upd, if_neg (by omega), q_upd, if_neg (by omega), q_upd, if_neg (by omega), q_upd, if_neg (by omega)]
  · rw [r3, h2, mrow_self, q_upd, if_neg (by omega), q_upd, if_pos rfl]
theorem k_keep1 (h : TK 1 ln μ T z) (hb : b < z) {k : Nat} (hk : k < 400) (h3 : μ (6, 1) 3 = nI k) : ∃ a, f_X8_keep_1 sh ln μ (nI b) (nI (eot T z b)) = some a ∧ KP 1 μ a T z b k := by
  have hz := h.2.2.1
  have h256 := h.2.2.2.1
  have heo := eot_ok (T := T) hb
  obtain ⟨μ9, h9⟩ : ∃ μ9, μ9 = mrow (mrow μ (8, 1) (upd (μ (8, 1)) k (nI b))) (9, 1) (upd (μ (9, 1)) k (nI 0)) := ⟨_, rfl⟩
  have e6 : mst μ (8, 1) k (nI b) (6, 1) 3 = nI k := by rw [mst_row, mrow_neA (by omega)]; exact h3
  have em : mst (mst μ (8, 1) k (nI b)) (9, 1) k (0 : Int32) = μ9 := by rw [h9, mst_row, mst_row, mrow_neA (by omega)]; rfl
  have h9k : ∀ q : Ky, q ≠ (8, 1) → q ≠ (9, 1) → μ9 q = μ q := fun q g8 g9 => by rw [h9, mrow_ne g9, mrow_ne g8]
  have n6 : μ9 (6, 1) = μ (6, 1) := h9k _ (by simp) (by simp)
  have n7 : μ9 (7, 1) = μ (7, 1) := h9k _ (by simp) (by simp)
  have hT9 : TK 1 ln μ9 T z := by
    unfold TK at *
    rw [n6, h9k (12, 0) (by simp) (by simp)]
    exact h
  have e9 : μ9 (6, 1) 3 = nI k := by rw [n6]; exact h3
  have b9 := k_byteAt1 (sh := sh) hT9 (i := b) (by omega)
  have fin : ∀ x, ck 400 (μ9 (6, 1) 3) ((some (mst (mst μ9 (7, 1) (μ9 (6, 1) 3).toNatClampNeg x) (6, 1) 3 (((mst μ9 (7, 1) (μ9 (6, 1) 3).toNatClampNeg x) (6, 1) 3) + (1 : Int32)))).bind fun μ19 => some μ19) = some (mrow (mrow (mrow (mrow μ (8, 1) (upd (μ (8, 1)) k (nI b))) (9, 1) (upd (μ (9, 1)) k (nI 0))) (7, 1) (upd (μ (7, 1)) k x)) (6, 1) (upd (μ (6, 1)) 3 (nI (k + 1)))) := by
    intro x
    rw [e9, q_ck (by omega) hk, q_cl (by omega), Option.bind_some, mst_row, mst_row, mrow_neA (by omega), n7, n6, h3, show (1 : Int32) = nI 1 from rfl, nI_add, ← h9]
  rw [f_X8_keep_1, h3, if_neg (by rw [show (400 : Int32) = nI 400 from rfl, q_le (by omega) (by omega)]; omega), if_neg (by rw [show (400 : Int32) = nI 400 from rfl, q_le (by omega) (by omega)]; omega), if_pos (by rw [show (400 : Int32) = nI 400 from rfl, q_lt (by omega) (by omega)]; omega), q_ck (by omega) hk, q_cl (by omega), e6, q_ck (by omega) hk, q_cl (by omega), em, Option.bind_some, b9, Option.bind_some, k_isLetter (h256 b), Option.bind_some]
  by_cases c1 : isLe (T b) = true
  · have hd : isDi (T b) = false := by
      refine (Bool.not_eq_true _).mp (fun x => ?_)
      rw [isDi_i] at x
      rw [isLe_i] at c1
      omega
    have ekd : kd T z b = kow T b (eot T z b) := by unfold kd; rw [if_pos c1]
    have env : nmv T z b = 0 := by unfold nmv; rw [hd]; rfl
    rw [c1, if_neg (show ¬ bI true = 0 by decide), k_kow1 hT9 (by omega) heo.2, Option.bind_some, fin]
    exact ⟨_, rfl, kp_mk (by rw [ekd]) (v := nI 0) (by rw [env]) (by rw [q_upd, if_pos rfl]) (fun i hi => by rw [q_upd, if_neg hi])⟩
  · have c1' := (Bool.not_eq_true _).mp c1
    rw [c1', if_pos (show bI false = 0 from rfl), Option.bind_some, k_isDigit (h256 b), Option.bind_some]
    by_cases c2 : isDi (T b) = true
    · have ok := scn_ok (P := isDi) (T := T) (z := z) b
      rw [← eot_di hb c2] at ok
      have hdi : ∀ i, b ≤ i → i < eot T z b → 48 ≤ T i ∧ T i ≤ 57 := fun i h0 h2 => by
        have := (ok.2.2.2 i h0 h2).2
        rw [isDi_i] at this
        exact this
      have emin : (if nI b + (3 : Int32) < nI (eot T z b) then nI b + (3 : Int32) else nI (eot T z b)) = nI (b + min (eot T z b - b) 3) := by
        have ql : (nI (b + 3) < nI (eot T z b)) = (b + 3 < eot T z b) := q_lt (by omega) (by omega)
        rw [show (3 : Int32) = nI 3 from rfl, nI_add]
        by_cases d : b + 3 < eot T z b
        · rw [if_pos (ql.mpr d), show min (eot T z b - b) 3 = 3 by omega]
        · rw [if_neg (fun y => d (ql.mp y)), show b + min (eot T z b - b) 3 = eot T z b by omega]
      have env : nmv T z b = vl T b (min (eot T z b - b) 3) := by unfold nmv; rw [if_pos c2]
      have hJ : ∀ s0, f_X8_keep_1_J117 sh ln μ9 (nI b) (nI (eot T z b)) s0 (nI k) = some (mrow (mrow (mrow (mrow μ (8, 1) (upd (μ (8, 1)) k (nI b))) (9, 1) (upd (upd (μ (9, 1)) k (nI 0)) k (nI (nmv T z b)))) (7, 1) (upd (μ (7, 1)) k s0)) (6, 1) (upd (μ (6, 1)) 3 (nI (k + 1)))) := by
        intro s0
        have hT10 : TK 1 ln (mst μ9 (7, 1) k s0) T z := by
          unfold TK at *
          rw [mst_row, mrow_neA (by omega), mrow_neA (by omega)]
          exact hT9
        have ev := k_valueOf1 (sh := sh) hT10 (b := b) (k := min (eot T z b - b) 3) (Nat.min_le_right _ _) (by omega) (fun i hi => hdi _ (by omega) (by omega))
        have e10 : mst μ9 (7, 1) k s0 (6, 1) 3 = nI k := by rw [mst_row, mrow_neA (by omega)]; exact e9
        have n9 : μ9 (9, 1) = upd (μ (9, 1)) k (nI 0) := by rw [h9, mrow_self]
        rw [f_X8_keep_1_J117, q_ck (by omega) hk, q_cl (by omega), emin, ev, Option.bind_some, e10, q_ck (by omega) hk, q_cl (by omega), Option.bind_some]
        have e11 : mst (mst μ9 (7, 1) k s0) (9, 1) k (nI (vl T b (min (eot T z b - b) 3))) (6, 1) 3 = nI k := by rw [mst_row, mrow_neA (by omega)]; exact e10
        rw [e11, show (1 : Int32) = nI 1 from rfl, nI_add, ← env, mst_row, mst_row, mst_row, mrow_neA (show (7 : Nat) ≠ 9 by omega), n9, n7, mrow_neA (show (9 : Nat) ≠ 6 by omega), mrow_neA (show (7 : Nat) ≠ 6 by omega), n6, h9]
        congr 2
        rw [mrow_comm _ _ (show ((7, 1) : Ky) ≠ (9, 1) by simp), mrow_mrow]
      rw [c2, if_neg (show ¬ bI true = 0 by decide), e9, q_sub (by omega)]
      have q3 : ((3 : Int32) < nI (eot T z b - b)) = (3 < eot T z b - b) := q_lt (a := 3) (by omega) (by omega)
      by_cases d : 3 < eot T z b - b
      · have ekd : kd T z b = 1 := by unfold kd; rw [if_neg c1, if_pos c2, if_neg (by omega)]
        rw [if_pos (q3.mpr d), hJ]
        exact ⟨_, rfl, kp_mk (by rw [ekd]; rfl) rfl (by rw [q_upd, if_pos rfl]) (fun i hi => by rw [q_upd, if_neg hi, q_upd, if_neg hi])⟩
      · have ekd : kd T z b = 2 := by unfold kd; rw [if_neg c1, if_pos c2, if_pos (by omega)]
        rw [if_neg (fun x => d (q3.mp x)), hJ]
        exact ⟨_, rfl, kp_mk (by rw [ekd]; rfl) rfl (by rw [q_upd, if_pos rfl]) (fun i hi => by rw [q_upd, if_neg hi, q_upd, if_neg hi])⟩
    · have c2' := (Bool.not_eq_true _).mp c2
      have env : nmv T z b = 0 := by unfold nmv; rw [c2']; rfl
      have q3 : (nI (T b) ≤ (32 : Int32)) = (T b ≤ 32) := q_le (b := 32) (by have := h256 b; omega) (by omega)
      rw [c2', if_pos (show bI false = 0 from rfl), Option.bind_some]
      by_cases d : T b ≤ 32
      · have ekd : kd T z b = 1 := by unfold kd; rw [if_neg c1, if_neg c2, if_neg (by omega)]
        rw [if_pos (q3.mpr d), fin]
        exact ⟨_, rfl, kp_mk (by rw [ekd]; rfl) (v := nI 0) (by rw [env]) (by rw [q_upd, if_pos rfl]) (fun i hi => by rw [q_upd, if_neg hi])⟩
      · have ekd : kd T z b = T b := by unfold kd; rw [if_neg c1, if_neg c2, if_pos (by omega)]
        rw [if_neg (fun x => d (q3.mp x)), Option.bind_some, fin]
        exact ⟨_, rfl, kp_mk (by rw [ekd]) (v := nI 0) (by rw [env]) (by rw [q_upd, if_pos rfl]) (fun i hi => by rw [q_upd, if_neg hi])⟩
/-- the k-th thing comes -/
theorem k_stepAt1 (h : TK 1 ln μ T z) {m k : Nat} (hA : KA 1 μ T z m) (hk : k ≤ m) (h4 : μ (6, 1) 4 = nI k) : ∃ a, f_X8_step_1 sh ln μ = some a ∧ KS 1 μ a ∧ KC 1 ln a T z (tk T z k) := by
  have hm := hA.2.1
  have hz := h.2.2.1
  rw [f_X8_step_1, hA.1, h4]
  by_cases c : k < m
  · have hi := hA.2.2.2 k c
    obtain ⟨m1, hm1⟩ : ∃ m1, m1 = mrow μ (6, 1) (upd (upd (upd (upd (μ (6, 1)) 8 (nI (kd T z (tk T z k)))) 9 (nI (tk T z k))) 10 (nI (nmv T z (tk T z k)))) 4 (nI (k + 1))) := ⟨_, rfl⟩
    have key : (if nI m ≤ nI k then (some (mst (mst μ (6, 1) 8 (0 : Int32)) (6, 1) 9 ((mst μ (6, 1) 8 (0 : Int32)) (6, 1) 6))).bind fun μ2 => some μ2 else (if (400 : Int32) ≤ nI k then (some (mst (mst μ (6, 1) 8 (0 : Int32)) (6, 1) 9 ((mst μ (6, 1) 8 (0 : Int32)) (6, 1) 6))).bind fun μ4 => some μ4 else (if (400 : Int32) ≤ nI k then (some (mst (mst μ (6, 1) 8 (0 : Int32)) (6, 1) 9 ((mst μ (6, 1) 8 (0 : Int32)) (6, 1) 6))).bind fun μ6 => some μ6 else (if (400 : Int32) ≤ nI k then (some (mst (mst μ (6, 1) 8 (0 : Int32)) (6, 1) 9 ((mst μ (6, 1) 8 (0 : Int32)) (6, 1) 6))).bind fun μ8 => some μ8 else (ck 400 (nI k) (ck 400 ((mst μ (6, 1) 8 (μ (7, 1) (nI k).toNatClampNeg)) (6, 1) 4) ((some (mst (mst μ (6, 1) 8 (μ (7, 1) (nI k).toNatClampNeg)) (6, 1) 9 ((mst μ (6, 1) 8 (μ (7, 1) (nI k).toNatClampNeg)) (8, 1) ((mst μ (6, 1) 8 (μ (7, 1) (nI k).toNatClampNeg)) (6, 1) 4).toNatClampNeg))).bind fun μ11 => ck 400 (μ11 (6, 1) 4) ((some (mst (mst μ11 (6, 1) 10 (μ11 (9, 1) (μ11 (6, 1) 4).toNatClampNeg)) (6, 1) 4 (((mst μ11 (6, 1) 10 (μ11 (9, 1) (μ11 (6, 1) 4).toNatClampNeg)) (6, 1) 4) + (1 : Int32)))).bind fun μ13 => some μ13)))))))) = some m1 := by
      have r4 : ∀ (f : Nat → Int32), mrow μ (6, 1) (upd (μ (6, 1)) 8 (f 0)) (6, 1) 4 = nI k := fun f => by rw [mrow_self, q_upd, if_neg (by omega)]; exact h4
      rw [if_neg (by rw [q_le (by omega) (by omega)]; omega), if_neg (by rw [show (400 : Int32) = nI 400 from rfl, q_le (by omega) (by omega)]; omega), if_neg (by rw [show (400 : Int32) = nI 400 from rfl, q_le (by omega) (by omega)]; omega), if_neg (by rw [show (400 : Int32) = nI 400 from rfl, q_le (by omega) (by omega)]; omega), q_ck (by omega) (by omega), q_cl (by omega), hi.2.1]
      have s1 : mst μ (6, 1) 8 (nI (kd T z (tk T z k))) (6, 1) 4 = nI k := by rw [mst_row, mrow_self, q_upd, if_neg (by omega)]; exact h4
      have s2 : mst μ (6, 1) 8 (nI (kd T z (tk T z k))) (8, 1) k = nI (tk T z k) := by rw [mst_row, mrow_neA (by omega)]; exact hi.2.2.1
      rw [s1, q_ck (by omega) (by omega), q_cl (by omega), s2, Option.bind_some]
      have s3 : mst (mst μ (6, 1) 8 (nI (kd T z (tk T z k)))) (6, 1) 9 (nI (tk T z k)) (6, 1) 4 = nI k := by rw [mst_row, mrow_self, q_upd, if_neg (by omega)]; exact s1
      have s4 : mst (mst μ (6, 1) 8 (nI (kd T z (tk T z k)))) (6, 1) 9 (nI (tk T z k)) (9, 1) k = nI (nmv T z (tk T z k)) := by rw [mst_row, mrow_neA (by omega), mst_row, mrow_neA (by omega)]; exact hi.2.2.2
      rw [s3, q_ck (by omega) (by omega), q_cl (by omega), s4, Option.bind_some]
      have s5 : mst (mst (mst μ (6, 1) 8 (nI (kd T z (tk T z k)))) (6, 1) 9 (nI (tk T z k))) (6, 1) 10 (nI (nmv T z (tk T z k))) (6, 1) 4 = nI k := by rw [mst_row, mrow_self, q_upd, if_neg (by omega)]; exact s3
      rw [s5, show (1 : Int32) = nI 1 from rfl, nI_add, hm1, mst_row, mst_row, mst_row, mst_row, mrow_mrow, mrow_mrow, mrow_mrow, mrow_self, mrow_self, mrow_self]
    have hF : KS 1 μ m1 := by
      rw [hm1]
      exact ⟨fun q hq => mrow_ne hq, fun i h4 h8 h9 h10 => by rw [mrow_self, q_upd, if_neg h4, q_upd, if_neg h10, q_upd, if_neg h9, q_upd, if_neg h8]⟩
    refine ⟨m1, key, hF, h.to hF.F, m, k, hA.to hF.F, hk, rfl, ?_, ?_, fun _ => ?_, ?_⟩
    · rw [hm1, mrow_self, q_upd, if_neg (by omega), q_upd, if_neg (by omega), q_upd, if_neg (by omega), q_upd, if_pos rfl]
      unfold KN
      rw [if_pos hi.1]
    · rw [hm1, mrow_self, q_upd, if_neg (by omega), q_upd, if_neg (by omega), q_upd, if_pos rfl]
    · rw [hm1, mrow_self, q_upd, if_neg (by omega), q_upd, if_pos rfl]
    · rw [hm1, mrow_self, q_upd, if_pos rfl, if_pos c]
  · have hkm : k = m := by omega
    have hF : KS 1 μ (mrow μ (6, 1) (upd (upd (μ (6, 1)) 8 (nI 0)) 9 (nI z))) := ⟨fun q hq => mrow_ne hq, fun i h4 h8 h9 h10 => by rw [mrow_self, q_upd, if_neg h9, q_upd, if_neg h8]⟩
    have ez : tk T z k = z := by rw [hkm]; exact hA.2.2.1
    have s1 : mst μ (6, 1) 8 (0 : Int32) (6, 1) 6 = nI z := by rw [mst_row, mrow_self, q_upd, if_neg (by omega)]; exact h.2.1
    refine ⟨mrow μ (6, 1) (upd (upd (μ (6, 1)) 8 (nI 0)) 9 (nI z)), ?_, hF, h.to hF.F, m, k, hA.to hF.F, hk, rfl, ?_, ?_, fun x => by omega, ?_⟩
    · rw [if_pos (by rw [q_le (by omega) (by omega)]; omega), s1, Option.bind_some, mst_row, mst_row, mrow_mrow, mrow_self]
      rfl
    · rw [mrow_self, q_upd, if_neg (by omega), q_upd, if_pos rfl, ez]
      unfold KN
      rw [if_neg (by omega)]
    · rw [mrow_self, q_upd, if_pos rfl, ez]
    · rw [mrow_self, q_upd, if_neg (by omega), q_upd, if_neg (by omega), if_neg c, h4, hkm]
theorem k_step1 (h : KC 1 ln μ T z b) (hb : b < z) : ∃ a, f_X8_step_1 sh ln μ = some a ∧ KS 1 μ a ∧ KC 1 ln a T z (nx T z b) := by
  obtain ⟨h1, m, k, hA, hk, e, h8, h9, h10, h4⟩ := h
  have hkm : k < m := by
    by_cases c : k < m
    · exact c
    · have : k = m := by omega
      rw [this, hA.2.2.1] at e
      omega
  rw [if_pos hkm] at h4
  have := k_stepAt1 (sh := sh) h1 hA (k := k + 1) (by omega) h4
  have e2 : tk T z (k + 1) = nx T z b := by rw [← e]; rfl
  rw [e2] at this
  exact this
theorem k_open1 {z : Nat} (h12 : ∀ i, i < 400 → μ (12, 0) i = nI (T i)) (h256 : ∀ i, T i < 256) (hz : z ≤ 400) (hl : ln 0 = 400) : ∃ a, f_X8_open_1 sh ln μ (nI z) = some a ∧ (∀ q : Ky, q ≠ (6, 1) → q ≠ (7, 1) → q ≠ (8, 1) → q ≠ (9, 1) → a q = μ q) ∧ (∀ i, i < 3 ∨ 11 ≤ i → a (6, 1) i = μ (6, 1) i) ∧ a (6, 1) 7 = -nI 1 ∧ KC 1 ln a T z (nb T z 0) := by
  obtain ⟨μ2, h2⟩ : ∃ μ2, μ2 = mrow μ (6, 1) (upd (upd (upd (upd (μ (6, 1)) 5 (nI 1)) 6 (nI z)) 7 (-nI 1)) 3 (nI 0)) := ⟨_, rfl⟩
  have em : mst (mst (mst (mst μ (6, 1) 5 (1 : Int32)) (6, 1) 6 (nI z)) (6, 1) 7 (-1 : Int32)) (6, 1) 3 (0 : Int32) = μ2 := by
    rw [h2, mst_row, mst_row, mst_row, mst_row, mrow_mrow, mrow_mrow, mrow_mrow, mrow_self, mrow_self, mrow_self]
    rfl
  have hT2 : ∀ a, (∀ q : Ky, q ≠ (6, 1) → q ≠ (7, 1) → q ≠ (8, 1) → q ≠ (9, 1) → a q = μ2 q) → (∀ i, i ≠ 3 → a (6, 1) i = μ2 (6, 1) i) → TK 1 ln a T z := by
    intro a g1 g2
    unfold TK
    rw [g2 5 (by omega), g2 6 (by omega), g1 (12, 0) (by simp) (by simp) (by simp) (by simp), h2, mrow_self, mrow_neA (by omega)]
    exact ⟨by rw [q_upd, if_neg (by omega), q_upd, if_neg (by omega), q_upd, if_neg (by omega), q_upd, if_pos rfl]; decide, by rw [q_upd, if_neg (by omega), q_upd, if_neg (by omega), q_upd, if_pos rfl], hz, h256, h12, hl⟩
  have hh : ∃ r, Wh (fun z : Mm × Int32 => f_X8_open_1_L22 sh ln z.1 z.2) (μ2, (0 : Int32)) = some r ∧ ((∀ q : Ky, q ≠ (6, 1) → q ≠ (7, 1) → q ≠ (8, 1) → q ≠ (9, 1) → r q = μ2 q) ∧ (∀ i, i < 3 ∨ i = 7 ∨ 11 ≤ i → r (6, 1) i = μ2 (6, 1) i) ∧ (r (6, 1) 7 = μ2 (6, 1) 7 ∧ KC 1 ln r T z (nb T z 0))) := by
    refine Wh_inv z (fun t s => ∃ a p k, s = (a, nI p) ∧ t ≤ p ∧ p ≤ z ∧ k ≤ p ∧ (∀ q : Ky, q ≠ (6, 1) → q ≠ (7, 1) → q ≠ (8, 1) → q ≠ (9, 1) → a q = μ2 q) ∧ (∀ i, i ≠ 3 → a (6, 1) i = μ2 (6, 1) i) ∧ a (6, 1) 3 = nI k ∧ nb T z p = tk T z k ∧ ∀ i, i < k → tk T z i < z ∧ a (7, 1) i = nI (kd T z (tk T z i)) ∧ a (8, 1) i = nI (tk T z i) ∧ a (9, 1) i = nI (nmv T z (tk T z i))) _ ⟨μ2, 0, 0, rfl, by omega, by omega, by omega, fun _ _ _ _ _ => rfl, fun _ _ => rfl, by rw [h2, mrow_self, q_upd, if_pos rfl], rfl, fun i hi => by omega⟩ ?_ ?_
    · rintro t _ ht ⟨a, p, k, rfl, g0, g1, g2, g3, g4, g5, g6, g7⟩
      have hTa := hT2 a g3 g4
      by_cases c : p < z
      · left
        have heo := eot_ok (T := T) c
        have bp := k_byteAt1 (sh := sh) hTa (i := p) (by omega)
        have ep := k_eot1 (sh := sh) hTa c
        have emax : (if nI (eot T z p) < nI p + (1 : Int32) then nI p + (1 : Int32) else nI (eot T z p)) = nI (eot T z p) := by
          rw [show (1 : Int32) = nI 1 from rfl, nI_add, if_neg (by rw [q_lt (by omega) (by omega)]; omega)]
        have hstep : ∀ s, f_X8_open_1_L22 sh ln a (nI p) = s ↔ (if nI (T p) = (32 : Int32) then some (.inl (a, nI (eot T z p))) else ((f_X8_keep_1 sh ln a (nI p) (nI (eot T z p))).bind fun x51 => some (.inl (x51, nI (eot T z p)))) : Option ((Mm × Int32) ⊕ Mm)) = s := by
          intro s
          rw [f_X8_open_1_L22, hTa.2.1, if_neg (by rw [q_le (by omega) (by omega)]; omega), ep, Option.bind_some, bp, Option.bind_some, emax]
        have q32 : (nI (T p) = (32 : Int32)) = (T p = 32) := q_eq (b := 32) (by have := h256 p; omega) (by omega)
        by_cases d : T p = 32
        · have e1 : eot T z p = p + 1 := eot_sg (by rw [d]; rfl) (by rw [d]; rfl)
          refine ⟨(a, nI (p + 1)), (hstep _).mpr (by rw [if_pos (q32.mpr d), e1]), a, p + 1, k, rfl, by omega, by omega, by omega, g3, g4, g5, ?_, g7⟩
          rw [← g6]
          exact (scn_go (P := isBl) c (by rw [isBl_i]; exact d)).symm
        · obtain ⟨x, ex, hx⟩ := k_keep1 (sh := sh) hTa c (k := k) (by omega) g5
          have hnb : nb T z p = p := scn_no (fun y => d (by have := y.2; rw [isBl_i] at this; exact this))
          have hpk : tk T z k = p := by rw [← g6]; exact hnb
          obtain ⟨x1, x2, x3, x4⟩ := hx
          refine ⟨(x, nI (eot T z p)), (hstep _).mpr (by rw [if_neg (fun y => d (q32.mp y)), ex]; rfl), x, eot T z p, k + 1, rfl, by omega, heo.2, by omega, fun q h6 h7 h8 h9 => (x1 q h6 h7 h8 h9).trans (g3 q h6 h7 h8 h9), fun i hi => by rw [x2, q_upd, if_neg hi]; exact g4 i hi, by rw [x2, q_upd, if_pos rfl], ?_, fun i hi => ?_⟩
          · show _ = nx T z (tk T z k)
            rw [hpk]
            rfl
          · by_cases ei : i = k
            · rw [ei, hpk]
              exact ⟨c, x3⟩
            · have := g7 i (by omega)
              rw [(x4 i ei).1, (x4 i ei).2.1, (x4 i ei).2.2]
              exact this
      · right
        have hpz : p = z := by omega
        have hF4 : ∀ i, i ≠ 4 → mst a (6, 1) 4 (0 : Int32) (6, 1) i = a (6, 1) i := fun i hi => by rw [mst_row, mrow_self, q_upd, if_neg hi]
        have hTb : TK 1 ln (mst a (6, 1) 4 (0 : Int32)) T z := by
          unfold TK at *
          rw [hF4 5 (by omega), hF4 6 (by omega), mst_row, mrow_neA (by omega)]
          exact hTa
        have hnz : nb T z z = z := scn_no (fun y => by omega)
        have hA : KA 1 (mst a (6, 1) 4 (0 : Int32)) T z k := by
          refine ⟨by rw [hF4 3 (by omega)]; exact g5, by omega, by rw [← g6, hpz]; exact hnz, fun i hi => ?_⟩
          rw [mst_row, mrow_neA (by omega), mrow_neA (by omega), mrow_neA (by omega)]
          exact g7 i hi
        obtain ⟨r, er, hF, hK⟩ := k_stepAt1 (sh := sh) hTb hA (k := 0) (by omega) (by rw [mst_row, mrow_self, q_upd, if_pos rfl]; rfl)
        have f7 : r (6, 1) 7 = μ2 (6, 1) 7 := by rw [hF.2 7 (by omega) (by omega) (by omega) (by omega), hF4 7 (by omega)]; exact g4 7 (by omega)
        refine ⟨r, ?_, fun q h6 h7 h8 h9 => ?_, fun i hi => ?_, f7, hK⟩
        · show f_X8_open_1_L22 sh ln a (nI p) = _
          rw [f_X8_open_1_L22, hTa.2.1, if_pos (by rw [q_le (by omega) (by omega)]; omega), er]
          rfl
        · rw [hF.1 q h6, mst_row, mrow_ne h6]
          exact g3 q h6 h7 h8 h9
        · rcases hi with hi | hi | hi
          · rw [hF.2 i (by omega) (by omega) (by omega) (by omega), hF4 i (by omega)]; exact g4 i (by omega)
          · rw [hi]; exact f7
          · rw [hF.2 i (by omega) (by omega) (by omega) (by omega), hF4 i (by omega)]; exact g4 i (by omega)
    · rintro _ ⟨a, p, k, rfl, g0, g1, g2, g3, g4, g5, g6, g7⟩
      have hTa := hT2 a g3 g4
      have hpz : p = z := by omega
      have hF4 : ∀ i, i ≠ 4 → mst a (6, 1) 4 (0 : Int32) (6, 1) i = a (6, 1) i := fun i hi => by rw [mst_row, mrow_self, q_upd, if_neg hi]
      have hTb : TK 1 ln (mst a (6, 1) 4 (0 : Int32)) T z := by
        unfold TK at *
        rw [hF4 5 (by omega), hF4 6 (by omega), mst_row, mrow_neA (by omega)]
        exact hTa
      have hnz : nb T z z = z := scn_no (fun y => by omega)
      have hA : KA 1 (mst a (6, 1) 4 (0 : Int32)) T z k := by
        refine ⟨by rw [hF4 3 (by omega)]; exact g5, by omega, by rw [← g6, hpz]; exact hnz, fun i hi => ?_⟩
        rw [mst_row, mrow_neA (by omega), mrow_neA (by omega), mrow_neA (by omega)]
        exact g7 i hi
      obtain ⟨r, er, hF, hK⟩ := k_stepAt1 (sh := sh) hTb hA (k := 0) (by omega) (by rw [mst_row, mrow_self, q_upd, if_pos rfl]; rfl)
      have f7 : r (6, 1) 7 = μ2 (6, 1) 7 := by rw [hF.2 7 (by omega) (by omega) (by omega) (by omega), hF4 7 (by omega)]; exact g4 7 (by omega)
      refine ⟨r, ?_, fun q h6 h7 h8 h9 => ?_, fun i hi => ?_, f7, hK⟩
      · show f_X8_open_1_L22 sh ln a (nI p) = _
        rw [f_X8_open_1_L22, hTa.2.1, if_pos (by rw [q_le (by omega) (by omega)]; omega), er]
        rfl
      · rw [hF.1 q h6, mst_row, mrow_ne h6]
        exact g3 q h6 h7 h8 h9
      · rcases hi with hi | hi | hi
        · rw [hF.2 i (by omega) (by omega) (by omega) (by omega), hF4 i (by omega)]; exact g4 i (by omega)
        · rw [hi]; exact f7
        · rw [hF.2 i (by omega) (by omega) (by omega) (by omega), hF4 i (by omega)]; exact g4 i (by omega)
  obtain ⟨r, er, r1, r2, r3, r4⟩ := hh
  refine ⟨r, ?_, fun q h6 h7 h8 h9 => ?_, fun i hi => ?_, ?_, r4⟩
  · rw [f_X8_open_1, em, Option.bind_some]
    exact er
  · rw [r1 q h6 h7 h8 h9, h2, mrow_ne h6]
  · rw [r2 i (by omega), h2, mrow_self, q_upd, if_neg (by omega), q_upd, if_neg (by omega), q_upd, if_neg (by omega), q_upd, if_neg (by omega)]
  · rw [r3, h2, mrow_self, q_upd, if_neg (by omega), q_upd, if_pos rfl]
end OPN
