-- threes of bytes on the tape
def inb (t n : Nat) : Bool := decide (97 ≤ t ∧ t < 97 + n)
theorem sgn_th : ∀ t, t < 256 → (t < 128 → sgn t = nI t) ∧ (¬ t < 128 → sgn t < 0 ∧ sgn t - (97 : Int32) < 0) := by decide +kernel
theorem low_n : ∀ t, t < 97 → nI t - (97 : Int32) < 0 := by decide +kernel
theorem per_n {t : Nat} (h : 97 ≤ t) : nI t - (97 : Int32) = nI (t - 97) := by rw [show (97 : Int32) = nI 97 from rfl, q_sub h]
theorem inn_k {t n : Nat} (ht : t < 256) (hn : n ≤ 9) : inn (nI t - (97 : Int32)) n ↔ inb t n = true := by
  unfold inb
  rw [decide_eq_true_iff]
  refine ⟨fun ⟨p, hp, e⟩ => ?_, fun h => ⟨t - 97, by omega, per_n h.1⟩⟩
  by_cases c : 97 ≤ t
  · rw [per_n c] at e
    have e2 : (nI (t - 97) = nI p) = (t - 97 = p) := q_eq (by omega) (by omega)
    have := e2.mp e
    omega
  · have h0 := low_n t (by omega)
    rw [e] at h0
    exact absurd h0 (nI_nneg (by omega))
theorem inn_q {t n : Nat} (ht : t < 256) (hn : n ≤ 9) : inn (sgn t - (97 : Int32)) n ↔ inb t n = true := by
  by_cases c : t < 128
  · rw [(sgn_th t ht).1 c]
    exact inn_k ht hn
  · have h0 := ((sgn_th t ht).2 c).2
    refine ⟨fun ⟨p, hp, e⟩ => ?_, fun h => ?_⟩
    · rw [e] at h0
      exact absurd h0 (nI_nneg (by omega))
    · unfold inb at h
      rw [decide_eq_true_iff] at h
      omega
theorem inv_k {t m : Nat} (ht : t < 256) (hm : m ≤ 4) : inn (nI t) m ↔ t < m := by
  refine ⟨fun ⟨p, hp, e⟩ => ?_, fun h => ⟨t, h, rfl⟩⟩
  have e2 : (nI t = nI p) = (t = p) := q_eq (by omega) (by omega)
  have := e2.mp e
  omega
theorem inv_q {t m : Nat} (ht : t < 256) (hm : m ≤ 4) : inn (sgn t) m ↔ t < m := by
  by_cases c : t < 128
  · rw [(sgn_th t ht).1 c]
    exact inv_k ht hm
  · have h0 := ((sgn_th t ht).2 c).1
    refine ⟨fun ⟨p, hp, e⟩ => ?_, fun h => by omega⟩
    rw [e] at h0
    exact absurd h0 (nI_nneg (by omega))
/-- the i-th three tells something -/
def TH (T : Nat → Nat) (n M : Nat) (two : Bool) (i : Nat) : Bool := inb (T (3 * i)) n && (inb (T (3 * i + 1)) n && (decide (T (3 * i + 2) < M) && (two || !decide (T (3 * i) = T (3 * i + 1)))))
def okB (T : Nat → Nat) (z n M : Nat) (two : Bool) : Bool := decide (z % 3 = 0) && !anyN (z / 3) (fun i => !TH T n M two i)
def usd (μ : Mm) (z : Nat) : Mm := mrow μ (0, 0) (upd (upd (upd (upd (μ (0, 0)) 0 (nI 0)) 14 (nI z)) 12 (nI 0)) 13 (nI 0))
theorem mod3 {z : Nat} (hz : z ≤ 400) : ((nI z - nI z / (3 : Int32) * (3 : Int32)) = 0) = (z % 3 = 0) := by
  rw [show (3 : Int32) = nI 3 from rfl, q_div (by omega) (by omega) (by omega), pk_mul, q_rem, show (0 : Int32) = nI 0 from rfl, q_eq (by omega) (by omega)]
section THQ
variable {μ : Mm} {V n N w0 z : Nat} {r : Nat → Int32} {T : Nat → Nat}
theorem q_uses (h12 : μ (0, 0) 12 = nI z) : f_X11_uses μ = some (usd μ z) := by
  rw [f_X11_uses]
  simp only [mst_row, mrow_mrow, mrow_self, q_upd, h12]
  rfl
theorem q_th (h : RS μ V n N w0 r) (hz : z ≤ 400) (h256 : ∀ i, T i < 256) (h14 : μ (0, 0) 14 = nI z) (hT : ∀ i, i < 400 → μ (11, 0) i = sgn (T i)) {M : Nat} (hM : M ≤ 4) (two : Bool) {k : Nat} (hk : k < z / 3) :
    f_X11_readThrees_L22 (nI M - (1 : Int32)) (bI two) μ (bI true) (nI (3 * k)) = some (.inl (bI (TH T n M two k), nI (3 * (k + 1)))) := by
  have hn : n ≤ 9 := h.2.b.2.2.2.2.1
  have np : ∀ t, t < 256 → f_X11_noPerson μ (sgn t - (97 : Int32)) = some (bI (!inb t n)) := fun t ht => by
    by_cases c : inb t n = true
    · rw [(q_noPerson h _).1 ((inn_q ht hn).mpr c), c]; rfl
    · rw [(q_noPerson h _).2 (fun x => c ((inn_q ht hn).mp x))]
      have : inb t n = false := by cases hh : inb t n; rfl; exact absurd hh c
      rw [this]; rfl
  have ni : ∀ t, t < 256 → f_X11_in (sgn t) (0 : Int32) (nI M - (1 : Int32)) = some (bI (decide (t < M))) := fun t ht => by
    by_cases c : t < M
    · rw [(q_inn (by omega) _).1 ((inv_q ht hM).mpr c), decide_eq_true c]; rfl
    · rw [(q_inn (by omega) _).2 (fun x => c ((inv_q ht hM).mp x)), decide_eq_false c]; rfl
  have e1 : nI (3 * k) + (1 : Int32) = nI (3 * k + 1) := by rw [show (1 : Int32) = nI 1 from rfl, nI_add]
  have e2 : nI (3 * k) + (2 : Int32) = nI (3 * k + 2) := by rw [show (2 : Int32) = nI 2 from rfl, nI_add]
  have e3 : nI (3 * k) + (3 : Int32) = nI (3 * (k + 1)) := by rw [show (3 : Int32) = nI 3 from rfl, nI_add, show 3 * k + 3 = 3 * (k + 1) by omega]
  have hlt : ¬ nI z ≤ nI (3 * k + 2) := by rw [q_le (by omega) (by omega)]; omega
  unfold f_X11_readThrees_L22
  rw [h14, e1, e2, e3, if_neg hlt, if_neg (show ¬ bI true = 0 by decide), q_ck (by omega) (by omega), q_cl (by omega), hT _ (by omega), np _ (h256 _), Option.bind_some]
  unfold TH
  cases hA : inb (T (3 * k)) n
  · rw [if_neg (show ¬ bI (!false) = 0 by decide)]; rfl
  · rw [if_pos (show bI (!true) = 0 from rfl), q_ck (by omega) (by omega), q_cl (by omega), hT _ (by omega), np _ (h256 _), Option.bind_some]
    cases hB : inb (T (3 * k + 1)) n
    · rw [if_neg (show ¬ bI (!false) = 0 by decide)]; rfl
    · rw [if_pos (show bI (!true) = 0 from rfl), q_ck (by omega) (by omega), q_cl (by omega), hT _ (by omega), ni _ (h256 _), Option.bind_some]
      cases hC : decide (T (3 * k + 2) < M)
      · rw [if_pos (show bI false = 0 from rfl)]; rfl
      · rw [if_neg (show ¬ bI true = 0 by decide)]
        cases two
        · have hA' : 97 ≤ T (3 * k) ∧ T (3 * k) < 97 + n := by unfold inb at hA; exact of_decide_eq_true hA
          have hB' : 97 ≤ T (3 * k + 1) ∧ T (3 * k + 1) < 97 + n := by unfold inb at hB; exact of_decide_eq_true hB
          rw [if_pos (show bI false = 0 from rfl), q_ck (by omega) (by omega), q_ck (by omega) (by omega), (sgn_th _ (h256 _)).1 (by omega), (sgn_th _ (h256 _)).1 (by omega)]
          have ee : (nI (T (3 * k)) = nI (T (3 * k + 1))) = (T (3 * k) = T (3 * k + 1)) := q_eq (by omega) (by omega)
          by_cases c : T (3 * k) = T (3 * k + 1)
          · rw [if_pos (ee.mpr c), decide_eq_true c]; rfl
          · rw [if_neg (fun x => c (ee.mp x)), decide_eq_false c]; rfl
        · rw [if_neg (show ¬ bI true = 0 by decide)]; rfl
theorem q_readThrees (h : RS μ V n N w0 r) (h12 : μ (0, 0) 12 = nI z) (hz : z ≤ 400) (h256 : ∀ i, T i < 256) (hT : ∀ i, i < 400 → μ (11, 0) i = sgn (T i)) {M : Nat} (hM : M ≤ 4) (two : Bool) :
    f_X11_readThrees μ (nI M - (1 : Int32)) (bI two) = some (bI (okB T z n M two), usd μ z) := by
  obtain ⟨m, hm⟩ : ∃ m, m = usd μ z := ⟨_, rfl⟩
  have h' : RS m V n N w0 r := by rw [hm]; exact h.row _ (by omega)
  have m14 : m (0, 0) 14 = nI z := by rw [hm]; unfold usd; rw [mrow_self]; rfl
  have mT : ∀ i, i < 400 → m (11, 0) i = sgn (T i) := fun i hi => by rw [hm]; unfold usd; rw [mrow_neA (by omega)]; exact hT i hi
  have key : ∀ s0 : Bool, f_X11_readThrees_J18 m (nI M - (1 : Int32)) (bI two) (bI s0) = some (bI (s0 && !anyN (z / 3) (fun i => !TH T n M two i)), m) := by
    intro s0
    have hh : ∃ x, Wh (fun z : Int32 × Int32 => f_X11_readThrees_L22 (nI M - (1 : Int32)) (bI two) m z.1 z.2) (bI s0, (0 : Int32)) = some x ∧ x = (bI (s0 && !anyN (z / 3) (fun i => !TH T n M two i)), m) := by
      have hend : ∀ b : Bool, ∀ v, (nI z ≤ v + (2 : Int32) ∨ b = false) → f_X11_readThrees_L22 (nI M - (1 : Int32)) (bI two) m (bI b) v = some (.inr (bI b, m)) := fun b v hv => by
        unfold f_X11_readThrees_L22
        rw [m14, q_cbI]
        by_cases c : nI z ≤ v + (2 : Int32)
        · rw [if_pos c]; rfl
        · rw [if_neg c, hv.resolve_left c, if_pos (show bI false = 0 from rfl)]; rfl
      refine Wh_inv (z / 3) (fun k s => s = (bI (s0 && !anyN k (fun i => !TH T n M two i)), nI (3 * k))) _ (by cases s0 <;> rfl) ?_ ?_
      · rintro k _ hk rfl
        have hstep := q_th h' hz h256 m14 mT hM two hk
        have es : (s0 && !anyN (k + 1) (fun i => !TH T n M two i)) = ((s0 && !anyN k (fun i => !TH T n M two i)) && TH T n M two k) := by
          show (s0 && !(anyN k (fun i => !TH T n M two i) || !TH T n M two k)) = _
          cases s0 <;> cases anyN k (fun i => !TH T n M two i) <;> cases TH T n M two k <;> rfl
        cases hb : (s0 && !anyN k (fun i => !TH T n M two i))
        · right
          refine ⟨_, hend false _ (Or.inr rfl), ?_⟩
          have : (s0 && !anyN (z / 3) (fun i => !TH T n M two i)) = false := by
            cases s0
            · rfl
            · have hk1 : anyN k (fun i => !TH T n M two i) = true := by cases hh : anyN k (fun i => !TH T n M two i); rw [hh] at hb; cases hb; rfl
              obtain ⟨i, hi, hi2⟩ := anyN_iff.mp hk1
              have : anyN (z / 3) (fun i => !TH T n M two i) = true := anyN_iff.mpr ⟨i, by omega, hi2⟩
              rw [this]; rfl
          rw [this]
        · left
          refine ⟨_, hstep, ?_⟩
          rw [es, hb, Bool.true_and]
      · rintro _ rfl
        refine ⟨_, hend _ _ (Or.inl ?_), rfl⟩
        show nI z ≤ nI (3 * (z / 3)) + (2 : Int32)
        rw [show (2 : Int32) = nI 2 from rfl, nI_add, q_le (by omega) (by omega)]
        omega
    obtain ⟨_, e, rfl⟩ := hh
    exact e
  rw [f_X11_readThrees, q_uses h12, Option.bind_some, ← hm, m14]
  have em := mod3 hz
  unfold okB
  by_cases c : z % 3 = 0
  · rw [if_pos (em.mpr c), decide_eq_true c]
    exact key true
  · rw [if_neg (fun x => c (em.mp x)), decide_eq_false c]
    exact key false
end THQ
section THK
variable {sh : Sh} {ln : Nat → Nat} {μ : Mm} {j V n N w0 z : Nat} {r : Nat → Int32} {T : Nat → Nat}
theorem k_tape (hL : LN ln) (hT : ∀ i, i < 400 → μ (12, 0) i = nI (T i)) {i : Nat} (hi : i < 400) : f_X7_byteAt sh ln μ (nI i) = some (nI (T i)) := by
  have h0 : ln 0 = 400 := hL.1
  rw [f_X7_byteAt, k_at (by omega) (by omega), Option.bind_some, hT i hi]
theorem k_personAt (hL : LN ln) (hT : ∀ i, i < 400 → μ (12, 0) i = nI (T i)) {i : Nat} (hi : i < 400) : f_X5_personAt sh ln μ (nI i) = some (nI (T i) - (97 : Int32)) := by
  rw [f_X5_personAt, k_tape hL hT hi, Option.bind_some]
theorem k_hpb (h : CS ln μ j V n N w0 r) {t : Nat} (ht : t < 256) : f_X6_hasPerson sh ln j μ (nI t - (97 : Int32)) = some (bI (inb t n)) := by
  have hn : n ≤ 9 := h.1.b.2.2.2.2.1
  by_cases c : inb t n = true
  · rw [(k_hasP h _).1 ((inn_k ht hn).mpr c), c]; rfl
  · rw [(k_hasP h _).2 (fun x => c ((inn_k ht hn).mp x))]
    have : inb t n = false := by cases hh : inb t n; rfl; exact absurd hh c
    rw [this]; rfl
theorem k_hnb (h : CS ln μ j V n N w0 r) {t : Nat} (ht : t < 256) : f_X6_hasNotice sh ln j μ (nI t) = some (bI (decide (t < V))) := by
  have hV : V ≤ 4 := h.1.b.2.1
  by_cases c : t < V
  · rw [(k_hasN h _).1 ((inv_k ht hV).mpr c), decide_eq_true c]; rfl
  · rw [(k_hasN h _).2 (fun x => c ((inv_k ht hV).mp x)), decide_eq_false c]; rfl
/-- a loop over threes that ends at the first that tells nothing -/
theorem k_threes {f : Int32 → Option (Int32 ⊕ Int32)} {ok : Nat → Bool} (hz : z ≤ 400)
    (hs : ∀ k, k < z / 3 → f (nI (3 * k)) = some (if ok k = true then .inl (nI (3 * (k + 1))) else .inr 0))
    (he : ∀ k, z / 3 ≤ k → k < 200 → f (nI (3 * k)) = some (.inr (if (nI z - nI z / (3 : Int32) * (3 : Int32)) = 0 then 1 else 0))) :
    Wh f (0 : Int32) = some (bI (decide (z % 3 = 0) && !anyN (z / 3) (fun i => !ok i))) := by
  have hh : ∃ x, Wh f (nI (3 * 0)) = some x ∧ x = bI (decide (z % 3 = 0) && !anyN (z / 3) (fun i => !ok i)) := by
    refine Wh_inv (z / 3) (fun k s => s = nI (3 * k) ∧ anyN k (fun i => !ok i) = false) _ ⟨rfl, rfl⟩ ?_ ?_
    · rintro k _ hk ⟨rfl, ha⟩
      have := hs k hk
      cases hb : ok k
      · right
        rw [hb, if_neg (by decide)] at this
        refine ⟨0, this, ?_⟩
        have h1 : anyN (z / 3) (fun i => !ok i) = true := anyN_iff.mpr ⟨k, hk, by rw [hb]; rfl⟩
        rw [h1]
        cases decide (z % 3 = 0) <;> rfl
      · left
        rw [hb, if_pos rfl] at this
        exact ⟨_, this, rfl, by show (anyN k (fun i => !ok i) || !ok k) = false; rw [ha, hb]; rfl⟩
    · rintro _ ⟨rfl, ha⟩
      refine ⟨_, he _ (Nat.le_refl _) (by omega), ?_⟩
      have em := mod3 hz
      rw [ha]
      by_cases c : z % 3 = 0
      · rw [if_pos (em.mpr c), decide_eq_true c]; rfl
      · rw [if_neg (fun x => c (em.mp x)), decide_eq_false c]; rfl
  obtain ⟨_, e, rfl⟩ := hh
  exact e
theorem k_tellsSayings (h : CS ln μ j V n N w0 r) (hL : LN ln) (hz : z ≤ 400) (h256 : ∀ i, T i < 256) (hT : ∀ i, i < 400 → μ (12, 0) i = nI (T i)) :
    f_X5_tellsSayings sh ln j μ (nI z) = some (bI (okB T z n V true)) := by
  refine k_threes (ok := TH T n V true) hz (fun k hk => ?_) (fun k hk hk2 => ?_)
  · show f_X5_tellsSayings_L3 sh ln j (nI z) μ (nI (3 * k)) = _
    have e1 : nI (3 * k) + (1 : Int32) = nI (3 * k + 1) := by rw [show (1 : Int32) = nI 1 from rfl, nI_add]
    have e2 : nI (3 * k) + (2 : Int32) = nI (3 * k + 2) := by rw [show (2 : Int32) = nI 2 from rfl, nI_add]
    have e3 : nI (3 * k) + (3 : Int32) = nI (3 * (k + 1)) := by rw [show (3 : Int32) = nI 3 from rfl, nI_add, show 3 * k + 3 = 3 * (k + 1) by omega]
    have hlt : ¬ nI z ≤ nI (3 * k + 2) := by rw [q_le (by omega) (by omega)]; omega
    unfold f_X5_tellsSayings_L3
    rw [e1, e2, e3, if_neg hlt, k_personAt hL hT (by omega), Option.bind_some, k_hpb h (h256 _), Option.bind_some]
    unfold TH
    cases hA : inb (T (3 * k)) n
    · rw [if_pos (show bI false = 0 from rfl)]; rfl
    · rw [if_neg (show ¬ bI true = 0 by decide), k_personAt hL hT (by omega), Option.bind_some, k_hpb h (h256 _), Option.bind_some]
      cases hB : inb (T (3 * k + 1)) n
      · rw [if_pos (show bI false = 0 from rfl)]; rfl
      · rw [if_neg (show ¬ bI true = 0 by decide), k_tape hL hT (by omega), Option.bind_some, k_hnb h (h256 _), Option.bind_some]
        cases hC : decide (T (3 * k + 2) < V)
        · rw [if_pos (show bI false = 0 from rfl)]; rfl
        · rw [if_neg (show ¬ bI true = 0 by decide)]; rfl
  · show f_X5_tellsSayings_L3 sh ln j (nI z) μ (nI (3 * k)) = _
    unfold f_X5_tellsSayings_L3
    rw [show (2 : Int32) = nI 2 from rfl, nI_add, if_pos (by rw [q_le (by omega) (by omega)]; omega)]
    by_cases c : (nI z - nI z / (3 : Int32) * (3 : Int32)) = 0
    · rw [if_pos c, if_pos c]; rfl
    · rw [if_neg c, if_neg c]; rfl
theorem k_tellsPairs (h : CS ln μ j V n N w0 r) (hL : LN ln) (hz : z ≤ 400) (h256 : ∀ i, T i < 256) (hT : ∀ i, i < 400 → μ (12, 0) i = nI (T i)) :
    f_X5_tellsPairs sh ln j μ (nI z) = some (bI (okB T z n 2 false)) := by
  have hn : n ≤ 9 := h.1.b.2.2.2.2.1
  refine k_threes (ok := TH T n 2 false) hz (fun k hk => ?_) (fun k hk hk2 => ?_)
  · show f_X5_tellsPairs_L3 sh ln j (nI z) μ (nI (3 * k)) = _
    have e1 : nI (3 * k) + (1 : Int32) = nI (3 * k + 1) := by rw [show (1 : Int32) = nI 1 from rfl, nI_add]
    have e2 : nI (3 * k) + (2 : Int32) = nI (3 * k + 2) := by rw [show (2 : Int32) = nI 2 from rfl, nI_add]
    have e3 : nI (3 * k) + (3 : Int32) = nI (3 * (k + 1)) := by rw [show (3 : Int32) = nI 3 from rfl, nI_add, show 3 * k + 3 = 3 * (k + 1) by omega]
    have hlt : ¬ nI z ≤ nI (3 * k + 2) := by rw [q_le (by omega) (by omega)]; omega
    unfold f_X5_tellsPairs_L3
    rw [e1, e2, e3, if_neg hlt, k_personAt hL hT (by omega), Option.bind_some, k_personAt hL hT (by omega), Option.bind_some, k_hpb h (h256 _), Option.bind_some]
    unfold TH
    cases hA : inb (T (3 * k)) n
    · rw [if_pos (show bI false = 0 from rfl)]; rfl
    · rw [if_neg (show ¬ bI true = 0 by decide), k_hpb h (h256 _), Option.bind_some]
      cases hB : inb (T (3 * k + 1)) n
      · rw [if_pos (show bI false = 0 from rfl)]; rfl
      · have hA' : 97 ≤ T (3 * k) ∧ T (3 * k) < 97 + n := by unfold inb at hA; exact of_decide_eq_true hA
        have hB' : 97 ≤ T (3 * k + 1) ∧ T (3 * k + 1) < 97 + n := by unfold inb at hB; exact of_decide_eq_true hB
        have ee : (nI (T (3 * k) - 97) = nI (T (3 * k + 1) - 97)) = (T (3 * k) - 97 = T (3 * k + 1) - 97) := q_eq (by omega) (by omega)
        rw [if_neg (show ¬ bI true = 0 by decide), per_n hA'.1, per_n hB'.1]
        by_cases c : T (3 * k) = T (3 * k + 1)
        · rw [if_pos (ee.mpr (by omega)), decide_eq_true c]
          cases decide (T (3 * k + 2) < 2) <;> rfl
        · have l1 : (nI (T (3 * k + 2)) ≤ (1 : Int32)) = (T (3 * k + 2) ≤ 1) := q_le (b := 1) (by have := h256 (3 * k + 2); omega) (by omega)
          rw [if_neg (fun x => c (by have := ee.mp x; omega)), k_tape hL hT (by omega), Option.bind_some, decide_eq_false c]
          by_cases c2 : T (3 * k + 2) < 2
          · rw [if_pos (l1.mpr (by omega)), decide_eq_true c2]; rfl
          · rw [if_neg (fun x => c2 (by have := l1.mp x; omega)), decide_eq_false c2]; rfl
  · show f_X5_tellsPairs_L3 sh ln j (nI z) μ (nI (3 * k)) = _
    unfold f_X5_tellsPairs_L3
    rw [show (2 : Int32) = nI 2 from rfl, nI_add, if_pos (by rw [q_le (by omega) (by omega)]; omega)]
    by_cases c : (nI z - nI z / (3 : Int32) * (3 : Int32)) = 0
    · rw [if_pos c, if_pos c]; rfl
    · rw [if_neg c, if_neg c]; rfl
end THK
