-- the game of two who read out
def gmv (e : Nat → Bool) (wn : Nat → Int32) (s p : Nat) : Int32 := if e (s ||| 2 ^ p) = true then -nI 1 else -(wn (s ||| 2 ^ p))
def gmb (e : Nat → Bool) (wn : Nat → Int32) (x s : Nat) : Nat → Option Nat × Int32
  | 0 => (none, nI 0)
  | p + 1 => if p ≠ x ∧ s.testBit p = false then (if (gmb e wn x s p).1 = none ∨ (gmb e wn x s p).2 < gmv e wn s p then (some p, gmv e wn s p) else gmb e wn x s p) else gmb e wn x s p
theorem gmb_s (e : Nat → Bool) (wn : Nat → Int32) (x s p : Nat) : gmb e wn x s (p + 1) = if p ≠ x ∧ s.testBit p = false then (if (gmb e wn x s p).1 = none ∨ (gmb e wn x s p).2 < gmv e wn s p then (some p, gmv e wn s p) else gmb e wn x s p) else gmb e wn x s p := rfl
theorem gmb_lt {e : Nat → Bool} {wn : Nat → Int32} {x s p q : Nat} (h : (gmb e wn x s p).1 = some q) : q < p ∧ q ≠ x ∧ s.testBit q = false ∧ (gmb e wn x s p).2 = gmv e wn s q := by
  induction p with
  | zero => cases h
  | succ p ih =>
    rw [gmb_s] at h ⊢
    by_cases c : p ≠ x ∧ s.testBit p = false
    · rw [if_pos c] at h ⊢
      by_cases c2 : (gmb e wn x s p).1 = none ∨ (gmb e wn x s p).2 < gmv e wn s p
      · rw [if_pos c2] at h ⊢
        cases h
        exact ⟨by omega, c.1, c.2, rfl⟩
      · rw [if_neg c2] at h ⊢
        have := ih h
        exact ⟨by omega, this.2⟩
    · rw [if_neg c] at h ⊢
      have := ih h
      exact ⟨by omega, this.2⟩
theorem gmb_0 {e : Nat → Bool} {wn : Nat → Int32} {x s p : Nat} (h : (gmb e wn x s p).1 = none) : (gmb e wn x s p).2 = nI 0 := by
  induction p with
  | zero => rfl
  | succ p ih =>
    rw [gmb_s] at h ⊢
    by_cases c : p ≠ x ∧ s.testBit p = false
    · rw [if_pos c] at h ⊢
      by_cases c2 : (gmb e wn x s p).1 = none ∨ (gmb e wn x s p).2 < gmv e wn s p
      · rw [if_pos c2] at h; cases h
      · rw [if_neg c2] at h ⊢; exact ih h
    · rw [if_neg c] at h ⊢; exact ih h
theorem or_up {s p n : Nat} (hs : s < 2 ^ n) (hp : p < n) (h : s.testBit p = false) : s < s ||| 2 ^ p ∧ s ||| 2 ^ p < 2 ^ n := by
  have h1 : s ≤ s ||| 2 ^ p := Nat.left_le_or
  have h2 : s ≠ s ||| 2 ^ p := fun e => by
    have : (s ||| 2 ^ p).testBit p = true := by rw [Nat.testBit_or, Nat.testBit_two_pow_self, Bool.or_true]
    rw [← e, h] at this; cases this
  exact ⟨by omega, Nat.or_lt_two_pow hs (Nat.pow_lt_pow_right (by decide) hp)⟩
theorem or_tb {s p x : Nat} (hp : p ≠ x) : (s ||| 2 ^ p).testBit x = s.testBit x := by
  rw [Nat.testBit_or, Nat.testBit_two_pow]
  simp [hp]
theorem gmb_congr {e : Nat → Bool} {wn wn' : Nat → Int32} {x s n : Nat} (h : ∀ p, p < n → p ≠ x → s.testBit p = false → wn (s ||| 2 ^ p) = wn' (s ||| 2 ^ p)) : ∀ p, p ≤ n → gmb e wn x s p = gmb e wn' x s p := by
  intro p
  induction p with
  | zero => intro _; rfl
  | succ p ih =>
    intro hp
    have e1 := ih (by omega)
    rw [gmb_s, gmb_s, e1]
    by_cases c : p ≠ x ∧ s.testBit p = false
    · have e2 : gmv e wn s p = gmv e wn' s p := by unfold gmv; rw [h p (by omega) c.1 c.2]
      rw [e2]
    · rw [if_neg c, if_neg c]
def wnT (e : Nat → Bool) (x n : Nat) : Nat → (Nat → Int32)
  | 0 => fun _ => nI 0
  | k + 1 => if (2 ^ n - 1 - k).testBit x = true then wnT e x n k else upd (wnT e x n k) (2 ^ n - 1 - k) (gmb e (wnT e x n k) x (2 ^ n - 1 - k) n).2
theorem wnT_s (e : Nat → Bool) (x n k : Nat) : wnT e x n (k + 1) = if (2 ^ n - 1 - k).testBit x = true then wnT e x n k else upd (wnT e x n k) (2 ^ n - 1 - k) (gmb e (wnT e x n k) x (2 ^ n - 1 - k) n).2 := rfl
/-- a row of wins as far as it is told -/
def WT (e : Nat → Bool) (x n k : Nat) (row : Nat → Int32) : Prop := ∀ s, 2 ^ n - k ≤ s → s < 2 ^ n → s.testBit x = false → row s = wnT e x n k s
theorem WT_gmb {e : Nat → Bool} {x n k : Nat} {row : Nat → Int32} (h : WT e x n k row) (hk : k < 2 ^ n) (hx : (2 ^ n - 1 - k).testBit x = false) : gmb e row x (2 ^ n - 1 - k) n = gmb e (wnT e x n k) x (2 ^ n - 1 - k) n :=
  gmb_congr (fun p hp hpx hs => by
    have := or_up (s := 2 ^ n - 1 - k) (n := n) (by omega) hp hs
    exact h _ (by omega) this.2 (by rw [or_tb hpx]; exact hx)) n (Nat.le_refl n)
theorem WT_step {e : Nat → Bool} {x n k : Nat} {row : Nat → Int32} (h : WT e x n k row) (hk : k < 2 ^ n) (hx : (2 ^ n - 1 - k).testBit x = false) : WT e x n (k + 1) (upd row (2 ^ n - 1 - k) (gmb e (wnT e x n k) x (2 ^ n - 1 - k) n).2) := by
  intro s h1 h2 h3
  rw [wnT_s, if_neg (by rw [hx]; decide), q_upd, q_upd]
  by_cases c : s = 2 ^ n - 1 - k
  · rw [if_pos c, if_pos c]
  · rw [if_neg c, if_neg c]; exact h s (by omega) h2 h3
theorem WT_skip {e : Nat → Bool} {x n k : Nat} {row : Nat → Int32} (h : WT e x n k row) (hk : k < 2 ^ n) (hx : (2 ^ n - 1 - k).testBit x = true) : WT e x n (k + 1) row := by
  intro s h1 h2 h3
  rw [wnT_s, if_pos hx]
  by_cases c : s = 2 ^ n - 1 - k
  · rw [c, hx] at h3; cases h3
  · exact h s (by omega) h2 h3
/-- the counter that falls from the whole set to below none -/
def dwn (n k : Nat) : Int32 := if k < 2 ^ n then nI (2 ^ n - 1 - k) else -nI 1
theorem dwn_lt {n k : Nat} (h : k < 2 ^ n) : dwn n k = nI (2 ^ n - 1 - k) := if_pos h
theorem dwn_end (n : Nat) : dwn n (2 ^ n) = -nI 1 := if_neg (by omega)
theorem dwn_s {n k : Nat} (h : k < 2 ^ n) : nI (2 ^ n - 1 - k) + -nI 1 = dwn n (k + 1) := by
  by_cases c : k + 1 < 2 ^ n
  · rw [dwn_lt c, q_addn (by omega)]
    exact congrArg nI (by omega)
  · unfold dwn
    rw [if_neg c, show 2 ^ n - 1 - k = 0 by omega]
    decide
theorem m1_lt : (-nI 1 : Int32) < nI 0 := by decide
theorem rdA_0 (V n N w0 : Nat) (r : Nat → Int32) (p : Nat) : rdA V n N w0 0 r p = r := by
  induction p with
  | zero => rfl
  | succ p ih => rw [rdA_s, if_neg (by simp), ih]
theorem stl_0 (r : Nat → Int32) (V n N w0 p : Nat) : stl r V n N w0 p 0 = suR r V n N p w0 := by
  unfold stl
  rw [rdA_0]
def gam (r : Nat → Int32) (V n N w0 p : Nat) (whom : Bool) : Int32 := if suR r V n N p w0 = true then -nI 2 else if whom = true then oN (gmb (stl r V n N w0 p) (wnT (stl r V n N w0 p) p n (2 ^ n)) p 0 n).1 else wnT (stl r V n N w0 p) p n (2 ^ n) 0
theorem oN_lt0 {o : Option Nat} (h : ∀ q, o = some q → q < 512) : (oN o < nI 0) = (o = none) := by
  cases o with
  | none => exact propext ⟨fun _ => rfl, fun _ => m1_lt⟩
  | some q =>
    have := h q rfl
    refine propext ⟨fun e => ?_, fun e => by cases e⟩
    have e : nI q < nI 0 := e
    rw [q_lt (by omega) (by omega)] at e
    omega
theorem oN_ge0 {o : Option Nat} (h : ∀ q, o = some q → q < 512) : (nI 0 ≤ oN o) = ¬ (o = none) := by
  rw [← oN_lt0 h, Int32.not_lt]
theorem nle_of_lt {a b : Int32} : (a ≤ b) = ¬ (b < a) := propext Int32.not_lt.symm
section GAMQ
variable {μ : Mm} {V n N w0 : Nat} {r : Nat → Int32}
theorem q_winBy {e : Nat → Bool} {s p : Nat} (hs : s ||| 2 ^ p < 512) (hp : p < 31) (he : μ (30, 0) (s ||| 2 ^ p) = bI (e (s ||| 2 ^ p))) : f_X11_winBy μ (nI s) (nI p) = some (gmv e (μ (31, 0)) s p) := by
  unfold gmv
  cases c : e (s ||| 2 ^ p)
  · rw [c] at he
    simp (disch := omega) only [Option.bind_some, Option.map_some, Option.bind_none, q_lit, nI_add, pk_mul, q_sub, q_addn, q_cl, q_le, q_lt, q_eq, q_ck, q_cd, q_cb0, q_cb1, q_div, q_rem, q_shl1, q_shr, q_and, q_or, q_tb, if_pos, if_neg, if_true, if_false, not_true, not_false_iff, eq_self, Bool.true_eq_false, Bool.false_eq_true, q_bI0, q_bI1, q_cbI, Nat.or_zero, mst_row, mrow_neA, mrow_neB, mrow_self, q_upd, f_X11_winBy, he, bI_f]
  · rw [c] at he
    simp (disch := omega) only [Option.bind_some, Option.map_some, Option.bind_none, q_lit, nI_add, pk_mul, q_sub, q_addn, q_cl, q_le, q_lt, q_eq, q_ck, q_cd, q_cb0, q_cb1, q_div, q_rem, q_shl1, q_shr, q_and, q_or, q_tb, if_pos, if_neg, if_true, if_false, not_true, not_false_iff, eq_self, Bool.true_eq_false, Bool.false_eq_true, q_bI0, q_bI1, q_cbI, Nat.or_zero, mst_row, mrow_neA, mrow_neB, mrow_self, q_upd, f_X11_winBy, he, bI_t]
theorem q_bestOf (h : RS μ V n N w0 r) {e : Nat → Bool} {x s : Nat} (hs : s < 2 ^ n) (hx : s.testBit x = false) (hx2 : x < n) (he : ∀ s', s < s' → s' < 2 ^ n → s'.testBit x = false → μ (30, 0) s' = bI (e s')) : f_X11_bestOf μ (nI x) (nI s) = some (oN (gmb e (μ (31, 0)) x s n).1) := by
  have hb := h.2.b
  have h9 := pow_512 hb.2.2.2.2.1
  unfold f_X11_bestOf
  refine Wh_it n (fun k => (oN (gmb e (μ (31, 0)) x s k).1, nI k)) rfl (fun k hk => ?_) ?_
  · show f_X11_bestOf_L5 (nI x) (nI s) μ (oN (gmb e (μ (31, 0)) x s k).1) (nI k) = some (.inl (oN (gmb e (μ (31, 0)) x s (k + 1)).1, nI (k + 1)))
    rw [gmb_s]
    have e0 := q_has (m := s) (p := k) (by omega) (by omega)
    by_cases c1 : k = x
    · subst c1
      simp (disch := omega) only [Option.bind_some, Option.map_some, Option.bind_none, q_lit, nI_add, pk_mul, q_sub, q_addn, q_cl, q_le, q_lt, q_eq, q_ck, q_cd, q_cb0, q_cb1, q_div, q_rem, q_shl1, q_shr, q_and, q_or, q_tb, if_pos, if_neg, if_true, if_false, not_true, not_false_iff, eq_self, Bool.true_eq_false, Bool.false_eq_true, q_bI0, q_bI1, q_cbI, Nat.or_zero, mst_row, mrow_neA, mrow_neB, mrow_self, q_upd, f_X11_bestOf_L5, q_people h, ne_eq, not_true, false_and]
    · by_cases c2 : s.testBit k = true
      · have c3 : ¬ (k ≠ x ∧ s.testBit k = false) := fun z => by rw [c2] at z; exact absurd z.2 (by decide)
        rw [if_neg c3]
        simp (disch := omega) only [Option.bind_some, Option.map_some, Option.bind_none, q_lit, nI_add, pk_mul, q_sub, q_addn, q_cl, q_le, q_lt, q_eq, q_ck, q_cd, q_cb0, q_cb1, q_div, q_rem, q_shl1, q_shr, q_and, q_or, q_tb, if_pos, if_neg, if_true, if_false, not_true, not_false_iff, eq_self, Bool.true_eq_false, Bool.false_eq_true, q_bI0, q_bI1, q_cbI, Nat.or_zero, mst_row, mrow_neA, mrow_neB, mrow_self, q_upd, f_X11_bestOf_L5, q_people h, c1, e0, c2]
      · have c2 := Bool.not_eq_true _ ▸ c2
        rw [if_pos ⟨c1, c2⟩]
        have hu := or_up hs hk c2
        have w1 := q_winBy (μ := μ) (e := e) (s := s) (p := k) (by omega) (by omega) (he _ hu.1 hu.2 (by rw [or_tb c1]; exact hx))
        cases cb : (gmb e (μ (31, 0)) x s k).1 with
        | none =>
          have hv : oN none = -nI 1 := rfl
          rw [if_pos (Or.inl rfl)]
          simp (disch := omega) only [Option.bind_some, Option.map_some, Option.bind_none, q_lit, nI_add, pk_mul, q_sub, q_addn, q_cl, q_le, q_lt, q_eq, q_ck, q_cd, q_cb0, q_cb1, q_div, q_rem, q_shl1, q_shr, q_and, q_or, q_tb, if_pos, if_neg, if_true, if_false, not_true, not_false_iff, eq_self, Bool.true_eq_false, Bool.false_eq_true, q_bI0, q_bI1, q_cbI, Nat.or_zero, mst_row, mrow_neA, mrow_neB, mrow_self, q_upd, hv, f_X11_bestOf_L5, q_people h, c1, e0, c2, if_pos m1_lt]
          rfl
        | some q =>
          have hq := gmb_lt cb
          have hv : oN (some q) = nI q := rfl
          have hu2 := or_up hs (show q < n by omega) hq.2.2.1
          have w2 := q_winBy (μ := μ) (e := e) (s := s) (p := q) (by omega) (by omega) (he _ hu2.1 hu2.2 (by rw [or_tb hq.2.1]; exact hx))
          rw [hq.2.2.2]
          by_cases c3 : gmv e (μ (31, 0)) s q < gmv e (μ (31, 0)) s k
          · rw [if_pos (Or.inr c3)]
            simp (disch := omega) only [Option.bind_some, Option.map_some, Option.bind_none, q_lit, nI_add, pk_mul, q_sub, q_addn, q_cl, q_le, q_lt, q_eq, q_ck, q_cd, q_cb0, q_cb1, q_div, q_rem, q_shl1, q_shr, q_and, q_or, q_tb, if_pos, if_neg, if_true, if_false, not_true, not_false_iff, eq_self, Bool.true_eq_false, Bool.false_eq_true, q_bI0, q_bI1, q_cbI, Nat.or_zero, mst_row, mrow_neA, mrow_neB, mrow_self, q_upd, hv, f_X11_bestOf_L5, q_people h, c1, e0, c2, w1, w2, nle_of_lt, c3]
            rfl
          · rw [if_neg (by simp [c3]), cb]
            simp (disch := omega) only [Option.bind_some, Option.map_some, Option.bind_none, q_lit, nI_add, pk_mul, q_sub, q_addn, q_cl, q_le, q_lt, q_eq, q_ck, q_cd, q_cb0, q_cb1, q_div, q_rem, q_shl1, q_shr, q_and, q_or, q_tb, if_pos, if_neg, if_true, if_false, not_true, not_false_iff, eq_self, Bool.true_eq_false, Bool.false_eq_true, q_bI0, q_bI1, q_cbI, Nat.or_zero, mst_row, mrow_neA, mrow_neB, mrow_self, q_upd, hv, f_X11_bestOf_L5, q_people h, c1, e0, c2, w1, w2, nle_of_lt, c3]
  · show f_X11_bestOf_L5 (nI x) (nI s) μ (oN (gmb e (μ (31, 0)) x s n).1) (nI n) = _
    simp (disch := omega) only [Option.bind_some, Option.map_some, Option.bind_none, q_lit, nI_add, pk_mul, q_sub, q_addn, q_cl, q_le, q_lt, q_eq, q_ck, q_cd, q_cb0, q_cb1, q_div, q_rem, q_shl1, q_shr, q_and, q_or, q_tb, if_pos, if_neg, if_true, if_false, not_true, not_false_iff, eq_self, Bool.true_eq_false, Bool.false_eq_true, q_bI0, q_bI1, q_cbI, Nat.or_zero, mst_row, mrow_neA, mrow_neB, mrow_self, q_upd, f_X11_bestOf_L5, q_people h, Nat.le_refl]
theorem q_game (h : RS μ V n N w0 r) {p : Nat} (hp : p < n) (whom : Bool) (hsu : suR r V n N p w0 = false) :
    ∃ μ', (f_X11_keepsLeft μ).bind (fun x36 => (f_X11_people x36).bind fun x41 => Wh (fun z : Mm × Int32 => f_X11_game_L48 (nI p) (bI whom) z.1 z.2) (x36, (((1 : Int32) <<< (x41 &&& 31)) - (1 : Int32)))) = some (gam r V n N w0 p whom, μ') ∧ RS μ' V n N w0 r ∧ Fr [1, 8, 9, 27, 30, 31] μ μ' := by
  have hb := h.2.b
  have h9 := pow_512 hb.2.2.2.2.1
  have hpos := Nat.two_pow_pos n
  obtain ⟨K, eK, hK⟩ := q_keepsLeft h
  have h0 := h.row (a := 27) (b := 0) K (by omega)
  obtain ⟨e, he⟩ : ∃ e, e = stl r V n N w0 p := ⟨_, rfl⟩
  have einit : ((1 : Int32) <<< (nI n &&& 31)) - (1 : Int32) = dwn n 0 := by
    rw [dwn_lt hpos]
    simp (disch := omega) only [Option.bind_some, Option.map_some, Option.bind_none, q_lit, nI_add, pk_mul, q_sub, q_addn, q_cl, q_le, q_lt, q_eq, q_ck, q_cd, q_cb0, q_cb1, q_div, q_rem, q_shl1, q_shr, q_and, q_or, q_tb, if_pos, if_neg, if_true, if_false, not_true, not_false_iff, eq_self, Bool.true_eq_false, Bool.false_eq_true, q_bI0, q_bI1, q_cbI, Nat.or_zero, mst_row, mrow_neA, mrow_neB, mrow_self, q_upd, ]
    rfl
  have hh : ∃ x, Wh (fun z : Mm × Int32 => f_X11_game_L48 (nI p) (bI whom) z.1 z.2) (mrow μ (27, 0) K, dwn n 0) = some x ∧ ∃ μ', x = (gam r V n N w0 p whom, μ') ∧ RS μ' V n N w0 r ∧ Fr [1, 8, 9, 27, 30, 31] μ μ' := by
    refine Wh_inv1 (2 ^ n) (fun k z => ∃ a, z = (a, dwn n k) ∧ RS a V n N w0 r ∧ a (27, 0) = K ∧ Fr [1, 8, 9, 27, 30, 31] μ a ∧ WT e p n k (a (31, 0)) ∧ (∀ s, 2 ^ n - k ≤ s → s < 2 ^ n → s.testBit p = false → a (30, 0) s = bI (e s))) _ ⟨_, rfl, h0, mrow_self _ _ _, (by repeat first | exact Fr.rf | refine Fr.mr ?_ (by decide)), fun s h1 h2 => by omega, fun s h1 h2 => by omega⟩ ?_ ?_
    · rintro k _ hk ⟨a, rfl, ha, haK, hF, hT, hE⟩
      rw [dwn_lt hk]
      have e0 := q_has (m := 2 ^ n - 1 - k) (p := p) (by omega) (by omega)
      by_cases c : (2 ^ n - 1 - k).testBit p = true
      · refine ⟨(a, dwn n (k + 1)), ?_, a, rfl, ha, haK, hF, WT_skip hT hk c, fun s h1 h2 h3 => ?_⟩
        · show f_X11_game_L48 (nI p) (bI whom) a (nI (2 ^ n - 1 - k)) = _
          rw [← dwn_s hk]
          simp (disch := omega) only [f_X11_game_L48, q_lit, q_lt, if_neg, e0, c, q_bI0, Option.bind_some, Bool.true_eq_false, if_false]
        · by_cases c2 : s = 2 ^ n - 1 - k
          · rw [c2, c] at h3; cases h3
          · exact hE s (by omega) h2 h3
      · have c := Bool.not_eq_true _ ▸ c
        obtain ⟨a1, b1, e1, ha1, e2, e3, hb1, hbK, hF1⟩ := q_tryOut ha haK hK hp (show 2 ^ n - 1 - k < 512 by omega)
        have e4 := q_here ha1
        obtain ⟨b2, hb2⟩ : ∃ b2, b2 = mrow b1 (30, 0) (upd (b1 (30, 0)) (2 ^ n - 1 - k) (bI (stl r V n N w0 p (2 ^ n - 1 - k)))) := ⟨_, rfl⟩
        have e5 : f_X11_bringsLeft b2 = some (mrow b2 (1, 0) r) := by
          refine q_bringsLeft (ρ := rdA V n N w0 (2 ^ n - 1 - k) r n) ?_ (fun i hi => rdA_ne h.2 _ n hi) (fun w hw => ?_)
          · rw [hb2, mrow_neA (by omega)]; exact hb1
          · rw [hb2, mrow_neA (by omega), hbK]; exact hK w hw
        obtain ⟨b3, hb3⟩ : ∃ b3, b3 = mrow b2 (1, 0) r := ⟨_, rfl⟩
        have hs3 : RS b3 V n N w0 r := by rw [hb3]; exact RS.set h.2 _
        have h31 : b3 (31, 0) = a (31, 0) := by
          rw [hb3, mrow_neA (by omega), hb2, mrow_neA (by omega)]; exact hF1 31 (by decide)
        have h30 : b3 (30, 0) = upd (a (30, 0)) (2 ^ n - 1 - k) (bI (e (2 ^ n - 1 - k))) := by
          rw [hb3, mrow_neA (by omega), hb2, mrow_self, hF1 30 (by decide), he]
        have h27 : b3 (27, 0) = K := by rw [hb3, mrow_neA (by omega), hb2, mrow_neA (by omega)]; exact hbK
        have hF3 : Fr [1, 8, 9, 27, 30, 31] μ b3 := by
          rw [hb3, hb2]
          exact ((hF.tr (hF1.mono (by decide))).mr (by decide)).mr (by decide)
        have hE3 : ∀ s, 2 ^ n - (k + 1) ≤ s → s < 2 ^ n → s.testBit p = false → b3 (30, 0) s = bI (e s) := fun s h1 h2 h3 => by
          rw [h30, q_upd]
          by_cases c2 : s = 2 ^ n - 1 - k
          · rw [if_pos c2, c2]
          · rw [if_neg c2]; exact hE s (by omega) h2 h3
        have e6 : f_X11_bestOf b3 (nI p) (nI (2 ^ n - 1 - k)) = some (oN (gmb e (wnT e p n k) p (2 ^ n - 1 - k) n).1) := by
          rw [q_bestOf hs3 (e := e) (by omega) c hp (fun s' h1 h2 h3 => hE3 s' (by omega) h2 h3), h31, WT_gmb hT hk c]
        have hfin : ∀ v : Int32, v = (gmb e (wnT e p n k) p (2 ^ n - 1 - k) n).2 → f_X11_game_L48 (nI p) (bI whom) a (nI (2 ^ n - 1 - k)) = some (.inl (mrow b3 (31, 0) (upd (a (31, 0)) (2 ^ n - 1 - k) v), dwn n (k + 1))) → ∃ s', (fun z : Mm × Int32 => f_X11_game_L48 (nI p) (bI whom) z.1 z.2) (a, nI (2 ^ n - 1 - k)) = some (.inl s') ∧ ∃ a, s' = (a, dwn n (k + 1)) ∧ RS a V n N w0 r ∧ a (27, 0) = K ∧ Fr [1, 8, 9, 27, 30, 31] μ a ∧ WT e p n (k + 1) (a (31, 0)) ∧ (∀ s, 2 ^ n - (k + 1) ≤ s → s < 2 ^ n → s.testBit p = false → a (30, 0) s = bI (e s)) := by
          intro v hv e1
          refine ⟨_, e1, _, rfl, hs3.row _ (by omega), by rw [mrow_neA (by omega)]; exact h27, hF3.mr (by decide), ?_, fun s h1 h2 h3 => by rw [mrow_neA (by omega)]; exact hE3 s h1 h2 h3⟩
          rw [mrow_self, hv]
          exact WT_step hT hk c
        have hbs : ∀ q, (gmb e (wnT e p n k) p (2 ^ n - 1 - k) n).1 = some q → q < 512 := fun q hq => by have := (gmb_lt hq).1; omega
        cases cb : (gmb e (wnT e p n k) p (2 ^ n - 1 - k) n).1 with
        | none =>
          rw [cb] at e6
          refine hfin (nI 0) (gmb_0 cb).symm ?_
          have hneg : ¬ nI 0 ≤ oN none := by show ¬ nI 0 ≤ -nI 1; decide
          rw [← dwn_s hk]
          simp (disch := omega) only [f_X11_game_L48, q_lit, q_lt, q_cl, q_ck, if_neg, e0, c, q_bI0, Option.bind_some, if_true, e1, e4, e2, nar_b, mst_row, ← hb2, e5, ← hb3, e6, if_neg hneg, h31]
        | some q =>
          rw [cb] at e6
          have hq := gmb_lt cb
          have hu2 := or_up (s := 2 ^ n - 1 - k) (n := n) (by omega) (show q < n by omega) hq.2.2.1
          have w2 := q_winBy (μ := b3) (e := e) (s := 2 ^ n - 1 - k) (p := q) (by omega) (by omega) (hE3 _ (by omega) hu2.2 (by rw [or_tb hq.2.1]; exact c))
          have hgv : gmv e (b3 (31, 0)) (2 ^ n - 1 - k) q = gmv e (wnT e p n k) (2 ^ n - 1 - k) q := by
            unfold gmv
            rw [h31, hT _ (by omega) hu2.2 (by rw [or_tb hq.2.1]; exact c)]
          rw [hgv] at w2
          refine hfin (gmv e (wnT e p n k) (2 ^ n - 1 - k) q) hq.2.2.2.symm ?_
          have hv : oN (some q) = nI q := rfl
          rw [← dwn_s hk]
          simp (disch := omega) only [f_X11_game_L48, q_lit, q_lt, q_le, q_cl, q_ck, if_neg, e0, c, q_bI0, Option.bind_some, if_true, e1, e4, e2, nar_b, mst_row, ← hb2, e5, ← hb3, e6, hv, if_pos, w2, h31]
    · rintro _ ⟨a, rfl, ha, haK, hF, hT, hE⟩
      rw [dwn_end]
      have hb0 : (0 : Nat).testBit p = false := by simp
      have e6 : f_X11_bestOf a (nI p) (nI 0) = some (oN (gmb e (wnT e p n (2 ^ n)) p 0 n).1) := by
        rw [q_bestOf ha (e := e) hpos hb0 hp (fun s' h1 h2 h3 => hE s' (by omega) h2 h3)]
        rw [gmb_congr (wn' := wnT e p n (2 ^ n)) (fun q hq hqx hs => by
          have := or_up (s := 0) (n := n) hpos hq hs
          exact hT _ (by omega) this.2 (by rw [or_tb hqx]; exact hb0)) n (Nat.le_refl n)]
      have hw := hT 0 (by omega) hpos hb0
      refine ⟨(gam r V n N w0 p whom, a), ?_, a, rfl, ha, hF⟩
      show f_X11_game_L48 (nI p) (bI whom) a (-nI 1) = _
      unfold gam
      rw [← he, hsu]
      cases whom
      · simp (disch := omega) only [f_X11_game_L48, q_lit, if_pos m1_lt, q_bI0, if_true, q_ck, q_cl, hw, Option.map_some, Bool.false_eq_true, if_false]
      · simp (disch := omega) only [f_X11_game_L48, q_lit, if_pos m1_lt, q_bI0, if_true, q_ck, q_cl, e6, Option.map_some, Bool.false_eq_true, if_false, Bool.true_eq_false, Option.bind_some]
  obtain ⟨_, e1, a, rfl, h1, h2⟩ := hh
  exact ⟨a, by rw [eK, Option.bind_some, q_people h0, Option.bind_some, einit, e1], h1, h2⟩
end GAMQ
section GAMK
variable {sh : Sh} {ln : Nat → Nat} {μ : Mm} {j V n N w0 : Nat} {r : Nat → Int32}
theorem k_bestMove (h : CS ln μ j V n N w0 r) (hL : LN ln) {e : Nat → Bool} {x s : Nat} (hs : s < 2 ^ n) (hx : s.testBit x = false) (hx2 : x < n) (he : ∀ s', s < s' → s' < 2 ^ n → s'.testBit x = false → μ (12, 11) s' = bI (e s')) :
    f_X5_bestMove sh ln j μ (nI x) (nI s) = some (oN (gmb e (μ (12, 12)) x s n).1, mrow μ (12, 12) (upd (μ (12, 12)) s (gmb e (μ (12, 12)) x s n).2)) := by
  have hb := h.1.b
  have h9 := pow_512 hb.2.2.2.2.1
  have hl11 : ln 11 = 512 := hL.2.2.2.2.2.2.2.2.2.2.2.1
  have hl12 : ln 12 = 512 := hL.2.2.2.2.2.2.2.2.2.2.2.2.1
  unfold f_X5_bestMove
  refine Wh_it n (fun k => (oN (gmb e (μ (12, 12)) x s k).1, (gmb e (μ (12, 12)) x s k).2, nI k)) rfl (fun k hk => ?_) ?_
  · show f_X5_bestMove_L9 sh ln j (nI x) (nI s) μ (oN (gmb e (μ (12, 12)) x s k).1) (gmb e (μ (12, 12)) x s k).2 (nI k) = some (.inl (oN (gmb e (μ (12, 12)) x s (k + 1)).1, (gmb e (μ (12, 12)) x s (k + 1)).2, nI (k + 1)))
    rw [gmb_s]
    by_cases c1 : k = x
    · subst c1
      simp (disch := omega) only [Option.bind_some, Option.map_some, Option.bind_none, q_lit, nI_add, pk_mul, q_sub, q_addn, q_cl, q_le, q_lt, q_eq, q_ck, q_cd, q_cb0, q_cb1, q_div, q_rem, q_shl1, q_shr, q_and, q_or, q_tb, if_pos, if_neg, if_true, if_false, not_true, not_false_iff, eq_self, Bool.true_eq_false, Bool.false_eq_true, q_bI0, q_bI1, q_cbI, Nat.or_zero, mst_row, mrow_neA, mrow_neB, mrow_self, q_upd, f_X5_bestMove_L9, h.c1, ne_eq, not_true, false_and]
    · by_cases c2 : s.testBit k = true
      · have c3 : ¬ (k ≠ x ∧ s.testBit k = false) := fun z => by rw [c2] at z; exact absurd z.2 (by decide)
        rw [if_neg c3]
        simp (disch := omega) only [Option.bind_some, Option.map_some, Option.bind_none, q_lit, nI_add, pk_mul, q_sub, q_addn, q_cl, q_le, q_lt, q_eq, q_ck, q_cd, q_cb0, q_cb1, q_div, q_rem, q_shl1, q_shr, q_and, q_or, q_tb, if_pos, if_neg, if_true, if_false, not_true, not_false_iff, eq_self, Bool.true_eq_false, Bool.false_eq_true, q_bI0, q_bI1, q_cbI, Nat.or_zero, mst_row, mrow_neA, mrow_neB, mrow_self, q_upd, f_X5_bestMove_L9, h.c1, c1, q_tb0, c2]
      · have c2 := Bool.not_eq_true _ ▸ c2
        rw [if_pos ⟨c1, c2⟩]
        have hu := or_up hs hk c2
        have a11 : f_X1_at sh ln 11 μ (nI (s ||| 2 ^ k)) = some (bI (e (s ||| 2 ^ k))) := by rw [k_at (by omega) (by omega), he _ hu.1 hu.2 (by rw [or_tb c1]; exact hx)]
        have a12 : f_X1_at sh ln 12 μ (nI (s ||| 2 ^ k)) = some (μ (12, 12) (s ||| 2 ^ k)) := k_at (by omega) (by omega)
        have step : f_X5_bestMove_L9 sh ln j (nI x) (nI s) μ (oN (gmb e (μ (12, 12)) x s k).1) (gmb e (μ (12, 12)) x s k).2 (nI k) = f_X5_bestMove_J68 sh ln j μ (nI x) (nI s) (oN (gmb e (μ (12, 12)) x s k).1) (gmb e (μ (12, 12)) x s k).2 (nI k) (gmv e (μ (12, 12)) s k) := by
          unfold gmv
          by_cases c3 : e (s ||| 2 ^ k) = true
          · simp (disch := omega) only [Option.bind_some, Option.map_some, Option.bind_none, q_lit, nI_add, pk_mul, q_sub, q_addn, q_cl, q_le, q_lt, q_eq, q_ck, q_cd, q_cb0, q_cb1, q_div, q_rem, q_shl1, q_shr, q_and, q_or, q_tb, if_pos, if_neg, if_true, if_false, not_true, not_false_iff, eq_self, Bool.true_eq_false, Bool.false_eq_true, q_bI0, q_bI1, q_cbI, Nat.or_zero, mst_row, mrow_neA, mrow_neB, mrow_self, q_upd, f_X5_bestMove_L9, h.c1, c1, q_tb0, c2, a11, c3]
          · have c3 := Bool.not_eq_true _ ▸ c3
            simp (disch := omega) only [Option.bind_some, Option.map_some, Option.bind_none, q_lit, nI_add, pk_mul, q_sub, q_addn, q_cl, q_le, q_lt, q_eq, q_ck, q_cd, q_cb0, q_cb1, q_div, q_rem, q_shl1, q_shr, q_and, q_or, q_tb, if_pos, if_neg, if_true, if_false, not_true, not_false_iff, eq_self, Bool.true_eq_false, Bool.false_eq_true, q_bI0, q_bI1, q_cbI, Nat.or_zero, mst_row, mrow_neA, mrow_neB, mrow_self, q_upd, f_X5_bestMove_L9, h.c1, c1, q_tb0, c2, a11, c3, a12]
        rw [step]
        have h3 : ∀ k, k < 9 → ¬ nI k = -nI 1 := by decide +kernel
        cases cb : (gmb e (μ (12, 12)) x s k).1 with
        | none =>
          have hv : oN none = -nI 1 := rfl
          rw [if_pos (Or.inl rfl)]
          simp (disch := omega) only [Option.bind_some, Option.map_some, Option.bind_none, q_lit, nI_add, pk_mul, q_sub, q_addn, q_cl, q_le, q_lt, q_eq, q_ck, q_cd, q_cb0, q_cb1, q_div, q_rem, q_shl1, q_shr, q_and, q_or, q_tb, if_pos, if_neg, if_true, if_false, not_true, not_false_iff, eq_self, Bool.true_eq_false, Bool.false_eq_true, q_bI0, q_bI1, q_cbI, Nat.or_zero, mst_row, mrow_neA, mrow_neB, mrow_self, q_upd, hv, f_X5_bestMove_J68]
          rfl
        | some q =>
          have hq := gmb_lt cb
          have hv : oN (some q) = nI q := rfl
          by_cases c3 : (gmb e (μ (12, 12)) x s k).2 < gmv e (μ (12, 12)) s k
          · rw [if_pos (Or.inr c3)]
            simp (disch := omega) only [Option.bind_some, Option.map_some, Option.bind_none, q_lit, nI_add, pk_mul, q_sub, q_addn, q_cl, q_le, q_lt, q_eq, q_ck, q_cd, q_cb0, q_cb1, q_div, q_rem, q_shl1, q_shr, q_and, q_or, q_tb, if_pos, if_neg, if_true, if_false, not_true, not_false_iff, eq_self, Bool.true_eq_false, Bool.false_eq_true, q_bI0, q_bI1, q_cbI, Nat.or_zero, mst_row, mrow_neA, mrow_neB, mrow_self, q_upd, hv, f_X5_bestMove_J68, if_neg (h3 q (by omega)), nle_of_lt, c3]
            rfl
          · rw [if_neg (by simp [c3]), cb]
            simp (disch := omega) only [Option.bind_some, Option.map_some, Option.bind_none, q_lit, nI_add, pk_mul, q_sub, q_addn, q_cl, q_le, q_lt, q_eq, q_ck, q_cd, q_cb0, q_cb1, q_div, q_rem, q_shl1, q_shr, q_and, q_or, q_tb, if_pos, if_neg, if_true, if_false, not_true, not_false_iff, eq_self, Bool.true_eq_false, Bool.false_eq_true, q_bI0, q_bI1, q_cbI, Nat.or_zero, mst_row, mrow_neA, mrow_neB, mrow_self, q_upd, hv, f_X5_bestMove_J68, if_neg (h3 q (by omega)), nle_of_lt, c3]
  · show f_X5_bestMove_L9 sh ln j (nI x) (nI s) μ (oN (gmb e (μ (12, 12)) x s n).1) (gmb e (μ (12, 12)) x s n).2 (nI n) = _
    have ep : f_X1_put sh ln 12 μ (nI s) (gmb e (μ (12, 12)) x s n).2 = some (mrow μ (12, 12) (upd (μ (12, 12)) s (gmb e (μ (12, 12)) x s n).2)) := k_put (by omega) (by omega)
    simp (disch := omega) only [Option.bind_some, Option.map_some, Option.bind_none, q_lit, nI_add, pk_mul, q_sub, q_addn, q_cl, q_le, q_lt, q_eq, q_ck, q_cd, q_cb0, q_cb1, q_div, q_rem, q_shl1, q_shr, q_and, q_or, q_tb, if_pos, if_neg, if_true, if_false, not_true, not_false_iff, eq_self, Bool.true_eq_false, Bool.false_eq_true, q_bI0, q_bI1, q_cbI, Nat.or_zero, mst_row, mrow_neA, mrow_neB, mrow_self, q_upd, f_X5_bestMove_L9, h.c1, Nat.le_refl, ep]
theorem k_game (h : CS ln μ j V n N w0 r) (hL : LN ln) {p : Nat} (hp : p < n) (whom : Bool) : ∃ a, f_X5_playGame sh ln j μ (nI p) (bI whom) = some (gam r V n N w0 p whom, a) ∧ FrX μ a := by
  have hb := h.1.b
  have h9 := pow_512 hb.2.2.2.2.1
  have hpos := Nat.two_pow_pos n
  have hl11 : ln 11 = 512 := hL.2.2.2.2.2.2.2.2.2.2.2.1
  have hl12 : ln 12 = 512 := hL.2.2.2.2.2.2.2.2.2.2.2.2.1
  obtain ⟨a0, e0, ha0, hF0, hD0⟩ := k_doubts (sh := sh) h hL hp
  have e1 := k_settles (sh := sh) (μ := a0) h.1 hL hp hD0 (show 0 < 512 by omega)
  rw [stl_0] at e1
  by_cases csu : suR r V n N p w0 = true
  · refine ⟨a0, ?_, hF0⟩
    unfold gam
    simp (disch := omega) only [Option.bind_some, Option.map_some, Option.bind_none, q_lit, nI_add, pk_mul, q_sub, q_addn, q_cl, q_le, q_lt, q_eq, q_ck, q_cd, q_cb0, q_cb1, q_div, q_rem, q_shl1, q_shr, q_and, q_or, q_tb, if_pos, if_neg, if_true, if_false, not_true, not_false_iff, eq_self, Bool.true_eq_false, Bool.false_eq_true, q_bI0, q_bI1, q_cbI, Nat.or_zero, mst_row, mrow_neA, mrow_neB, mrow_self, q_upd, f_X5_playGame, e0, e1, csu]
  · have csu := Bool.not_eq_true _ ▸ csu
    obtain ⟨e, he⟩ : ∃ e, e = stl r V n N w0 p := ⟨_, rfl⟩
    have esh : (1 : Int32) <<< (nI n &&& 31) = nI (2 ^ n) := by simp (disch := omega) only [Option.bind_some, Option.map_some, Option.bind_none, q_lit, nI_add, pk_mul, q_sub, q_addn, q_cl, q_le, q_lt, q_eq, q_ck, q_cd, q_cb0, q_cb1, q_div, q_rem, q_shl1, q_shr, q_and, q_or, q_tb, if_pos, if_neg, if_true, if_false, not_true, not_false_iff, eq_self, Bool.true_eq_false, Bool.false_eq_true, q_bI0, q_bI1, q_cbI, Nat.or_zero, mst_row, mrow_neA, mrow_neB, mrow_self, q_upd, ]
    have hh : ∃ x, Wh (fun z : Mm × Int32 => f_X5_playGame_L28 sh ln j (nI p) (bI whom) (nI (2 ^ n)) z.1 z.2) (a0, nI 0) = some x ∧ ∃ a, x = (gam r V n N w0 p whom, a) ∧ FrX μ a := by
      refine Wh_inv1 (2 ^ n) (fun s z => ∃ R, z = (mrow a0 (12, 11) R, nI s) ∧ ∀ i, i < s → R i = bI (e i)) _ ⟨a0 (12, 11), by rw [mrow_id], fun i hi => by omega⟩ ?_ ?_
      · rintro s _ hs ⟨R, rfl, hR⟩
        have hD : DB (mrow a0 (12, 11) R) r V n w0 p N := by
          unfold DB
          rw [mrow_neA (by omega), mrow_neB (by omega)]
          exact hD0
        have e2 := k_settles (sh := sh) (μ := mrow a0 (12, 11) R) h.1 hL hp hD (show s < 512 by omega)
        have ep : ∀ v, f_X1_put sh ln 11 (mrow a0 (12, 11) R) (nI s) v = some (mrow a0 (12, 11) (upd R s v)) := fun v => by rw [k_put (by omega) (by omega), mrow_self, mrow_mrow]
        refine ⟨(mrow a0 (12, 11) (upd R s (bI (e s))), nI (s + 1)), ?_, _, rfl, fun i hi => ?_⟩
        · show f_X5_playGame_L28 sh ln j (nI p) (bI whom) (nI (2 ^ n)) (mrow a0 (12, 11) R) (nI s) = _
          rw [he]
          by_cases c : stl r V n N w0 p s = true
          · simp (disch := omega) only [Option.bind_some, Option.map_some, Option.bind_none, q_lit, nI_add, pk_mul, q_sub, q_addn, q_cl, q_le, q_lt, q_eq, q_ck, q_cd, q_cb0, q_cb1, q_div, q_rem, q_shl1, q_shr, q_and, q_or, q_tb, if_pos, if_neg, if_true, if_false, not_true, not_false_iff, eq_self, Bool.true_eq_false, Bool.false_eq_true, q_bI0, q_bI1, q_cbI, Nat.or_zero, mst_row, mrow_neA, mrow_neB, mrow_self, q_upd, f_X5_playGame_L28, e2, c, ep, bI_t]
          · have c := Bool.not_eq_true _ ▸ c
            simp (disch := omega) only [Option.bind_some, Option.map_some, Option.bind_none, q_lit, nI_add, pk_mul, q_sub, q_addn, q_cl, q_le, q_lt, q_eq, q_ck, q_cd, q_cb0, q_cb1, q_div, q_rem, q_shl1, q_shr, q_and, q_or, q_tb, if_pos, if_neg, if_true, if_false, not_true, not_false_iff, eq_self, Bool.true_eq_false, Bool.false_eq_true, q_bI0, q_bI1, q_cbI, Nat.or_zero, mst_row, mrow_neA, mrow_neB, mrow_self, q_upd, f_X5_playGame_L28, e2, c, ep, bI_f]
        · rw [q_upd]
          by_cases e : i = s
          · rw [if_pos e, e]
          · rw [if_neg e]; exact hR i (by omega)
      · rintro _ ⟨R, rfl, hR⟩
        have h1 := ha0.rowS (a := 12) (b := 11) R (by omega) (by omega)
        have e3 : f_X5_playGame_L28 sh ln j (nI p) (bI whom) (nI (2 ^ n)) (mrow a0 (12, 11) R) (nI (2 ^ n)) = (Wh (fun z : Mm × Int32 × Int32 => f_X5_playGame_L73 sh ln j (nI p) (bI whom) z.1 z.2.1 z.2.2) (mrow a0 (12, 11) R, -nI 1, dwn n 0)).map Sum.inr := by
          rw [dwn_lt hpos, Nat.sub_zero]
          simp (disch := omega) only [Option.bind_some, Option.map_some, Option.bind_none, q_lit, nI_add, pk_mul, q_sub, q_addn, q_cl, q_le, q_lt, q_eq, q_ck, q_cd, q_cb0, q_cb1, q_div, q_rem, q_shl1, q_shr, q_and, q_or, q_tb, if_pos, if_neg, if_true, if_false, not_true, not_false_iff, eq_self, Bool.true_eq_false, Bool.false_eq_true, q_bI0, q_bI1, q_cbI, Nat.or_zero, mst_row, mrow_neA, mrow_neB, mrow_self, q_upd, f_X5_playGame_L28, Nat.le_refl]
        have hh : ∃ x, Wh (fun z : Mm × Int32 × Int32 => f_X5_playGame_L73 sh ln j (nI p) (bI whom) z.1 z.2.1 z.2.2) (mrow a0 (12, 11) R, -nI 1, dwn n 0) = some x ∧ ∃ a, x = (gam r V n N w0 p whom, a) ∧ FrX μ a := by
          refine Wh_inv1 (2 ^ n) (fun k z => ∃ a f, z = (a, f, dwn n k) ∧ CS ln a j V n N w0 r ∧ FrX μ a ∧ a (12, 11) = R ∧ WT e p n k (a (12, 12)) ∧ (k = 2 ^ n → f = oN (gmb e (wnT e p n (2 ^ n)) p 0 n).1)) _ ⟨_, _, rfl, h1, hF0.mr (by omega) (by omega), mrow_self _ _ _, fun s h1 h2 => by omega, fun h => by omega⟩ ?_ ?_
          · rintro k _ hk ⟨a, f, rfl, ha, hF, haR, hT, hf⟩
            rw [dwn_lt hk]
            by_cases c : (2 ^ n - 1 - k).testBit p = true
            · refine ⟨(a, -nI 1, dwn n (k + 1)), ?_, a, _, rfl, ha, hF, haR, WT_skip hT hk c, fun h => ?_⟩
              · show f_X5_playGame_L73 sh ln j (nI p) (bI whom) a f (nI (2 ^ n - 1 - k)) = _
                rw [← dwn_s hk]
                simp (disch := omega) only [f_X5_playGame_L73, q_lit, q_lt, if_neg, q_shr, q_and, q_tb0, c, Bool.true_eq_false, if_false]
              · rw [show 2 ^ n - 1 - k = 0 by omega] at c
                simp at c
            · have c := Bool.not_eq_true _ ▸ c
              have e4 := k_bestMove (sh := sh) ha hL (e := e) (x := p) (s := 2 ^ n - 1 - k) (by omega) c hp (fun s' h1 h2 h3 => by rw [haR]; exact hR s' h2)
              rw [WT_gmb hT hk c] at e4
              refine ⟨(mrow a (12, 12) (upd (a (12, 12)) (2 ^ n - 1 - k) (gmb e (wnT e p n k) p (2 ^ n - 1 - k) n).2), oN (gmb e (wnT e p n k) p (2 ^ n - 1 - k) n).1, dwn n (k + 1)), ?_, _, _, rfl, ha.rowS _ (by omega) (by omega), hF.mr (by omega) (by omega), by rw [mrow_neB (by omega)]; exact haR, ?_, fun h => ?_⟩
              · show f_X5_playGame_L73 sh ln j (nI p) (bI whom) a f (nI (2 ^ n - 1 - k)) = _
                rw [← dwn_s hk]
                simp (disch := omega) only [f_X5_playGame_L73, q_lit, q_lt, if_neg, q_shr, q_and, q_tb0, c, if_true, e4, Option.bind_some]
              · rw [mrow_self]
                exact WT_step hT hk c
              · have h0 : 2 ^ n - 1 - k = 0 := by omega
                rw [h0]
                refine congrArg (fun z => oN z.1) (gmb_congr (fun q hq hqx hs => ?_) n (Nat.le_refl n))
                have hu := or_up (s := 0) (n := n) hpos hq hs
                rw [← h, wnT_s, h0, if_neg (by simp), q_upd, if_neg (by omega)]
          · rintro _ ⟨a, f, rfl, ha, hF, haR, hT, hf⟩
            rw [dwn_end]
            have hb0 : (0 : Nat).testBit p = false := by simp
            have hw := hT 0 (by omega) hpos hb0
            have a12 : f_X1_at sh ln 12 a (nI 0) = some (wnT e p n (2 ^ n) 0) := by rw [k_at (by omega) (by omega), hw]
            refine ⟨(gam r V n N w0 p whom, a), ?_, a, rfl, hF⟩
            show f_X5_playGame_L73 sh ln j (nI p) (bI whom) a f (-nI 1) = _
            unfold gam
            rw [← he, csu, hf rfl]
            cases whom
            · simp (disch := omega) only [f_X5_playGame_L73, q_lit, if_pos m1_lt, q_bI0, if_true, a12, Option.map_some, Bool.false_eq_true, if_false, Option.bind_some]
            · simp (disch := omega) only [f_X5_playGame_L73, q_lit, if_pos m1_lt, q_bI0, if_true, Option.map_some, Bool.false_eq_true, if_false, Bool.true_eq_false]
        obtain ⟨x, h1, h2⟩ := hh
        exact ⟨x, by show f_X5_playGame_L28 sh ln j (nI p) (bI whom) (nI (2 ^ n)) (mrow a0 (12, 11) R) (nI (2 ^ n)) = _; rw [e3, h1]; rfl, h2⟩
    obtain ⟨_, e5, a, rfl, hF⟩ := hh
    refine ⟨a, ?_, hF⟩
    rw [f_X5_playGame, e0, Option.bind_some, show (0 : Int32) = nI 0 from rfl, e1, Option.bind_some, csu, ha0.c1, esh, if_pos (show bI false = nI 0 from rfl), e5]
end GAMK
