-- marriages
set_option maxRecDepth 100000 in
theorem tz_spec : ∀ s, s < 512 → s ≠ 0 → tz s < 9 ∧ s.testBit (tz s) = true ∧ s &&& (s - 1) = andn s (2 ^ tz s) ∧ andn s (2 ^ tz s) < s := by decide +kernel
set_option maxRecDepth 100000 in
theorem tz_least : ∀ s, s < 512 → ∀ o, o < 9 → s.testBit o = true → (∀ i, i < o → s.testBit i = false) → tz s = o := by decide +kernel
set_option maxRecDepth 100000 in
theorem tz_low : ∀ s, s < 512 → ∀ i, i < 9 → i < tz s → s.testBit i = false := by decide +kernel
theorem andn_eq {a b : Nat} (h : a < 4294967296) : andn a b = a &&& (4294967295 ^^^ b) := by
  apply Nat.eq_of_testBit_eq
  intro i
  rw [andn_tb, Nat.testBit_and, Nat.testBit_xor, show 4294967295 = 2 ^ 32 - 1 from rfl, Nat.testBit_two_pow_sub_one]
  by_cases hi : i < 32
  · simp [hi]
  · have : a.testBit i = false := Nat.testBit_lt_two_pow (Nat.lt_of_lt_of_le (show a < 2 ^ 32 from h) (Nat.pow_le_pow_right (n := 2) (by decide) (show 32 ≤ i by omega)))
    simp [this]
theorem andn_le {a b : Nat} (h : a < 4294967296) : andn a b ≤ a := by
  rw [andn_eq h]
  exact Nat.and_le_left
theorem andn_or (s a b : Nat) : andn s (a ||| b) = andn (andn s a) b := by
  apply Nat.eq_of_testBit_eq
  intro i
  rw [andn_tb, andn_tb, andn_tb, Nat.testBit_or]
  cases s.testBit i <;> cases a.testBit i <;> cases b.testBit i <;> rfl
def kn (r : Nat → Int32) (V n N w0 p : Nat) : Nat := set n (fun q => knw r V n N p q w0)
def mp (K : Nat → Nat) (s a b : Nat) : Bool := s.testBit b && ((K a).testBit b && (K b).testBit a)
def prm (K T : Nat → Nat) (s : Nat) : Nat → Nat
  | 0 => T (andn s (2 ^ tz s))
  | m + 1 => if tz s < m ∧ mp K s (tz s) m = true then (if prm K T s m < 1 + T (andn (andn s (2 ^ tz s)) (2 ^ m)) then 1 + T (andn (andn s (2 ^ tz s)) (2 ^ m)) else prm K T s m) else prm K T s m
theorem prm_s (K T : Nat → Nat) (s m : Nat) : prm K T s (m + 1) = if tz s < m ∧ mp K s (tz s) m = true then (if prm K T s m < 1 + T (andn (andn s (2 ^ tz s)) (2 ^ m)) then 1 + T (andn (andn s (2 ^ tz s)) (2 ^ m)) else prm K T s m) else prm K T s m := rfl
theorem prm_low {K T : Nat → Nat} {s : Nat} : ∀ m, m ≤ tz s + 1 → prm K T s m = T (andn s (2 ^ tz s)) := by
  intro m
  induction m with
  | zero => intro _; rfl
  | succ m ih =>
    intro h
    rw [prm_s, if_neg (by omega), ih (by omega)]
def prT (K : Nat → Nat) (n : Nat) : Nat → (Nat → Nat)
  | 0 => fun _ => 0
  | k + 1 => updN (prT K n k) k (if k = 0 then 0 else prm K (prT K n k) k n)
theorem prT_s (K : Nat → Nat) (n k : Nat) : prT K n (k + 1) = updN (prT K n k) k (if k = 0 then 0 else prm K (prT K n k) k n) := rfl
theorem prT_le (K : Nat → Nat) (n : Nat) : ∀ k, k ≤ 512 → ∀ s, prT K n k s ≤ s := by
  intro k
  induction k with
  | zero => intro _ s; exact Nat.zero_le s
  | succ k ih =>
    intro hk s
    have ih := ih (by omega)
    rw [prT_s, updN_ap]
    by_cases e : s = k
    · rw [if_pos e]
      by_cases e0 : k = 0
      · rw [if_pos e0]; omega
      · rw [if_neg e0]
        have hz := tz_spec k (by omega) e0
        have : ∀ m, prm K (prT K n k) k m ≤ k := by
          intro m
          induction m with
          | zero => exact Nat.le_trans (ih _) (by have := hz.2.2.2; omega)
          | succ m ihm =>
            rw [prm_s]
            split
            · split
              · have h1 := ih (andn (andn k (2 ^ tz k)) (2 ^ m))
                have h2 : andn (andn k (2 ^ tz k)) (2 ^ m) ≤ andn k (2 ^ tz k) := andn_le (by have := hz.2.2.2; omega)
                have := hz.2.2.2
                omega
              · exact ihm
            · exact ihm
        rw [e]; exact this n
    · rw [if_neg e]; exact ih s
theorem prT_old {K : Nat → Nat} {n k s : Nat} (h : s < k) : ∀ i, prT K n (k + i) s = prT K n k s := by
  intro i
  induction i with
  | zero => rfl
  | succ i ih => rw [← Nat.add_assoc, prT_s, updN_ap, if_neg (by omega), ih]
theorem prT_at {K : Nat → Nat} {n k s : Nat} (h : s < k) : prT K n k s = prT K n (s + 1) s := by
  have := prT_old (K := K) (n := n) (show s < s + 1 by omega) (k - (s + 1))
  rwa [show s + 1 + (k - (s + 1)) = k by omega] at this
/-- with whom the first one of a set is paired -/
def fwC (K T : Nat → Nat) (s q : Nat) : Bool := mp K s (tz s) q && decide (1 + T (andn (andn s (2 ^ tz s)) (2 ^ q)) = T s)
def fwP (K T : Nat → Nat) (n s : Nat) : Option Nat := fstN n (fun q => decide (tz s < q) && fwC K T s q)
def nxt (K T : Nat → Nat) (n s : Nat) : Nat := match fwP K T n s with
  | none => andn s (2 ^ tz s)
  | some q => andn (andn s (2 ^ tz s)) (2 ^ q)
def mrw (K T : Nat → Nat) (n x : Nat) : Nat → Nat → Int32
  | 0, _ => -nI 1
  | f + 1, s => if s = 0 then -nI 1 else if tz s = x then oN (fwP K T n s) else if fwP K T n s = some x then nI (tz s) else mrw K T n x f (nxt K T n s)
theorem nxt_lt {K T : Nat → Nat} {n s : Nat} (h : s < 512) (h0 : s ≠ 0) : nxt K T n s < s := by
  have hz := tz_spec s h h0
  unfold nxt
  split
  · exact hz.2.2.2
  · rename_i q _
    have : andn (andn s (2 ^ tz s)) (2 ^ q) ≤ andn s (2 ^ tz s) := andn_le (by have := hz.2.2.2; omega)
    have := hz.2.2.2
    omega
theorem fwP_lt {K T : Nat → Nat} {n s q : Nat} (h : fwP K T n s = some q) : q < n ∧ tz s < q := by
  rcases fstN_spec (m := n) (f := fun q => decide (tz s < q) && fwC K T s q) with ⟨h1, _⟩ | ⟨k, h1, h2, h3, _⟩
  · unfold fwP at h; rw [h1] at h; cases h
  · unfold fwP at h
    rw [h1] at h
    cases h
    have h3 : (decide (tz s < q) && fwC K T s q) = true := h3
    rw [Bool.and_eq_true, decide_eq_true_iff] at h3
    exact ⟨h2, h3.1⟩
def mar (r : Nat → Int32) (V n N w0 : Nat) (v : Option Nat) : Int32 := match v with
  | none => nI (prT (kn r V n N w0) n (2 ^ n) (2 ^ n - 1))
  | some x => mrw (kn r V n N w0) (prT (kn r V n N w0) n (2 ^ n)) n x (2 ^ n) (2 ^ n - 1)
theorem kn_lt {r : Nat → Int32} {V n N w0 p : Nat} (hn : n ≤ 9) : kn r V n N w0 p < 512 := set_512 _ hn
section MARQ
variable {μ : Mm} {V n N w0 : Nat} {r : Nat → Int32}
theorem q_pairOf {T : Nat → Nat} {s p q : Nat} (hs : s < 512) (hp : p < 31) (hq : q < 31) (hT : ∀ s', s' ≤ s → μ (36, 0) s' = nI (T s')) (hp2 : andn s (2 ^ p) ≤ s) : f_X11_pairOf μ (nI s) (nI p) (nI q) = some (nI (1 + T (andn (andn s (2 ^ p)) (2 ^ q)))) := by
  have h1 : andn (andn s (2 ^ p)) (2 ^ q) ≤ andn s (2 ^ p) := andn_le (by omega)
  have h2 := hT _ (show andn (andn s (2 ^ p)) (2 ^ q) ≤ s by omega)
  simp (disch := omega) only [Option.bind_some, Option.map_some, Option.bind_none, q_lit, nI_add, pk_mul, q_sub, q_addn, q_cl, q_le, q_lt, q_eq, q_ck, q_cd, q_cb0, q_cb1, q_div, q_rem, q_shl1, q_shr, q_and, q_or, q_tb, if_pos, if_neg, if_true, if_false, not_true, not_false_iff, eq_self, Bool.true_eq_false, Bool.false_eq_true, q_bI0, q_bI1, q_cbI, Nat.or_zero, mst_row, mrow_neA, mrow_neB, mrow_self, q_upd, f_X11_pairOf, q_andn, h2]
/-- the tables of marriages stand -/
def MT (μ : Mm) (K T : Nat → Nat) (n : Nat) : Prop := (∀ p, p < n → μ (35, 0) p = nI (K p)) ∧ ∀ s, s < 2 ^ n → μ (36, 0) s = nI (T s)
theorem q_marries (h : RS μ V n N w0 r) : ∃ a, f_X11_marries μ = some a ∧ RS a V n N w0 r ∧ Fr [8, 35, 36] μ a ∧ MT a (kn r V n N w0) (prT (kn r V n N w0) n (2 ^ n)) n := by
  have hb := h.2.b
  have h9 := pow_512 hb.2.2.2.2.1
  obtain ⟨K, hK⟩ : ∃ K, K = kn r V n N w0 := ⟨_, rfl⟩
  rw [← hK]
  have hK9 : ∀ p, K p < 512 := fun p => by rw [hK]; exact kn_lt hb.2.2.2.2.1
  unfold f_X11_marries
  refine Wh_inv1 n (fun k z => ∃ a, z = (a, nI k) ∧ RS a V n N w0 r ∧ Fr [8, 35, 36] μ a ∧ ∀ p, p < k → a (35, 0) p = nI (K p)) _ ⟨μ, rfl, h, Fr.rf, fun p hp => by omega⟩ ?_ ?_
  · rintro k _ hk ⟨a, rfl, ha, hF, hA⟩
    obtain ⟨R, e1⟩ := q_allKnown ha hk
    have e2 : nI (set n (fun q => knw r V n N k q w0)) = nI (K k) := by rw [hK]; rfl
    rw [e2] at e1
    refine ⟨(mrow (mrow a (8, 0) R) (35, 0) (upd (a (35, 0)) k (nI (K k))), nI (k + 1)), ?_, _, rfl, (ha.row _ (by omega)).row _ (by omega), (hF.mr (by decide)).mr (by decide), fun p hp => ?_⟩
    · show f_X11_marries_L2 a (nI k) = _
      simp (disch := omega) only [Option.bind_some, Option.map_some, Option.bind_none, q_lit, nI_add, pk_mul, q_sub, q_addn, q_cl, q_le, q_lt, q_eq, q_ck, q_cd, q_cb0, q_cb1, q_div, q_rem, q_shl1, q_shr, q_and, q_or, q_tb, if_pos, if_neg, if_true, if_false, not_true, not_false_iff, eq_self, Bool.true_eq_false, Bool.false_eq_true, q_bI0, q_bI1, q_cbI, Nat.or_zero, mst_row, mrow_neA, mrow_neB, mrow_self, q_upd, f_X11_marries_L2, q_people ha, e1]
    · rw [mrow_self, q_upd]
      by_cases e : p = k
      · rw [if_pos e, e]
      · rw [if_neg e]; exact hA p (by omega)
  · rintro _ ⟨a, rfl, ha, hF, hA⟩
    have e : f_X11_marries_L2 a (nI n) = (Wh (fun z : Mm × Int32 => f_X11_marries_L29 z.1 z.2) (a, nI 0)).map Sum.inr := by
      simp (disch := omega) only [Option.bind_some, Option.map_some, Option.bind_none, q_lit, nI_add, pk_mul, q_sub, q_addn, q_cl, q_le, q_lt, q_eq, q_ck, q_cd, q_cb0, q_cb1, q_div, q_rem, q_shl1, q_shr, q_and, q_or, q_tb, if_pos, if_neg, if_true, if_false, not_true, not_false_iff, eq_self, Bool.true_eq_false, Bool.false_eq_true, q_bI0, q_bI1, q_cbI, Nat.or_zero, mst_row, mrow_neA, mrow_neB, mrow_self, q_upd, f_X11_marries_L2, q_people ha, Nat.le_refl]
    have hh : ∃ x, Wh (fun z : Mm × Int32 => f_X11_marries_L29 z.1 z.2) (a, nI 0) = some x ∧ RS x V n N w0 r ∧ Fr [8, 35, 36] μ x ∧ MT x K (prT K n (2 ^ n)) n := by
      refine Wh_inv1 (2 ^ n) (fun s z => ∃ b, z = (b, nI s) ∧ RS b V n N w0 r ∧ Fr [8, 35, 36] μ b ∧ (∀ p, p < n → b (35, 0) p = nI (K p)) ∧ ∀ s', s' < s → b (36, 0) s' = nI (prT K n s s')) _ ⟨a, rfl, ha, hF, hA, fun s hs => by omega⟩ ?_ ?_
      · rintro s _ hs ⟨b, rfl, hb', hF, hA, hT⟩
        have hTle := prT_le K n s (by omega)
        have k1 := k_tz (show s < 512 by omega)
        by_cases c0 : s = 0
        · subst c0
          refine ⟨(mrow b (36, 0) (upd (b (36, 0)) 0 (nI 0)), nI (0 + 1)), ?_, _, rfl, hb'.row _ (by omega), hF.mr (by decide), fun p hp => by rw [mrow_neA (by omega)]; exact hA p hp, fun s' hs' => ?_⟩
          · have e1 : Wh (fun z : Mm × Int32 => f_X11_marries_L72 (nI 0) (nI (tz 0)) z.1 z.2) (mrow b (36, 0) (upd (b (36, 0)) 0 (nI 0)), nI (tz 0 + 1)) = some (.inl (mrow b (36, 0) (upd (b (36, 0)) 0 (nI 0)), nI (0 + 1))) := by
              refine Wh_end ?_
              have h' := hb'.row (a := 36) (b := 0) (upd (b (36, 0)) 0 (nI 0)) (by omega)
              show f_X11_marries_L72 (nI 0) (nI (tz 0)) (mrow b (36, 0) (upd (b (36, 0)) 0 (nI 0))) (nI (tz 0 + 1)) = _
              have h33 : tz 0 + 1 = 33 := by decide
              rw [h33]
              simp (disch := omega) only [Option.bind_some, Option.map_some, Option.bind_none, q_lit, nI_add, pk_mul, q_sub, q_addn, q_cl, q_le, q_lt, q_eq, q_ck, q_cd, q_cb0, q_cb1, q_div, q_rem, q_shl1, q_shr, q_and, q_or, q_tb, if_pos, if_neg, if_true, if_false, not_true, not_false_iff, eq_self, Bool.true_eq_false, Bool.false_eq_true, q_bI0, q_bI1, q_cbI, Nat.or_zero, mst_row, mrow_neA, mrow_neB, mrow_self, q_upd, f_X11_marries_L72, q_people h']
            show f_X11_marries_L29 b (nI 0) = _
            simp (disch := omega) only [Option.bind_some, Option.map_some, Option.bind_none, q_lit, nI_add, pk_mul, q_sub, q_addn, q_cl, q_le, q_lt, q_eq, q_ck, q_cd, q_cb0, q_cb1, q_div, q_rem, q_shl1, q_shr, q_and, q_or, q_tb, if_pos, if_neg, if_true, if_false, not_true, not_false_iff, eq_self, Bool.true_eq_false, Bool.false_eq_true, q_bI0, q_bI1, q_cbI, Nat.or_zero, mst_row, mrow_neA, mrow_neB, mrow_self, q_upd, f_X11_marries_L29, f_X11_marries_J67, q_people hb', k1, e1]
          · rw [mrow_self, q_upd, if_pos (by omega), prT_s, updN_ap, if_pos (by omega), if_pos rfl]
        · have hz := tz_spec s (by omega) c0
          have hlow := hT _ hz.2.2.2
          have ht9 : tz s < 9 := hz.1
          have htn : tz s < n := by
            rcases Nat.lt_or_ge (tz s) n with h1 | h1
            · exact h1
            · have h2 : s.testBit (tz s) = false := Nat.testBit_lt_two_pow (Nat.lt_of_lt_of_le hs (Nat.pow_le_pow_right (by decide) h1))
              rw [hz.2.1] at h2; cases h2
          have e1 : ∃ x, Wh (fun z : Mm × Int32 => f_X11_marries_L72 (nI s) (nI (tz s)) z.1 z.2) (mrow b (36, 0) (upd (b (36, 0)) s (nI (prm K (prT K n s) s (tz s + 1)))), nI (tz s + 1)) = some x ∧ x = .inl (mrow b (36, 0) (upd (b (36, 0)) s (nI (prm K (prT K n s) s n))), nI (s + 1)) := by
            refine Wh_inv1 (n - (tz s + 1)) (fun m z => z = (mrow b (36, 0) (upd (b (36, 0)) s (nI (prm K (prT K n s) s (tz s + 1 + m)))), nI (tz s + 1 + m))) _ rfl ?_ ?_
            · rintro m _ hm rfl
              obtain ⟨q, hq⟩ : ∃ q, q = tz s + 1 + m := ⟨_, rfl⟩
              rw [← hq]
              have hqn : q < n := by omega
              have h' := hb'.row (a := 36) (b := 0) (upd (b (36, 0)) s (nI (prm K (prT K n s) s q))) (by omega)
              have x1 := q_has (m := s) (p := q) (by omega) (by omega)
              have x2 := q_has (m := K (tz s)) (p := q) (by have := hK9 (tz s); omega) (by omega)
              have x3 := q_has (m := K q) (p := tz s) (by have := hK9 q; omega) (by omega)
              have a1 := hA (tz s) htn
              have a2 := hA q hqn
              have h2 : andn (andn s (2 ^ tz s)) (2 ^ q) ≤ andn s (2 ^ tz s) := andn_le (by have := hz.2.2.2; omega)
              have po : f_X11_pairOf (mrow b (36, 0) (upd (b (36, 0)) s (nI (prm K (prT K n s) s q)))) (nI s) (nI (tz s)) (nI q) = some (nI (1 + prT K n s (andn (andn s (2 ^ tz s)) (2 ^ q)))) := by
                have h3 := hT _ (show andn (andn s (2 ^ tz s)) (2 ^ q) < s by have := hz.2.2.2; omega)
                have h4 : upd (b (36, 0)) s (nI (prm K (prT K n s) s q)) (andn (andn s (2 ^ tz s)) (2 ^ q)) = nI (prT K n s (andn (andn s (2 ^ tz s)) (2 ^ q))) := by
                  rw [q_upd, if_neg (by have := hz.2.2.2; omega), h3]
                have := hz.2.2.2
                simp (disch := omega) only [f_X11_pairOf, q_lit, q_shl1, q_and, q_andn, q_ck, q_cl, mrow_self, h4, nI_add]
              have t1 := hTle (andn (andn s (2 ^ tz s)) (2 ^ q))
              have t2 : prm K (prT K n s) s q ≤ 512 := by
                have hTq : ∀ m, prm K (prT K n s) s m ≤ 512 := by
                  intro m
                  induction m with
                  | zero => exact Nat.le_trans (hTle _) (by have := hz.2.2.2; omega)
                  | succ m ihm =>
                    rw [prm_s]
                    split
                    · split
                      · have h5 := hTle (andn (andn s (2 ^ tz s)) (2 ^ m))
                        have h6 : andn (andn s (2 ^ tz s)) (2 ^ m) ≤ andn s (2 ^ tz s) := andn_le (by have := hz.2.2.2; omega)
                        have := hz.2.2.2
                        omega
                      · exact ihm
                    · exact ihm
                exact hTq q
              have es := prm_s K (prT K n s) s q
              have keep : f_X11_marries_L72 (nI s) (nI (tz s)) (mrow b (36, 0) (upd (b (36, 0)) s (nI (prm K (prT K n s) s q)))) (nI q) = some (.inl (mrow b (36, 0) (upd (b (36, 0)) s (nI (prm K (prT K n s) s q))), nI (q + 1))) → mp K s (tz s) q = false → ∃ s', (fun z : Mm × Int32 => f_X11_marries_L72 (nI s) (nI (tz s)) z.1 z.2) (mrow b (36, 0) (upd (b (36, 0)) s (nI (prm K (prT K n s) s q))), nI q) = some (.inl s') ∧ s' = (mrow b (36, 0) (upd (b (36, 0)) s (nI (prm K (prT K n s) s (tz s + 1 + (m + 1))))), nI (tz s + 1 + (m + 1))) := by
                intro e1 e2
                refine ⟨_, e1, ?_⟩
                rw [show tz s + 1 + (m + 1) = q + 1 by omega, es, if_neg (by rw [e2]; simp)]
              by_cases c1 : s.testBit q = true
              · by_cases c2 : (K (tz s)).testBit q = true
                · by_cases c3 : (K q).testBit (tz s) = true
                  · have hmp : mp K s (tz s) q = true := by unfold mp; rw [c1, c2, c3]; rfl
                    rw [if_pos ⟨by omega, hmp⟩] at es
                    have uu : ∀ x y : Int32, upd (upd (b (36, 0)) s x) s y = upd (b (36, 0)) s y := fun x y => by
                      funext i
                      rw [q_upd, q_upd]
                      by_cases e : i = s
                      · rw [if_pos e, q_upd, if_pos e]
                      · rw [if_neg e, q_upd, if_neg e, if_neg e]
                    refine ⟨_, ?_, rfl⟩
                    rw [show tz s + 1 + (m + 1) = q + 1 by omega, es]
                    show f_X11_marries_L72 (nI s) (nI (tz s)) (mrow b (36, 0) (upd (b (36, 0)) s (nI (prm K (prT K n s) s q)))) (nI q) = _
                    by_cases c4 : prm K (prT K n s) s q < 1 + prT K n s (andn (andn s (2 ^ tz s)) (2 ^ q))
                    · rw [if_pos c4]
                      simp (disch := omega) only [Option.bind_some, Option.map_some, Option.bind_none, q_lit, nI_add, pk_mul, q_sub, q_addn, q_cl, q_le, q_lt, q_eq, q_ck, q_cd, q_cb0, q_cb1, q_div, q_rem, q_shl1, q_shr, q_and, q_or, q_tb, if_pos, if_neg, if_true, if_false, not_true, not_false_iff, eq_self, Bool.true_eq_false, Bool.false_eq_true, q_bI0, q_bI1, q_cbI, Nat.or_zero, mst_row, mrow_neA, mrow_neB, mrow_self, q_upd, f_X11_marries_L72, q_people h', x1, c1, a1, x2, c2, a2, x3, c3, po, mrow_mrow, uu]
                    · rw [if_neg c4]
                      simp (disch := omega) only [Option.bind_some, Option.map_some, Option.bind_none, q_lit, nI_add, pk_mul, q_sub, q_addn, q_cl, q_le, q_lt, q_eq, q_ck, q_cd, q_cb0, q_cb1, q_div, q_rem, q_shl1, q_shr, q_and, q_or, q_tb, if_pos, if_neg, if_true, if_false, not_true, not_false_iff, eq_self, Bool.true_eq_false, Bool.false_eq_true, q_bI0, q_bI1, q_cbI, Nat.or_zero, mst_row, mrow_neA, mrow_neB, mrow_self, q_upd, f_X11_marries_L72, q_people h', x1, c1, a1, x2, c2, a2, x3, c3, po, mrow_mrow, uu]
                  · have c3 := Bool.not_eq_true _ ▸ c3
                    refine keep ?_ (by unfold mp; rw [c3]; simp)
                    simp (disch := omega) only [Option.bind_some, Option.map_some, Option.bind_none, q_lit, nI_add, pk_mul, q_sub, q_addn, q_cl, q_le, q_lt, q_eq, q_ck, q_cd, q_cb0, q_cb1, q_div, q_rem, q_shl1, q_shr, q_and, q_or, q_tb, if_pos, if_neg, if_true, if_false, not_true, not_false_iff, eq_self, Bool.true_eq_false, Bool.false_eq_true, q_bI0, q_bI1, q_cbI, Nat.or_zero, mst_row, mrow_neA, mrow_neB, mrow_self, q_upd, f_X11_marries_L72, q_people h', x1, c1, a1, x2, c2, a2, x3, c3]
                · have c2 := Bool.not_eq_true _ ▸ c2
                  refine keep ?_ (by unfold mp; rw [c2]; simp)
                  simp (disch := omega) only [Option.bind_some, Option.map_some, Option.bind_none, q_lit, nI_add, pk_mul, q_sub, q_addn, q_cl, q_le, q_lt, q_eq, q_ck, q_cd, q_cb0, q_cb1, q_div, q_rem, q_shl1, q_shr, q_and, q_or, q_tb, if_pos, if_neg, if_true, if_false, not_true, not_false_iff, eq_self, Bool.true_eq_false, Bool.false_eq_true, q_bI0, q_bI1, q_cbI, Nat.or_zero, mst_row, mrow_neA, mrow_neB, mrow_self, q_upd, f_X11_marries_L72, q_people h', x1, c1, a1, x2, c2]
              · have c1 := Bool.not_eq_true _ ▸ c1
                refine keep ?_ (by unfold mp; rw [c1]; simp)
                simp (disch := omega) only [Option.bind_some, Option.map_some, Option.bind_none, q_lit, nI_add, pk_mul, q_sub, q_addn, q_cl, q_le, q_lt, q_eq, q_ck, q_cd, q_cb0, q_cb1, q_div, q_rem, q_shl1, q_shr, q_and, q_or, q_tb, if_pos, if_neg, if_true, if_false, not_true, not_false_iff, eq_self, Bool.true_eq_false, Bool.false_eq_true, q_bI0, q_bI1, q_cbI, Nat.or_zero, mst_row, mrow_neA, mrow_neB, mrow_self, q_upd, f_X11_marries_L72, q_people h', x1, c1]
            · rintro _ rfl
              rw [show tz s + 1 + (n - (tz s + 1)) = n by omega]
              have h' := hb'.row (a := 36) (b := 0) (upd (b (36, 0)) s (nI (prm K (prT K n s) s n))) (by omega)
              refine ⟨_, ?_, rfl⟩
              show f_X11_marries_L72 (nI s) (nI (tz s)) (mrow b (36, 0) (upd (b (36, 0)) s (nI (prm K (prT K n s) s n)))) (nI n) = _
              simp (disch := omega) only [Option.bind_some, Option.map_some, Option.bind_none, q_lit, nI_add, pk_mul, q_sub, q_addn, q_cl, q_le, q_lt, q_eq, q_ck, q_cd, q_cb0, q_cb1, q_div, q_rem, q_shl1, q_shr, q_and, q_or, q_tb, if_pos, if_neg, if_true, if_false, not_true, not_false_iff, eq_self, Bool.true_eq_false, Bool.false_eq_true, q_bI0, q_bI1, q_cbI, Nat.or_zero, mst_row, mrow_neA, mrow_neB, mrow_self, q_upd, f_X11_marries_L72, q_people h', Nat.le_refl]
          obtain ⟨_, e1, rfl⟩ := e1
          rw [prm_low (tz s + 1) (Nat.le_refl _)] at e1
          refine ⟨(mrow b (36, 0) (upd (b (36, 0)) s (nI (prm K (prT K n s) s n))), nI (s + 1)), ?_, _, rfl, hb'.row _ (by omega), hF.mr (by decide), fun p hp => by rw [mrow_neA (by omega)]; exact hA p hp, fun s' hs' => ?_⟩
          · show f_X11_marries_L29 b (nI s) = _
            have hzz := hz.2.2.1
            have hzl := hz.2.2.2
            simp (disch := omega) only [Option.bind_some, Option.map_some, Option.bind_none, q_lit, nI_add, pk_mul, q_sub, q_addn, q_cl, q_le, q_lt, q_eq, q_ck, q_cd, q_cb0, q_cb1, q_div, q_rem, q_shl1, q_shr, q_and, q_or, q_tb, if_pos, if_neg, if_true, if_false, not_true, not_false_iff, eq_self, Bool.true_eq_false, Bool.false_eq_true, q_bI0, q_bI1, q_cbI, Nat.or_zero, mst_row, mrow_neA, mrow_neB, mrow_self, q_upd, f_X11_marries_L29, f_X11_marries_J67, q_people hb', k1, c0, hzz, hlow, e1]
          · rw [mrow_self, q_upd, prT_s, updN_ap]
            by_cases e : s' = s
            · rw [if_pos e, if_pos e, if_neg c0]
            · rw [if_neg e, if_neg e]; exact hT s' (by omega)
      · rintro _ ⟨b, rfl, hb', hF, hA, hT⟩
        refine ⟨b, ?_, hb', hF, hA, hT⟩
        show f_X11_marries_L29 b (nI (2 ^ n)) = _
        simp (disch := omega) only [Option.bind_some, Option.map_some, Option.bind_none, q_lit, nI_add, pk_mul, q_sub, q_addn, q_cl, q_le, q_lt, q_eq, q_ck, q_cd, q_cb0, q_cb1, q_div, q_rem, q_shl1, q_shr, q_and, q_or, q_tb, if_pos, if_neg, if_true, if_false, not_true, not_false_iff, eq_self, Bool.true_eq_false, Bool.false_eq_true, q_bI0, q_bI1, q_cbI, Nat.or_zero, mst_row, mrow_neA, mrow_neB, mrow_self, q_upd, f_X11_marries_L29, q_people hb', Nat.le_refl]
    obtain ⟨x, h1, h2⟩ := hh
    exact ⟨x, by show f_X11_marries_L2 a (nI n) = _; rw [e, h1]; rfl, h2⟩
theorem q_walk (h : RS μ V n N w0 r) {K T : Nat → Nat} (hM : MT μ K T n) (hK : ∀ p, K p < 512) (hT : ∀ s, T s ≤ s) {x : Nat} (hx : x < n) : ∀ f s, s < f → s < 2 ^ n → Wh (fun z : Int32 => f_X11_married_L58 (nI x) μ z) (nI s) = some (mrw K T n x f s, μ) := by
  have hb := h.2.b
  have h9 := pow_512 hb.2.2.2.2.1
  intro f
  induction f with
  | zero => intro s hs; omega
  | succ f ih =>
    intro s hs hs2
    by_cases c0 : s = 0
    · subst c0
      refine Wh_end ?_
      show f_X11_married_L58 (nI x) μ (nI 0) = _
      simp (disch := omega) only [Option.bind_some, Option.map_some, Option.bind_none, q_lit, nI_add, pk_mul, q_sub, q_addn, q_cl, q_le, q_lt, q_eq, q_ck, q_cd, q_cb0, q_cb1, q_div, q_rem, q_shl1, q_shr, q_and, q_or, q_tb, if_pos, if_neg, if_true, if_false, not_true, not_false_iff, eq_self, Bool.true_eq_false, Bool.false_eq_true, q_bI0, q_bI1, q_cbI, Nat.or_zero, mst_row, mrow_neA, mrow_neB, mrow_self, q_upd, f_X11_married_L58, mrw]
    · have hz := tz_spec s (by omega) c0
      have hzl := hz.2.2.2
      have k1 := k_tz (show s < 512 by omega)
      have ht9 : tz s < 9 := hz.1
      have htn : tz s < n := by
        rcases Nat.lt_or_ge (tz s) n with h1 | h1
        · exact h1
        · have h2 : s.testBit (tz s) = false := Nat.testBit_lt_two_pow (Nat.lt_of_lt_of_le hs2 (Nat.pow_le_pow_right (by decide) h1))
          rw [hz.2.1] at h2; cases h2
      have hin : Wh (fun z : Int32 => f_X11_married_L72 (nI x) (nI s) (nI (tz s)) μ z) (nI (tz s + 1)) = some (if tz s = x ∨ fwP K T n s = some x then .inr (if tz s = x then oN (fwP K T n s) else nI (tz s), μ) else .inl (nI (nxt K T n s))) := by
        have J : ∀ q, q ≤ n → (q = n ∧ fwP K T n s = none ∨ fwP K T n s = some q) → (q = n ∨ tz s < q) → f_X11_married_J141 μ (nI x) (nI s) (nI (tz s)) (nI q) = some (if tz s = x ∨ fwP K T n s = some x then .inr (if tz s = x then oN (fwP K T n s) else nI (tz s), μ) else .inl (nI (nxt K T n s))) := by
          intro q hq hfw hlt
          rcases hfw with ⟨rfl, hf⟩ | hf
          · have hnx : nxt K T q s = andn s (2 ^ tz s) := by unfold nxt; rw [hf]
            rw [hf, hnx]
            by_cases c1 : tz s = x
            · have hv : oN none = -nI 1 := rfl
              rw [if_pos (Or.inl c1), if_pos c1, hv]
              simp (disch := omega) only [Option.bind_some, Option.map_some, Option.bind_none, q_lit, nI_add, pk_mul, q_sub, q_addn, q_cl, q_le, q_lt, q_eq, q_ck, q_cd, q_cb0, q_cb1, q_div, q_rem, q_shl1, q_shr, q_and, q_or, q_tb, if_pos, if_neg, if_true, if_false, not_true, not_false_iff, eq_self, Bool.true_eq_false, Bool.false_eq_true, q_bI0, q_bI1, q_cbI, Nat.or_zero, mst_row, mrow_neA, mrow_neB, mrow_self, q_upd, f_X11_married_J141, q_people h, c1]
            · have : ¬ (tz s = x ∨ (none : Option Nat) = some x) := by simp [c1]
              rw [if_neg this]
              simp (disch := omega) only [Option.bind_some, Option.map_some, Option.bind_none, q_lit, nI_add, pk_mul, q_sub, q_addn, q_cl, q_le, q_lt, q_eq, q_ck, q_cd, q_cb0, q_cb1, q_div, q_rem, q_shl1, q_shr, q_and, q_or, q_tb, if_pos, if_neg, if_true, if_false, not_true, not_false_iff, eq_self, Bool.true_eq_false, Bool.false_eq_true, q_bI0, q_bI1, q_cbI, Nat.or_zero, mst_row, mrow_neA, mrow_neB, mrow_self, q_upd, f_X11_married_J141, q_people h, c1, q_andn]
          · have hl := fwP_lt hf
            have hnx : nxt K T n s = andn (andn s (2 ^ tz s)) (2 ^ q) := by unfold nxt; rw [hf]
            have hv : oN (some q) = nI q := rfl
            rw [hf, hnx, hv]
            by_cases c1 : tz s = x
            · rw [if_pos (Or.inl c1), if_pos c1]
              simp (disch := omega) only [Option.bind_some, Option.map_some, Option.bind_none, q_lit, nI_add, pk_mul, q_sub, q_addn, q_cl, q_le, q_lt, q_eq, q_ck, q_cd, q_cb0, q_cb1, q_div, q_rem, q_shl1, q_shr, q_and, q_or, q_tb, if_pos, if_neg, if_true, if_false, not_true, not_false_iff, eq_self, Bool.true_eq_false, Bool.false_eq_true, q_bI0, q_bI1, q_cbI, Nat.or_zero, mst_row, mrow_neA, mrow_neB, mrow_self, q_upd, f_X11_married_J141, q_people h, c1]
            · by_cases c2 : q = x
              · rw [if_pos (Or.inr (by rw [c2])), if_neg c1]
                simp (disch := omega) only [Option.bind_some, Option.map_some, Option.bind_none, q_lit, nI_add, pk_mul, q_sub, q_addn, q_cl, q_le, q_lt, q_eq, q_ck, q_cd, q_cb0, q_cb1, q_div, q_rem, q_shl1, q_shr, q_and, q_or, q_tb, if_pos, if_neg, if_true, if_false, not_true, not_false_iff, eq_self, Bool.true_eq_false, Bool.false_eq_true, q_bI0, q_bI1, q_cbI, Nat.or_zero, mst_row, mrow_neA, mrow_neB, mrow_self, q_upd, f_X11_married_J141, q_people h, c1, c2]
              · have : ¬ (tz s = x ∨ (some q : Option Nat) = some x) := by simp [c1, c2]
                rw [if_neg this]
                have ea : nI s &&& (((1 : Int32) <<< (nI (tz s) &&& 31) ^^^ (-1 : Int32)) &&& ((1 : Int32) <<< (nI q &&& 31) ^^^ (-1 : Int32))) = nI (andn (andn s (2 ^ tz s)) (2 ^ q)) := by
                  rw [← Int32.and_assoc]
                  simp (disch := omega) only [Option.bind_some, Option.map_some, Option.bind_none, q_lit, nI_add, pk_mul, q_sub, q_addn, q_cl, q_le, q_lt, q_eq, q_ck, q_cd, q_cb0, q_cb1, q_div, q_rem, q_shl1, q_shr, q_and, q_or, q_tb, if_pos, if_neg, if_true, if_false, not_true, not_false_iff, eq_self, Bool.true_eq_false, Bool.false_eq_true, q_bI0, q_bI1, q_cbI, Nat.or_zero, mst_row, mrow_neA, mrow_neB, mrow_self, q_upd, q_andn]
                unfold f_X11_married_J141
                rw [if_neg (by rw [q_eq (by omega) (by omega)]; exact c1), if_neg (by rw [q_eq (by omega) (by omega)]; exact c2), q_people h, Option.bind_some, if_neg (by rw [q_eq (by omega) (by omega)]; omega), ea]
        have hh : ∃ y, Wh (fun z : Int32 => f_X11_married_L72 (nI x) (nI s) (nI (tz s)) μ z) (nI (tz s + 1)) = some y ∧ y = (if tz s = x ∨ fwP K T n s = some x then .inr (if tz s = x then oN (fwP K T n s) else nI (tz s), μ) else .inl (nI (nxt K T n s))) := by
          refine Wh_inv (n - (tz s + 1)) (fun m z => z = nI (tz s + 1 + m) ∧ ∀ i, i < tz s + 1 + m → (decide (tz s < i) && fwC K T s i) = false) _ ⟨rfl, fun i hi => by rw [decide_eq_false (by omega)]; rfl⟩ ?_ ?_
          · rintro m _ hm ⟨rfl, hA⟩
            obtain ⟨q, hq⟩ : ∃ q, q = tz s + 1 + m := ⟨_, rfl⟩
            rw [← hq] at hA ⊢
            have hqn : q < n := by omega
            have x1 := q_has (m := s) (p := q) (by omega) (by omega)
            have x2 := q_has (m := K (tz s)) (p := q) (by have := hK (tz s); omega) (by omega)
            have x3 := q_has (m := K q) (p := tz s) (by have := hK q; omega) (by omega)
            have a1 := hM.1 (tz s) htn
            have a2 := hM.1 q hqn
            have po := q_pairOf (μ := μ) (T := T) (s := s) (p := tz s) (q := q) (by omega) (by omega) (by omega) (fun s' hs' => hM.2 s' (by omega)) (by omega)
            have pT := hM.2 s hs2
            have h2 : andn (andn s (2 ^ tz s)) (2 ^ q) ≤ andn s (2 ^ tz s) := andn_le (by omega)
            have t1 := hT (andn (andn s (2 ^ tz s)) (2 ^ q))
            have t2 := hT s
            have keep : f_X11_married_L72 (nI x) (nI s) (nI (tz s)) μ (nI q) = some (.inl (nI (q + 1))) → fwC K T s q = false → (∃ s', (fun z : Int32 => f_X11_married_L72 (nI x) (nI s) (nI (tz s)) μ z) (nI q) = some (.inl s') ∧ s' = nI (tz s + 1 + (m + 1)) ∧ ∀ i, i < tz s + 1 + (m + 1) → (decide (tz s < i) && fwC K T s i) = false) := by
              intro e1 e2
              refine ⟨_, e1, by rw [hq]; rfl, fun i hi => ?_⟩
              by_cases e : i = q
              · rw [e, e2, Bool.and_false]
              · exact hA i (by omega)
            by_cases c1 : s.testBit q = true
            · by_cases c2 : (K (tz s)).testBit q = true
              · by_cases c3 : (K q).testBit (tz s) = true
                · by_cases c4 : 1 + T (andn (andn s (2 ^ tz s)) (2 ^ q)) = T s
                  · right
                    have hfc : fwC K T s q = true := by unfold fwC mp; rw [c1, c2, c3, decide_eq_true c4]; rfl
                    have hfw : fwP K T n s = some q := fstN_some hqn (by rw [decide_eq_true (show tz s < q by omega), hfc]; rfl) hA
                    have hJ := J q (by omega) (Or.inr hfw) (Or.inr (by omega))
                    refine ⟨_, ?_, rfl⟩
                    show f_X11_married_L72 (nI x) (nI s) (nI (tz s)) μ (nI q) = _
                    simp (disch := omega) only [Option.bind_some, Option.map_some, Option.bind_none, q_lit, nI_add, pk_mul, q_sub, q_addn, q_cl, q_le, q_lt, q_eq, q_ck, q_cd, q_cb0, q_cb1, q_div, q_rem, q_shl1, q_shr, q_and, q_or, q_tb, if_pos, if_neg, if_true, if_false, not_true, not_false_iff, eq_self, Bool.true_eq_false, Bool.false_eq_true, q_bI0, q_bI1, q_cbI, Nat.or_zero, mst_row, mrow_neA, mrow_neB, mrow_self, q_upd, f_X11_married_L72, q_people h, x1, c1, a1, x2, c2, a2, x3, c3, po, pT, c4, hJ]
                  · left
                    refine keep ?_ (by unfold fwC; rw [decide_eq_false c4, Bool.and_false])
                    simp (disch := omega) only [Option.bind_some, Option.map_some, Option.bind_none, q_lit, nI_add, pk_mul, q_sub, q_addn, q_cl, q_le, q_lt, q_eq, q_ck, q_cd, q_cb0, q_cb1, q_div, q_rem, q_shl1, q_shr, q_and, q_or, q_tb, if_pos, if_neg, if_true, if_false, not_true, not_false_iff, eq_self, Bool.true_eq_false, Bool.false_eq_true, q_bI0, q_bI1, q_cbI, Nat.or_zero, mst_row, mrow_neA, mrow_neB, mrow_self, q_upd, f_X11_married_L72, q_people h, x1, c1, a1, x2, c2, a2, x3, c3, po, pT, c4]
                · left
                  have c3 := Bool.not_eq_true _ ▸ c3
                  refine keep ?_ (by unfold fwC mp; rw [c3]; simp)
                  simp (disch := omega) only [Option.bind_some, Option.map_some, Option.bind_none, q_lit, nI_add, pk_mul, q_sub, q_addn, q_cl, q_le, q_lt, q_eq, q_ck, q_cd, q_cb0, q_cb1, q_div, q_rem, q_shl1, q_shr, q_and, q_or, q_tb, if_pos, if_neg, if_true, if_false, not_true, not_false_iff, eq_self, Bool.true_eq_false, Bool.false_eq_true, q_bI0, q_bI1, q_cbI, Nat.or_zero, mst_row, mrow_neA, mrow_neB, mrow_self, q_upd, f_X11_married_L72, q_people h, x1, c1, a1, x2, c2, a2, x3, c3]
              · left
                have c2 := Bool.not_eq_true _ ▸ c2
                refine keep ?_ (by unfold fwC mp; rw [c2]; simp)
                simp (disch := omega) only [Option.bind_some, Option.map_some, Option.bind_none, q_lit, nI_add, pk_mul, q_sub, q_addn, q_cl, q_le, q_lt, q_eq, q_ck, q_cd, q_cb0, q_cb1, q_div, q_rem, q_shl1, q_shr, q_and, q_or, q_tb, if_pos, if_neg, if_true, if_false, not_true, not_false_iff, eq_self, Bool.true_eq_false, Bool.false_eq_true, q_bI0, q_bI1, q_cbI, Nat.or_zero, mst_row, mrow_neA, mrow_neB, mrow_self, q_upd, f_X11_married_L72, q_people h, x1, c1, a1, x2, c2]
            · left
              have c1 := Bool.not_eq_true _ ▸ c1
              refine keep ?_ (by unfold fwC mp; rw [c1]; simp)
              simp (disch := omega) only [Option.bind_some, Option.map_some, Option.bind_none, q_lit, nI_add, pk_mul, q_sub, q_addn, q_cl, q_le, q_lt, q_eq, q_ck, q_cd, q_cb0, q_cb1, q_div, q_rem, q_shl1, q_shr, q_and, q_or, q_tb, if_pos, if_neg, if_true, if_false, not_true, not_false_iff, eq_self, Bool.true_eq_false, Bool.false_eq_true, q_bI0, q_bI1, q_cbI, Nat.or_zero, mst_row, mrow_neA, mrow_neB, mrow_self, q_upd, f_X11_married_L72, q_people h, x1, c1]
          · rintro _ ⟨rfl, hA⟩
            rw [show tz s + 1 + (n - (tz s + 1)) = n by omega] at hA ⊢
            have hfw : fwP K T n s = none := fstN_none hA
            have hJ := J n (Nat.le_refl _) (Or.inl ⟨rfl, hfw⟩) (Or.inl rfl)
            refine ⟨_, ?_, rfl⟩
            show f_X11_married_L72 (nI x) (nI s) (nI (tz s)) μ (nI n) = _
            simp (disch := omega) only [Option.bind_some, Option.map_some, Option.bind_none, q_lit, nI_add, pk_mul, q_sub, q_addn, q_cl, q_le, q_lt, q_eq, q_ck, q_cd, q_cb0, q_cb1, q_div, q_rem, q_shl1, q_shr, q_and, q_or, q_tb, if_pos, if_neg, if_true, if_false, not_true, not_false_iff, eq_self, Bool.true_eq_false, Bool.false_eq_true, q_bI0, q_bI1, q_cbI, Nat.or_zero, mst_row, mrow_neA, mrow_neB, mrow_self, q_upd, f_X11_married_L72, q_people h, Nat.le_refl, hJ]
        obtain ⟨_, e1, rfl⟩ := hh
        exact e1
      have es : mrw K T n x (f + 1) s = if s = 0 then -nI 1 else if tz s = x then oN (fwP K T n s) else if fwP K T n s = some x then nI (tz s) else mrw K T n x f (nxt K T n s) := rfl
      rw [es, if_neg c0]
      have step : f_X11_married_L58 (nI x) μ (nI s) = some (if tz s = x ∨ fwP K T n s = some x then .inr (if tz s = x then oN (fwP K T n s) else nI (tz s), μ) else .inl (nI (nxt K T n s))) := by
        simp (disch := omega) only [Option.bind_some, Option.map_some, Option.bind_none, q_lit, nI_add, pk_mul, q_sub, q_addn, q_cl, q_le, q_lt, q_eq, q_ck, q_cd, q_cb0, q_cb1, q_div, q_rem, q_shl1, q_shr, q_and, q_or, q_tb, if_pos, if_neg, if_true, if_false, not_true, not_false_iff, eq_self, Bool.true_eq_false, Bool.false_eq_true, q_bI0, q_bI1, q_cbI, Nat.or_zero, mst_row, mrow_neA, mrow_neB, mrow_self, q_upd, f_X11_married_L58, c0, k1, hin]
      by_cases c1 : tz s = x
      · rw [if_pos (Or.inl c1), if_pos c1] at step
        rw [if_pos c1]
        exact Wh_end step
      · by_cases c2 : fwP K T n s = some x
        · rw [if_pos (Or.inr c2), if_neg c1] at step
          rw [if_neg c1, if_pos c2]
          exact Wh_end step
        · have : ¬ (tz s = x ∨ fwP K T n s = some x) := fun z => z.elim c1 c2
          rw [if_neg this] at step
          rw [if_neg c1, if_neg c2]
          have hlt := nxt_lt (K := K) (T := T) (n := n) (show s < 512 by omega) c0
          exact Wh_step step (ih _ (by omega) (by omega))
end MARQ
