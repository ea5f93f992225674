-- rows: who stands behind whom, in how many ways
def FRx (T : Nat → Nat) (i p : Nat) : Nat := if T (3 * i + 2) = 1 then (if T (3 * i + 1) - 97 = p then 2 ^ (T (3 * i) - 97) else 0) else (if T (3 * i) - 97 = p then 2 ^ (T (3 * i + 1) - 97) else 0)
def FR (T : Nat → Nat) (m p : Nat) : Nat := orN m (fun i => FRx T i p)
def GF (T : Nat → Nat) (n k : Nat) (base : Nat → Int32) : Nat → Int32 := fun p => if p < n then nI (FR T k p) else base p
theorem GF_s {T : Nat → Nat} {n k p0 b : Nat} {base : Nat → Int32} (hp : p0 < n) (h : ∀ p, FRx T k p = if p0 = p then b else 0) : upd (GF T n k base) p0 (GF T n k base p0 ||| nI b) = GF T n (k + 1) base := by
  funext p
  have es : FR T (k + 1) p = FR T k p ||| FRx T k p := rfl
  rw [q_upd]
  unfold GF
  by_cases e : p = p0
  · subst e
    rw [if_pos rfl, if_pos hp, if_pos hp, es, h, if_pos rfl, q_or]
  · rw [if_neg e]
    by_cases c : p < n
    · rw [if_pos c, if_pos c, es, h, if_neg (fun x => e x.symm), Nat.or_zero]
    · rw [if_neg c, if_neg c]
/-- p may stand behind those of s -/
def MF (G : Nat → Int32) (s p : Nat) : Bool := !s.testBit p && decide ((G p &&& (nI s ^^^ (-1 : Int32))) = 0)
def st0 (i : Nat) : Nat := if i = 0 then 1 else 0
/-- ways to go on behind s: the table after i turns -/
def RT (G : Nat → Int32) (n : Nat) : Nat → Nat → Nat
  | 0 => fun _ => 0
  | i + 1 => fun s => if s + i + 1 = 2 ^ n then st0 i + smN n (fun p => if MF G s p = true then RT G n i (s ||| 2 ^ p) else 0) else RT G n i s
def tbI (G : Nat → Int32) (n i : Nat) (base : Nat → Int32) : Nat → Int32 := fun s => if 2 ^ n ≤ s + i ∧ s < 2 ^ n then nI (RT G n i s) else base s
theorem tbI_s {G : Nat → Int32} {n i s : Nat} {base : Nat → Int32} (hs : s + i + 1 = 2 ^ n) : upd (tbI G n i base) s (nI (st0 i + smN n (fun p => if MF G s p = true then RT G n i (s ||| 2 ^ p) else 0))) = tbI G n (i + 1) base := by
  funext x
  rw [q_upd]
  unfold tbI
  by_cases e : x = s
  · subst e
    rw [if_pos rfl, if_pos ⟨by omega, by omega⟩]
    show _ = nI (if x + i + 1 = 2 ^ n then st0 i + smN n (fun p => if MF G x p = true then RT G n i (x ||| 2 ^ p) else 0) else RT G n i x)
    rw [if_pos hs]
  · rw [if_neg e]
    by_cases c : 2 ^ n ≤ x + i ∧ x < 2 ^ n
    · rw [if_pos c, if_pos ⟨by omega, c.2⟩]
      show nI (RT G n i x) = nI (if x + i + 1 = 2 ^ n then st0 i + smN n (fun p => if MF G x p = true then RT G n i (x ||| 2 ^ p) else 0) else RT G n i x)
      rw [if_neg (by omega)]
    · rw [if_neg c, if_neg (fun y => c ⟨by omega, y.2⟩)]
theorem tbI_at {G : Nat → Int32} {n i s p : Nat} {base : Nat → Int32} (hs : s + i + 1 = 2 ^ n) (hp : p < n) (h : s.testBit p = false) : tbI G n i base (s ||| 2 ^ p) = nI (RT G n i (s ||| 2 ^ p)) := by
  have := or_up (by omega) hp h
  unfold tbI
  rw [if_pos ⟨by omega, this.2⟩]
theorem MF_tb {G : Nat → Int32} {s p : Nat} (h : MF G s p = true) : s.testBit p = false := by
  unfold MF at h
  cases hh : s.testBit p
  · rfl
  · rw [hh] at h; cases h
section WAYQ
variable {μ : Mm} {V n N w0 z : Nat} {r : Nat → Int32} {T : Nat → Nat} {G : Nat → Int32}
theorem q_canStand (hn : n ≤ 7) (hG : ∀ p, p < n → μ (33, 0) p = G p) {s p : Nat} (hs : s < 2 ^ n) (hp : p < n) : f_X11_canStand μ (nI s) (nI p) = some (bI (MF G s p)) := by
  have h2 : 2 ^ n ≤ 2 ^ 7 := Nat.pow_le_pow_right (by decide) hn
  rw [f_X11_canStand, q_has (by omega) (by omega), Option.bind_some]
  unfold MF
  cases hb : s.testBit p
  · rw [if_pos (show bI false = 0 from rfl), q_ck (by omega) (by omega), q_cl (by omega), hG p hp]
    by_cases c : (G p &&& (nI s ^^^ (-1 : Int32))) = 0
    · rw [if_pos c, decide_eq_true c]; rfl
    · rw [if_neg c, decide_eq_false c]; rfl
  · rw [if_neg (show ¬ bI true = 0 by decide)]; rfl
/-- the ways of one set, from what is there -/
theorem q_way (h : RS μ V n N w0 r) (hn : n ≤ 7) (hG : ∀ p, p < n → μ (33, 0) p = G p) {v1 v3 : Int32} {i s : Nat} {base : Nat → Int32} (hs : s + i + 1 = 2 ^ n) (h34 : μ (34, 0) = tbI G n i base) :
    f_X11_rows_J183 μ v1 v3 (nI s) (nI (st0 i)) (nI s) = some (.inl (mrow μ (34, 0) (tbI G n (i + 1) base), nI s + (-1 : Int32))) := by
  have h2 : 2 ^ n ≤ 2 ^ 7 := Nat.pow_le_pow_right (by decide) hn
  have hx : st0 i ≤ 1 := by unfold st0; split <;> omega
  rw [f_X11_rows_J183, q_ck (by omega) (by omega), q_cl (by omega)]
  obtain ⟨f, hf⟩ : ∃ f : Nat → Nat, f = fun p => if MF G s p = true then RT G n i (s ||| 2 ^ p) else 0 := ⟨_, rfl⟩
  rw [← tbI_s (G := G) (base := base) hs, ← hf]
  refine Wh_it n (fun p => (mrow μ (34, 0) (upd (tbI G n i base) s (nI (st0 i + smN p f))), nI p)) ?_ (fun p hp => ?_) ?_
  · rw [mst_row, h34]; rfl
  · show f_X11_rows_L187 v1 v3 (nI s) (mrow μ (34, 0) (upd (tbI G n i base) s (nI (st0 i + smN p f)))) (nI p) = _
    have h' := h.row (a := 34) (b := 0) (upd (tbI G n i base) s (nI (st0 i + smN p f))) (by omega)
    have hlt : ¬ nI n ≤ nI p := by rw [q_le (by omega) (by omega)]; omega
    have e1 : nI p + (1 : Int32) = nI (p + 1) := by rw [show (1 : Int32) = nI 1 from rfl, nI_add]
    have hc := q_canStand (μ := mrow μ (34, 0) (upd (tbI G n i base) s (nI (st0 i + smN p f)))) (G := G) hn (fun p hp => by rw [mrow_neA (by omega)]; exact hG p hp) (s := s) (by omega) hp
    have es : smN (p + 1) f = smN p f + f p := rfl
    have efp : f p = if MF G s p = true then RT G n i (s ||| 2 ^ p) else 0 := by rw [hf]
    have huu : ∀ x y : Int32, upd (upd (tbI G n i base) s x) s y = upd (tbI G n i base) s y := fun x y => upd_upd
    unfold f_X11_rows_L187
    rw [q_people h', Option.bind_some, if_neg hlt, q_ck (by omega) (by omega), hc, Option.bind_some, e1, q_cl (by omega), mrow_self, q_upd, if_pos rfl, es, efp]
    cases hm : MF G s p
    · rw [if_pos (show bI false = 0 from rfl), q_ck (by omega) (by omega), if_neg (show ¬ false = true by decide), mst_row, mrow_self, mrow_mrow, huu, show (0 : Int32) = nI 0 from rfl, nI_add]
      rfl
    · have hb := MF_tb hm
      have hu := or_up (by omega) hp hb
      rw [if_neg (show ¬ bI true = 0 by decide), pow_sh (by omega), q_or, q_ck (by omega) (by omega), q_ck (by omega) (by omega), q_cl (by omega), q_upd, if_neg (by omega), tbI_at hs hp hb, if_pos rfl, mst_row, mrow_self, mrow_mrow, huu, nI_add, Nat.add_assoc]
  · show f_X11_rows_L187 v1 v3 (nI s) (mrow μ (34, 0) (upd (tbI G n i base) s (nI (st0 i + smN n f)))) (nI n) = _
    have h' := h.row (a := 34) (b := 0) (upd (tbI G n i base) s (nI (st0 i + smN n f))) (by omega)
    unfold f_X11_rows_L187
    rw [q_people h', Option.bind_some, if_pos (show nI n ≤ nI n from Int32.le_refl _)]
    rfl
/-- who must stand behind, gathered -/
theorem q_gath (hz : z ≤ 400) (hn : n ≤ 7) (h256 : ∀ i, T i < 256) (h14 : μ (0, 0) 14 = nI z) (hT : ∀ i, i < 400 → μ (11, 0) i = sgn (T i)) (hok : okB T z n 2 false = true) {v1 : Int32} {base : Nat → Int32} {k : Nat} (hk : k < z / 3) :
    f_X11_rows_L68 v1 (mrow μ (33, 0) (GF T n k base)) (nI (3 * k)) = some (.inl (mrow μ (33, 0) (GF T n (k + 1) base), nI (3 * (k + 1)))) := by
  obtain ⟨h3, ht⟩ := okB_at hok
  obtain ⟨t0, t1, t2, -⟩ := ht k hk
  have e1 : nI (3 * k) + (1 : Int32) = nI (3 * k + 1) := by rw [show (1 : Int32) = nI 1 from rfl, nI_add]
  have e2 : nI (3 * k) + (2 : Int32) = nI (3 * k + 2) := by rw [show (2 : Int32) = nI 2 from rfl, nI_add]
  have e3 : nI (3 * k) + (3 : Int32) = nI (3 * (k + 1)) := by rw [show (3 : Int32) = nI 3 from rfl, nI_add, show 3 * k + 3 = 3 * (k + 1) by omega]
  have hlt : ¬ nI z ≤ nI (3 * k) := by rw [q_le (by omega) (by omega)]; omega
  have b0 : mrow μ (33, 0) (GF T n k base) (0, 0) 14 = nI z := by rw [mrow_neA (by omega)]; exact h14
  have bT : ∀ i, i < 400 → mrow μ (33, 0) (GF T n k base) (11, 0) i = sgn (T i) := fun i hi => by rw [mrow_neA (by omega)]; exact hT i hi
  have ee : (nI (T (3 * k + 2)) = (1 : Int32)) = (T (3 * k + 2) = 1) := q_eq (b := 1) (by omega) (by omega)
  unfold f_X11_rows_L68
  rw [b0, e1, e2, e3, if_neg hlt, q_ck (by omega) (by omega), q_ck (by omega) (by omega), q_ck (by omega) (by omega), q_cl (by omega), q_cl (by omega), q_cl (by omega), bT _ (by omega), bT _ (by omega), bT _ (by omega), (sgn_th _ (h256 _)).1 (by omega), (sgn_th _ (h256 _)).1 (by omega), (sgn_th _ (h256 _)).1 (by omega), per_n t0.1, per_n t1.1, q_cl (by omega), q_cl (by omega), pow_sh (by omega), pow_sh (by omega), mrow_self]
  by_cases c : T (3 * k + 2) = 1
  · rw [if_pos (ee.mpr c), q_ck (by omega) (by omega), q_ck (by omega) (by omega), mst_row, mrow_self, mrow_mrow, GF_s (by omega) (fun p => by unfold FRx; rw [if_pos c])]
  · rw [if_neg (fun x => c (ee.mp x)), q_ck (by omega) (by omega), q_ck (by omega) (by omega), mst_row, mrow_self, mrow_mrow, GF_s (by omega) (fun p => by unfold FRx; rw [if_neg c])]
end WAYQ
