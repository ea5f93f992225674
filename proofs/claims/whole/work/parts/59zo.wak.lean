-- rows: the class's gathering and ways, and the tables of both
theorem bit_0 {s p : Nat} (hs : s < 2147483648) (hp : p < 32) : (((nI s >>> (nI p &&& (31 : Int32))) &&& (1 : Int32)) = 0) = (s.testBit p = false) := by
  rw [show (31 : Int32) = nI 31 from rfl, q_and, q_shr hs hp, show (1 : Int32) = nI 1 from rfl, q_and, q_tbn]
  cases s.testBit p
  · exact propext ⟨fun _ => rfl, fun _ => rfl⟩
  · exact propext ⟨fun x => absurd (show nI 1 = 0 from x) (by decide), fun x => by cases x⟩
section WAYK
variable {sh : Sh} {ln : Nat → Nat} {μ : Mm} {j V n N w0 z : Nat} {r : Nat → Int32} {T : Nat → Nat} {G : Nat → Int32}
theorem k_mayFollow (hL : LN ln) (hn : n ≤ 7) (hG : ∀ p, p < n → μ (12, 13) p = G p) {s p : Nat} (hs : s < 2 ^ n) (hp : p < n) : f_X5_mayFollow sh ln μ (nI s) (nI p) = some (bI (MF G s p)) := by
  have h2 : 2 ^ n ≤ 2 ^ 7 := Nat.pow_le_pow_right (by decide) hn
  have hl : ln 13 = 9 := hL.2.2.2.2.2.2.2.2.2.2.2.2.2.1
  have eb := bit_0 (s := s) (p := p) (by omega) (by omega)
  rw [f_X5_mayFollow]
  unfold MF
  cases hb : s.testBit p
  · rw [if_pos (eb.mpr hb), k_at (by omega) (by omega), Option.bind_some, hG p hp]
    by_cases c : (G p &&& (nI s ^^^ (-1 : Int32))) = 0
    · rw [if_pos c, decide_eq_true c]; rfl
    · rw [if_neg c, decide_eq_false c]; rfl
  · rw [if_neg (fun x => by have := eb.mp x; rw [hb] at this; cases this)]; rfl
theorem k_way (h1 : μ (13, j) 1 = nI n) (hL : LN ln) (hn : n ≤ 7) (hG : ∀ p, p < n → μ (12, 13) p = G p) {v4 : Int32} {i s : Nat} {base : Nat → Int32} (hi : 0 < i) (hs : s + i + 1 = 2 ^ n) (h11 : μ (12, 11) = tbI G n i base) :
    Wh (fun z : Int32 × Int32 => f_X5_standInRow_L56 sh ln j v4 (nI s) μ z.1 z.2) ((0 : Int32), (0 : Int32)) = some (.inl (mrow μ (12, 11) (tbI G n (i + 1) base), nI s + (-1 : Int32))) := by
  have h2 : 2 ^ n ≤ 2 ^ 7 := Nat.pow_le_pow_right (by decide) hn
  have hl : ln 11 = 512 := hL.2.2.2.2.2.2.2.2.2.2.2.1
  obtain ⟨f, hf⟩ : ∃ f : Nat → Nat, f = fun p => if MF G s p = true then RT G n i (s ||| 2 ^ p) else 0 := ⟨_, rfl⟩
  have e0 : st0 i = 0 := if_neg (by omega)
  rw [← tbI_s (G := G) (base := base) hs, ← hf, e0, Nat.zero_add]
  refine Wh_it n (fun p => (nI (smN p f), nI p)) rfl (fun p hp => ?_) ?_
  · show f_X5_standInRow_L56 sh ln j v4 (nI s) μ (nI (smN p f)) (nI p) = _
    have hlt : ¬ nI n ≤ nI p := by rw [q_le (by omega) (by omega)]; omega
    have e1 : nI p + (1 : Int32) = nI (p + 1) := by rw [show (1 : Int32) = nI 1 from rfl, nI_add]
    have hc := k_mayFollow (sh := sh) hL hn hG (s := s) (by omega) hp
    have es : smN (p + 1) f = smN p f + f p := rfl
    have efp : f p = if MF G s p = true then RT G n i (s ||| 2 ^ p) else 0 := by rw [hf]
    unfold f_X5_standInRow_L56
    rw [h1, if_neg hlt, hc, Option.bind_some, e1, es, efp]
    cases hm : MF G s p
    · rw [if_pos (show bI false = 0 from rfl), if_neg (show ¬ false = true by decide), show (0 : Int32) = nI 0 from rfl, nI_add]
    · have hb := MF_tb hm
      have hu := or_up (by omega) hp hb
      rw [if_neg (show ¬ bI true = 0 by decide), pow_sh (by omega), q_or, k_at (by omega) (by omega), Option.bind_some, h11, tbI_at hs hp hb, if_pos rfl, nI_add]
  · show f_X5_standInRow_L56 sh ln j v4 (nI s) μ (nI (smN n f)) (nI n) = _
    unfold f_X5_standInRow_L56
    rw [h1, if_pos (show nI n ≤ nI n from Int32.le_refl _), k_put (by omega) (by omega), Option.bind_some, h11]
    rfl
theorem k_gath (hL : LN ln) (hz : z ≤ 400) (hn : n ≤ 7) (h256 : ∀ i, T i < 256) (hT : ∀ i, i < 400 → μ (12, 0) i = nI (T i)) (hok : okB T z n 2 false = true) {base : Nat → Int32} {k : Nat} (hk : k < z / 3) :
    f_X5_gatherPairs_L15 sh ln j (nI z) (mrow μ (12, 13) (GF T n k base)) (nI (3 * k)) = some (.inl (mrow μ (12, 13) (GF T n (k + 1) base), nI (3 * (k + 1)))) := by
  obtain ⟨h3, ht⟩ := okB_at hok
  obtain ⟨t0, t1, t2, -⟩ := ht k hk
  have hl : ln 13 = 9 := hL.2.2.2.2.2.2.2.2.2.2.2.2.2.1
  have e1 : nI (3 * k) + (1 : Int32) = nI (3 * k + 1) := by rw [show (1 : Int32) = nI 1 from rfl, nI_add]
  have e2 : nI (3 * k) + (2 : Int32) = nI (3 * k + 2) := by rw [show (2 : Int32) = nI 2 from rfl, nI_add]
  have e3 : nI (3 * k) + (3 : Int32) = nI (3 * (k + 1)) := by rw [show (3 : Int32) = nI 3 from rfl, nI_add, show 3 * k + 3 = 3 * (k + 1) by omega]
  have hlt : ¬ nI z ≤ nI (3 * k + 2) := by rw [q_le (by omega) (by omega)]; omega
  have bT : ∀ i, i < 400 → mrow μ (12, 13) (GF T n k base) (12, 0) i = nI (T i) := fun i hi => by rw [mrow_ne (by simp)]; exact hT i hi
  have ee : (nI (T (3 * k + 2)) = (1 : Int32)) = (T (3 * k + 2) = 1) := q_eq (b := 1) (by omega) (by omega)
  unfold f_X5_gatherPairs_L15
  rw [e1, e2, e3, if_neg hlt, k_personAt hL bT (by omega), Option.bind_some, k_personAt hL bT (by omega), Option.bind_some, k_tape hL bT (by omega), Option.bind_some, per_n t0.1, per_n t1.1, pow_sh (by omega), pow_sh (by omega)]
  by_cases c : T (3 * k + 2) = 1
  · rw [if_pos (ee.mpr c), k_addBits (by omega) (by omega), Option.bind_some, mrow_self, mrow_mrow, GF_s (by omega) (fun p => by unfold FRx; rw [if_pos c])]
  · rw [if_neg (fun x => c (ee.mp x)), k_addBits (by omega) (by omega), Option.bind_some, mrow_self, mrow_mrow, GF_s (by omega) (fun p => by unfold FRx; rw [if_neg c])]
theorem k_gather (h1 : μ (13, j) 1 = nI n) (hL : LN ln) (hz : z ≤ 400) (hn : n ≤ 7) (h256 : ∀ i, T i < 256) (hT : ∀ i, i < 400 → μ (12, 0) i = nI (T i)) (hok : okB T z n 2 false = true) :
    f_X5_gatherPairs sh ln j μ (nI z) = some (mrow μ (12, 13) (GF T n (z / 3) (μ (12, 13)))) := by
  have hl : ln 13 = 9 := hL.2.2.2.2.2.2.2.2.2.2.2.2.2.1
  rw [f_X5_gatherPairs, h1, k_fill (by omega) (by omega), Option.bind_some]
  refine Wh_it (z / 3) (fun k => (mrow μ (12, 13) (GF T n k (μ (12, 13))), nI (3 * k))) rfl (fun k hk => k_gath hL hz hn h256 hT hok hk) ?_
  show f_X5_gatherPairs_L15 sh ln j (nI z) (mrow μ (12, 13) (GF T n (z / 3) (μ (12, 13)))) (nI (3 * (z / 3))) = _
  have h3 := (okB_at hok).1
  unfold f_X5_gatherPairs_L15
  rw [show (2 : Int32) = nI 2 from rfl, nI_add, if_pos (by rw [q_le (by omega) (by omega)]; omega)]
  rfl
theorem tbI_0 {base : Nat → Int32} : tbI G n 0 base = base := by
  funext s
  unfold tbI
  rw [if_neg (by omega)]
theorem smN_0' {f : Nat → Nat} (h : ∀ k, f k = 0) (m : Nat) : smN m f = 0 := by
  induction m with
  | zero => rfl
  | succ m ih => show smN m f + f m = 0; rw [ih, h]
theorem tbI_1 {base : Nat → Int32} : upd base (2 ^ n - 1) (1 : Int32) = tbI G n 1 base := by
  have hp := Nat.two_pow_pos n
  have := tbI_s (G := G) (n := n) (i := 0) (s := 2 ^ n - 1) (base := base) (by omega)
  rw [tbI_0] at this
  rw [← this, smN_0' (fun k => by split <;> rfl)]
  rfl
/-- all the ways, the class -/
theorem k_ways (h1 : μ (13, j) 1 = nI n) (hL : LN ln) (hn : n ≤ 7) (hG : ∀ p, p < n → μ (12, 13) p = G p) {v4 : Int32} {y : Int32 × Mm}
    (hy : f_X5_standInRow_L45 sh ln j v4 (mrow μ (12, 11) (tbI G n (2 ^ n) (μ (12, 11)))) (-nI 1) = some (.inr y)) :
    ((f_X1_put sh ln 11 μ (((1 : Int32) <<< ((μ (13, j) 1) &&& 31)) - (1 : Int32)) (1 : Int32)).bind fun x36 => Wh (fun z : Mm × Int32 => f_X5_standInRow_L45 sh ln j v4 z.1 z.2) (x36, ((((1 : Int32) <<< ((μ (13, j) 1) &&& 31)) - (1 : Int32)) - (1 : Int32)))) = some y := by
  have h2 : 2 ^ n ≤ 2 ^ 7 := Nat.pow_le_pow_right (by decide) hn
  have hp := Nat.two_pow_pos n
  have hl : ln 11 = 512 := hL.2.2.2.2.2.2.2.2.2.2.2.1
  have ea : ((1 : Int32) <<< (nI n &&& 31)) - (1 : Int32) = nI (2 ^ n - 1) := by rw [pow_sh (by omega), show (1 : Int32) = nI 1 from rfl, q_sub (by omega)]
  rw [h1, ea, k_put (by omega) (by omega), Option.bind_some, tbI_1 (G := G)]
  have ed : nI (2 ^ n - 1) - (1 : Int32) = dwn n 1 := by
    have := dwn_s (n := n) (k := 0) hp
    rw [Nat.sub_zero] at this
    rw [← this]
    exact Int32.sub_eq_add_neg ..
  rw [ed]
  refine Wh_it (2 ^ n - 1) (fun k => (mrow μ (12, 11) (tbI G n (k + 1) (μ (12, 11))), dwn n (k + 1))) rfl (fun k hk => ?_) ?_
  · show f_X5_standInRow_L45 sh ln j v4 (mrow μ (12, 11) (tbI G n (k + 1) (μ (12, 11)))) (dwn n (k + 1)) = _
    have hw := k_way (sh := sh) (μ := mrow μ (12, 11) (tbI G n (k + 1) (μ (12, 11)))) (j := j) (G := G) (v4 := v4) (i := k + 1) (s := 2 ^ n - 1 - (k + 1)) (base := μ (12, 11)) (by rw [mrow_neA (by omega)]; exact h1) hL hn (fun p hp => by rw [mrow_ne (by simp)]; exact hG p hp) (by omega) (by omega) (mrow_self _ _ _)
    rw [dwn_lt (by omega), f_X5_standInRow_L45, if_neg (show ¬ nI (2 ^ n - 1 - (k + 1)) < (0 : Int32) from nI_nneg (by omega)), hw, mrow_mrow]
    have := dwn_s (n := n) (k := k + 1) (by omega)
    rw [← this]
    rfl
  · show f_X5_standInRow_L45 sh ln j v4 (mrow μ (12, 11) (tbI G n (2 ^ n - 1 + 1) (μ (12, 11)))) (dwn n (2 ^ n - 1 + 1)) = _
    rw [show 2 ^ n - 1 + 1 = 2 ^ n by omega, dwn_end]
    exact hy
end WAYK
