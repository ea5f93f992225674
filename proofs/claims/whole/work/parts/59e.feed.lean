-- feed, end, fault
def fedT (v : Nat → Int32) (z : Nat) (T : Nat → Nat) : Nat → Nat := fun i => if z ≤ i ∧ i < z + 20 then byt (v ((i - z) / 4)) ((i - z) % 4) else T i
theorem fedT_lt {v : Nat → Int32} {z : Nat} {T : Nat → Nat} (h : ∀ i, T i < 256) (i : Nat) : fedT v z T i < 256 := by
  unfold fedT
  split
  · exact byt_lt _ _
  · exact h i
section FEEDQ
variable {μ : Mm} {z : Nat} {T : Nat → Nat}
theorem q_feed0 {a b c d e : Int32} (h12 : μ (0, 0) 12 = nI z) (hz : z ≤ 400) (hf : 380 < z) : f_X11_feed μ a b c d e = some (-nI 1, mrow μ (0, 0) (upd (μ (0, 0)) 0 (nI 0))) := by
  have e12 : mst μ (0, 0) 0 (0 : Int32) (0, 0) 12 = nI z := by rw [mst_row, mrow_self, q_upd, if_neg (by omega)]; exact h12
  rw [f_X11_feed, e12, if_neg (by rw [show (20 : Int32) = nI 20 from rfl, nI_add, show (400 : Int32) = nI 400 from rfl, q_le (by omega) (by omega)]; omega), mst_row]
  rfl
theorem q_feed {v : Nat → Int32} (h12 : μ (0, 0) 12 = nI z) (hz : z ≤ 380) (hT : ∀ i, i < 400 → μ (11, 0) i = sgn (T i)) :
    ∃ m, f_X11_feed μ (v 0) (v 1) (v 2) (v 3) (v 4) = some (nI (z + 20), m) ∧ m (0, 0) 12 = nI (z + 20) ∧ m (0, 0) 0 = nI 0 ∧ (∀ i, i ≠ 0 → i ≠ 12 → m (0, 0) i = μ (0, 0) i) ∧ Fr [0, 11, 18] μ m ∧ ∀ i, i < 400 → m (11, 0) i = sgn (fedT v z T i) := by
  have e12 : mst μ (0, 0) 0 (0 : Int32) (0, 0) 12 = nI z := by rw [mst_row, mrow_self, q_upd, if_neg (by omega)]; exact h12
  obtain ⟨F, hF⟩ : ∃ F, F = upd (upd (upd (upd (upd (μ (18, 0)) 0 (v 0)) 1 (v 1)) 2 (v 2)) 3 (v 3)) 4 (v 4) := ⟨_, rfl⟩
  have hFv : ∀ k, k < 5 → F k = v k := fun k hk => by
    rw [hF]
    have : k = 0 ∨ k = 1 ∨ k = 2 ∨ k = 3 ∨ k = 4 := by omega
    rcases this with rfl | rfl | rfl | rfl | rfl <;> rfl
  obtain ⟨m0, hm0⟩ : ∃ m0, m0 = mrow (mrow μ (0, 0) (upd (μ (0, 0)) 0 (nI 0))) (18, 0) F := ⟨_, rfl⟩
  have em : mst (mst (mst (mst (mst (mst μ (0, 0) 0 (0 : Int32)) (18, 0) (0 : Int32).toNatClampNeg (v 0)) (18, 0) (1 : Int32).toNatClampNeg (v 1)) (18, 0) (2 : Int32).toNatClampNeg (v 2)) (18, 0) (3 : Int32).toNatClampNeg (v 3)) (18, 0) (4 : Int32).toNatClampNeg (v 4) = m0 := by
    rw [hm0, hF]
    simp (disch := omega) only [mst_row, mrow_mrow, mrow_self, mrow_neA]
    rfl
  have c12 : m0 (0, 0) 12 = nI z := by rw [hm0, mrow_neA (by omega), mrow_self, q_upd, if_neg (by omega)]; exact h12
  have c18 : m0 (18, 0) = F := by rw [hm0, mrow_self]
  have c11 : m0 (11, 0) = μ (11, 0) := by rw [hm0, mrow_neA (by omega), mrow_neA (by omega)]
  have hw : Wh (fun z : Mm × Int32 => f_X11_feed_L60 z.1 z.2) (m0, (0 : Int32)) = some (nI (z + 20), mrow (mrow m0 (11, 0) (fun i => if z ≤ i ∧ i < z + 20 then sgn (byt (v ((i - z) / 4)) ((i - z) % 4)) else μ (11, 0) i)) (0, 0) (upd (m0 (0, 0)) 12 (nI (z + 20)))) := by
    refine Wh_it 20 (fun k => (mrow m0 (11, 0) (fun i => if z ≤ i ∧ i < z + k then sgn (byt (v ((i - z) / 4)) ((i - z) % 4)) else μ (11, 0) i), nI k)) ?_ (fun k hk => ?_) ?_
    · have : (fun i => if z ≤ i ∧ i < z + 0 then sgn (byt (v ((i - z) / 4)) ((i - z) % 4)) else μ (11, 0) i) = m0 (11, 0) := by funext i; rw [if_neg (by omega), c11]
      rw [this, mrow_id]; rfl
    · show f_X11_feed_L60 (mrow m0 (11, 0) (fun i => if z ≤ i ∧ i < z + k then sgn (byt (v ((i - z) / 4)) ((i - z) % 4)) else μ (11, 0) i)) (nI k) = some (.inl (mrow m0 (11, 0) (fun i => if z ≤ i ∧ i < z + (k + 1) then sgn (byt (v ((i - z) / 4)) ((i - z) % 4)) else μ (11, 0) i), nI (k + 1)))
      have hk4 : k / 4 < 5 := by omega
      have hm4 : k % 4 < 4 := Nat.mod_lt _ (by omega)
      have q1 : nI k / (4 : Int32) = nI (k / 4) := q_div (d := 4) (by omega) (by omega) (by omega)
      have q2 : (24 : Int32) - (8 : Int32) * (nI k - nI (k / 4) * (4 : Int32)) = nI (24 - 8 * (k % 4)) := by
        rw [show (4 : Int32) = nI 4 from rfl, pk_mul, q_rem, show (8 : Int32) = nI 8 from rfl, pk_mul, show (24 : Int32) = nI 24 from rfl, q_sub (by omega)]
      have q3 : vp_nar .byte ((v (k / 4) >>> (nI (24 - 8 * (k % 4)) &&& 31)).toInt8.toInt32) = sgn (byt (v (k / 4)) (k % 4)) := by rw [byt_q _ hm4, nar_sgn _ (byt_lt _ _)]
      have q4 : mrow m0 (11, 0) (fun i => if z ≤ i ∧ i < z + k then sgn (byt (v ((i - z) / 4)) ((i - z) % 4)) else μ (11, 0) i) (18, 0) (k / 4) = v (k / 4) := by rw [mrow_neA (by omega), c18, hFv _ hk4]
      have q5 : mrow m0 (11, 0) (fun i => if z ≤ i ∧ i < z + k then sgn (byt (v ((i - z) / 4)) ((i - z) % 4)) else μ (11, 0) i) (0, 0) 12 = nI z := by rw [mrow_neA (by omega)]; exact c12
      have q6 := cpy_s2 (f := fun i => sgn (byt (v (i / 4)) (i % 4))) (g := μ (11, 0)) (b := z) (k := k)
      rw [f_X11_feed_L60, if_neg (by rw [show (20 : Int32) = nI 20 from rfl, q_le (by omega) (by omega)]; omega), q1, q_ck (by omega) hk4, q_cl (by omega), q4, q2, q3, q5, nI_add, q_ck (by omega) (by omega), q_cl (by omega), mst_row, mrow_mrow, mrow_self, q6, show (1 : Int32) = nI 1 from rfl, nI_add]
    · show f_X11_feed_L60 (mrow m0 (11, 0) (fun i => if z ≤ i ∧ i < z + 20 then sgn (byt (v ((i - z) / 4)) ((i - z) % 4)) else μ (11, 0) i)) (nI 20) = _
      have q5 : mrow m0 (11, 0) (fun i => if z ≤ i ∧ i < z + 20 then sgn (byt (v ((i - z) / 4)) ((i - z) % 4)) else μ (11, 0) i) (0, 0) 12 = nI z := by rw [mrow_neA (by omega)]; exact c12
      have q7 : mrow m0 (11, 0) (fun i => if z ≤ i ∧ i < z + 20 then sgn (byt (v ((i - z) / 4)) ((i - z) % 4)) else μ (11, 0) i) (0, 0) = m0 (0, 0) := mrow_neA (by omega)
      rw [f_X11_feed_L60, if_pos (show (20 : Int32) ≤ nI 20 from Int32.le_refl _), q5, show (20 : Int32) = nI 20 from rfl, nI_add, mst_row, mrow_self, q_upd, if_pos rfl, q7]
      rfl
  have eck : ∀ (k : Nat) (x : Option (Int32 × Mm)), k < 5 → ck 5 (nI k) x = x := fun k x hk => q_ck (by omega) hk
  obtain ⟨mf, hmf⟩ : ∃ mf, mf = mrow (mrow m0 (11, 0) (fun i => if z ≤ i ∧ i < z + 20 then sgn (byt (v ((i - z) / 4)) ((i - z) % 4)) else μ (11, 0) i)) (0, 0) (upd (m0 (0, 0)) 12 (nI (z + 20))) := ⟨_, rfl⟩
  rw [← hmf] at hw
  refine ⟨mf, ?_, ?_, ?_, ?_, ?_, ?_⟩
  · rw [f_X11_feed, e12, if_pos (by rw [show (20 : Int32) = nI 20 from rfl, nI_add, show (400 : Int32) = nI 400 from rfl, q_le (by omega) (by omega)]; omega), em, hw]
    rw [show (0 : Int32) = nI 0 from rfl, show (1 : Int32) = nI 1 from rfl, show (2 : Int32) = nI 2 from rfl, show (3 : Int32) = nI 3 from rfl, show (4 : Int32) = nI 4 from rfl, eck 0 _ (by omega), eck 1 _ (by omega), eck 2 _ (by omega), eck 3 _ (by omega), eck 4 _ (by omega)]
  · rw [hmf, mrow_self, q_upd, if_pos rfl]
  · rw [hmf, mrow_self, q_upd, if_neg (by omega), hm0, mrow_neA (by omega), mrow_self, q_upd, if_pos rfl]
  · intro i h0 h1
    rw [hmf, mrow_self, q_upd, if_neg h1, hm0, mrow_neA (by omega), mrow_self, q_upd, if_neg h0]
  · rw [hmf, hm0]
    exact (((Fr.rf.mr (by decide)).mr (by decide)).mr (by decide)).mr (by decide)
  · intro i hi
    rw [hmf, mrow_neA (by omega), mrow_self]
    unfold fedT
    by_cases c : z ≤ i ∧ i < z + 20
    · rw [if_pos c, if_pos c]
    · rw [if_neg c, if_neg c]; exact hT i hi
end FEEDQ
section FEEDK
variable {sh : Sh} {ln : Nat → Nat} {μ : Mm} {z : Nat} {T : Nat → Nat}
theorem k_feed0 {a b c d e : Int32} (h1 : μ (2, 0) 1 = nI z) (hz : z ≤ 400) (hf : 380 < z) : f_X10_feed sh ln μ a b c d e = some (-nI 1, μ) := by
  have e0 : f_X7_hasRoomFor sh ln μ (20 : Int32) = some 0 := by
    rw [f_X7_hasRoomFor, h1, if_pos (by rw [show (20 : Int32) = nI 20 from rfl, nI_add, show (400 : Int32) = nI 400 from rfl, q_lt (by omega) (by omega)]; omega)]
  rw [f_X10_feed, e0, Option.bind_some, if_pos rfl]
  rfl
theorem k_feed (hL : LN ln) {v : Nat → Int32} (h1 : μ (2, 0) 1 = nI z) (hz : z ≤ 380) (hT : ∀ i, i < 400 → μ (12, 0) i = nI (T i)) :
    ∃ m, f_X10_feed sh ln μ (v 0) (v 1) (v 2) (v 3) (v 4) = some (nI (z + 20), m) ∧ m (2, 0) 1 = nI (z + 20) ∧ (∀ i, i ≠ 1 → m (2, 0) i = μ (2, 0) i) ∧ (∀ q : Ky, q ≠ (2, 0) → q ≠ (12, 0) → m q = μ q) ∧ ∀ i, i < 400 → m (12, 0) i = nI (fedT v z T i) := by
  have e0 : f_X7_hasRoomFor sh ln μ (20 : Int32) = some 1 := by
    rw [f_X7_hasRoomFor, h1, if_neg (by rw [show (20 : Int32) = nI 20 from rfl, nI_add, show (400 : Int32) = nI 400 from rfl, q_lt (by omega) (by omega)]; omega)]
  obtain ⟨a1, p1, s1, o1, n1, k1⟩ := k_putT (sh := sh) (μ := μ) hL (v := v 0) (z := z) (by omega) h1
  obtain ⟨a2, p2, s2, o2, n2, k2⟩ := k_putT (sh := sh) (μ := a1) hL (v := v 1) (z := z + 4) (by omega) (by rw [s1]; rfl)
  obtain ⟨a3, p3, s3, o3, n3, k3⟩ := k_putT (sh := sh) (μ := a2) hL (v := v 2) (z := z + 4 + 4) (by omega) (by rw [s2]; rfl)
  obtain ⟨a4, p4, s4, o4, n4, k4⟩ := k_putT (sh := sh) (μ := a3) hL (v := v 3) (z := z + 4 + 4 + 4) (by omega) (by rw [s3]; rfl)
  obtain ⟨a5, p5, s5, o5, n5, k5⟩ := k_putT (sh := sh) (μ := a4) hL (v := v 4) (z := z + 4 + 4 + 4 + 4) (by omega) (by rw [s4]; rfl)
  have e5 : a5 (2, 0) 1 = nI (z + 20) := by rw [s5]; rfl
  refine ⟨a5, ?_, e5, ?_, ?_, ?_⟩
  · rw [f_X10_feed, e0, Option.bind_some, if_neg (show ¬ (1 : Int32) = 0 by decide), p1, Option.bind_some, p2, Option.bind_some, p3, Option.bind_some, p4, Option.bind_some, p5, Option.bind_some]
    show (f_X7_size sh ln a5).bind _ = _
    rw [f_X7_size, Option.bind_some, e5]
  · intro i hi
    rw [s5, q_upd, if_neg hi, s4, q_upd, if_neg hi, s3, q_upd, if_neg hi, s2, q_upd, if_neg hi, s1, q_upd, if_neg hi]
  · intro q q1 q2
    rw [o5 q q1 q2, o4 q q1 q2, o3 q q1 q2, o2 q q1 q2, o1 q q1 q2]
  · intro i hi
    unfold fedT
    by_cases c : z ≤ i ∧ i < z + 20
    · rw [if_pos c]
      obtain ⟨x, hx⟩ : ∃ x, x = i - z := ⟨_, rfl⟩
      have hi' : i = z + x := by omega
      have hx20 : x < 20 := by omega
      rw [← hx, hi']
      by_cases c1 : x < 4
      · rw [k5 _ (by omega), k4 _ (by omega), k3 _ (by omega), k2 _ (by omega), n1 x c1, show x / 4 = 0 by omega, show x % 4 = x by omega]
      · by_cases c2 : x < 8
        · rw [k5 _ (by omega), k4 _ (by omega), k3 _ (by omega), show z + x = z + 4 + (x - 4) by omega, n2 (x - 4) (by omega), show x / 4 = 1 by omega, show x % 4 = x - 4 by omega]
        · by_cases c3 : x < 12
          · rw [k5 _ (by omega), k4 _ (by omega), show z + x = z + 4 + 4 + (x - 8) by omega, n3 (x - 8) (by omega), show x / 4 = 2 by omega, show x % 4 = x - 8 by omega]
          · by_cases c4 : x < 16
            · rw [k5 _ (by omega), show z + x = z + 4 + 4 + 4 + (x - 12) by omega, n4 (x - 12) (by omega), show x / 4 = 3 by omega, show x % 4 = x - 12 by omega]
            · rw [show z + x = z + 4 + 4 + 4 + 4 + (x - 16) by omega, n5 (x - 16) (by omega), show x / 4 = 4 by omega, show x % 4 = x - 16 by omega]
    · rw [if_neg c, k5 _ (by omega), k4 _ (by omega), k3 _ (by omega), k2 _ (by omega), k1 _ (by omega)]
      exact hT i hi
/-- whether a text can be ended there -/
def cutB (v : Int32) (z : Nat) : Bool := decide (¬ v < 0 ∧ v ≤ nI z)
theorem k_end (h1 : μ (2, 0) 1 = nI z) (v : Int32) : f_X10_end sh ln μ v = some (bI (cutB v z), if cutB v z = true then mrow μ (2, 0) (upd (μ (2, 0)) 1 v) else μ) := by
  unfold cutB
  by_cases c1 : v < 0
  · rw [decide_eq_false (fun x => x.1 c1), if_neg (by decide), f_X10_end, f_X7_cut, if_pos c1]; rfl
  · by_cases c2 : v ≤ nI z
    · rw [decide_eq_true ⟨c1, c2⟩, if_pos rfl, f_X10_end, f_X7_cut, if_neg c1, h1, if_pos c2, mst_row]; rfl
    · rw [decide_eq_false (fun x => c2 x.2), if_neg (by decide), f_X10_end, f_X7_cut, if_neg c1, h1, if_neg c2]; rfl
theorem q_end (h12 : μ (0, 0) 12 = nI z) (v : Int32) : f_X11_end μ v = some (bI (cutB v z), mrow μ (0, 0) (if cutB v z = true then upd (upd (μ (0, 0)) 0 (nI 0)) 12 v else upd (μ (0, 0)) 0 (nI 0))) := by
  have e12 : mst μ (0, 0) 0 (0 : Int32) (0, 0) 12 = nI z := by rw [mst_row, mrow_self, q_upd, if_neg (by omega)]; exact h12
  unfold cutB
  by_cases c1 : v < 0
  · rw [decide_eq_false (fun x => x.1 c1), if_neg (by decide), f_X11_end, if_pos c1, mst_row]; rfl
  · by_cases c2 : v ≤ nI z
    · rw [decide_eq_true ⟨c1, c2⟩, if_pos rfl, f_X11_end, if_neg c1, e12, if_pos c2, mst_row, mst_row, mrow_mrow, mrow_self]; rfl
    · rw [decide_eq_false (fun x => c2 x.2), if_neg (by decide), f_X11_end, if_neg c1, e12, if_neg c2, mst_row]; rfl
theorem k_fault : f_X10_fault sh ln μ = some (μ (0, 0) 12) := rfl
theorem q_fault : f_X11_fault μ = some (μ (0, 0) 17, mrow μ (0, 0) (upd (μ (0, 0)) 0 (nI 0))) := by
  rw [f_X11_fault, mst_row, mrow_self, q_upd, if_neg (by omega)]
  rfl
end FEEDK
