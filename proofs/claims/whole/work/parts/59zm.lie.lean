-- liars
theorem okB_at {T : Nat → Nat} {z n M : Nat} {two : Bool} (h : okB T z n M two = true) : z % 3 = 0 ∧ ∀ i, i < z / 3 → (97 ≤ T (3 * i) ∧ T (3 * i) < 97 + n) ∧ (97 ≤ T (3 * i + 1) ∧ T (3 * i + 1) < 97 + n) ∧ T (3 * i + 2) < M ∧ (two = true ∨ T (3 * i) ≠ T (3 * i + 1)) := by
  unfold okB at h
  rw [Bool.and_eq_true] at h
  refine ⟨of_decide_eq_true h.1, fun i hi => ?_⟩
  have hT : TH T n M two i = true := by
    cases hh : TH T n M two i
    · have : anyN (z / 3) (fun i => !TH T n M two i) = true := anyN_iff.mpr ⟨i, hi, by rw [hh]; rfl⟩
      rw [this] at h
      exact absurd h.2 (by decide)
    · rfl
  unfold TH at hT
  rw [Bool.and_eq_true, Bool.and_eq_true, Bool.and_eq_true, Bool.or_eq_true] at hT
  obtain ⟨a, b, c, d⟩ := hT
  unfold inb at a b
  refine ⟨of_decide_eq_true a, of_decide_eq_true b, of_decide_eq_true c, ?_⟩
  rcases d with d | d
  · exact Or.inl d
  · refine Or.inr (fun e => ?_)
    rw [decide_eq_true e] at d
    exact absurd d (by decide)
def liN (T : Nat → Nat) (V n w : Nat) (m : Nat) : Nat := orN m (fun i => if fig V n (T (3 * i + 1) - 97) w = T (3 * i + 2) then 0 else 2 ^ (T (3 * i) - 97))
theorem liN_lt {T : Nat → Nat} {z n M V w : Nat} {two : Bool} (h : okB T z n M two = true) (hn : n ≤ 9) {m : Nat} (hm : m ≤ z / 3) : liN T V n w m < 512 := by
  refine orN_lt (b := 9) (fun k hk => ?_)
  have := (okB_at h).2 k (by omega)
  show (if fig V n (T (3 * k + 1) - 97) w = T (3 * k + 2) then 0 else 2 ^ (T (3 * k) - 97)) < 2 ^ 9
  split
  · omega
  · exact Nat.pow_lt_pow_right (by decide) (by omega)
/-- how many worlds hold with q liars at most, who may be one -/
def wlo (f : Nat → Bool) (L : Nat → Nat) (q : Nat) : Nat → Nat × Nat
  | 0 => (0, 0)
  | k + 1 => if f k = true ∧ bc (L k) ≤ q then ((wlo f L q k).1 + 1, (wlo f L q k).2 ||| L k) else wlo f L q k
theorem pow_sh {p : Nat} (hp : p < 31) : (1 : Int32) <<< (nI p &&& (31 : Int32)) = nI (2 ^ p) := q_shl1' p hp
section LIQ
variable {sh : Sh} {ln : Nat → Nat} {μ : Mm} {j V n N w0 z : Nat} {r : Nat → Int32} {T : Nat → Nat}
theorem q_liarsIn (h : RS μ V n N w0 r) (hz : z ≤ 400) (h256 : ∀ i, T i < 256) (h14 : μ (0, 0) 14 = nI z) (hT : ∀ i, i < 400 → μ (11, 0) i = sgn (T i)) (hok : okB T z n V true = true) {w : Nat} (hw : w < N) :
    f_X11_liarsIn μ (nI w) = some (nI (liN T V n w (z / 3))) := by
  obtain ⟨h3, ht⟩ := okB_at hok
  have hn : n ≤ 9 := h.2.b.2.2.2.2.1
  have hV : V ≤ 4 := h.2.b.2.1
  unfold f_X11_liarsIn
  refine Wh_it (z / 3) (fun k => (nI (liN T V n w k), nI (3 * k))) rfl (fun k hk => ?_) ?_
  · show f_X11_liarsIn_L4 (nI w) μ (nI (liN T V n w k)) (nI (3 * k)) = _
    have e1 : nI (3 * k) + (1 : Int32) = nI (3 * k + 1) := by rw [show (1 : Int32) = nI 1 from rfl, nI_add]
    have e2 : nI (3 * k) + (2 : Int32) = nI (3 * k + 2) := by rw [show (2 : Int32) = nI 2 from rfl, nI_add]
    have e3 : nI (3 * k) + (3 : Int32) = nI (3 * (k + 1)) := by rw [show (3 : Int32) = nI 3 from rfl, nI_add, show 3 * k + 3 = 3 * (k + 1) by omega]
    have hlt : ¬ nI z ≤ nI (3 * k) := by rw [q_le (by omega) (by omega)]; omega
    obtain ⟨t0, t1, t2, -⟩ := ht k hk
    have hf := fig_lt h.2.b.1 n (T (3 * k + 1) - 97) w
    have ee : (nI (fig V n (T (3 * k + 1) - 97) w) = nI (T (3 * k + 2))) = (fig V n (T (3 * k + 1) - 97) w = T (3 * k + 2)) := q_eq (by omega) (by omega)
    have es : liN T V n w (k + 1) = liN T V n w k ||| (if fig V n (T (3 * k + 1) - 97) w = T (3 * k + 2) then 0 else 2 ^ (T (3 * k) - 97)) := rfl
    unfold f_X11_liarsIn_L4
    rw [h14, e1, e2, e3, if_neg hlt, q_ck (by omega) (by omega), q_cl (by omega), hT _ (by omega), (sgn_th _ (h256 _)).1 (by omega), per_n t1.1, q_noticeIn h (by omega) hw, Option.bind_some, q_ck (by omega) (by omega), q_cl (by omega), hT _ (by omega), (sgn_th _ (h256 _)).1 (by omega), es]
    by_cases c : fig V n (T (3 * k + 1) - 97) w = T (3 * k + 2)
    · rw [if_pos (ee.mpr c), if_pos c, show (0 : Int32) = nI 0 from rfl, q_or]
    · rw [if_neg (fun x => c (ee.mp x)), if_neg c, q_ck (by omega) (by omega), q_cl (by omega), hT _ (by omega), (sgn_th _ (h256 _)).1 (by omega), per_n t0.1, pow_sh (by omega), q_or]
  · show f_X11_liarsIn_L4 (nI w) μ (nI (liN T V n w (z / 3))) (nI (3 * (z / 3))) = _
    unfold f_X11_liarsIn_L4
    rw [h14, if_pos (by rw [q_le (by omega) (by omega)]; omega)]
    rfl
theorem k_liarsIn (h : CS ln μ j V n N w0 r) (hL : LN ln) (hz : z ≤ 400) (h256 : ∀ i, T i < 256) (hT : ∀ i, i < 400 → μ (12, 0) i = nI (T i)) (hok : okB T z n V true = true) {w : Nat} (hw : w < N) :
    f_X5_liarsIn sh ln j μ (nI z) (nI w) = some (nI (liN T V n w (z / 3))) := by
  obtain ⟨h3, ht⟩ := okB_at hok
  have hn : n ≤ 9 := h.1.b.2.2.2.2.1
  have hV : V ≤ 4 := h.1.b.2.1
  unfold f_X5_liarsIn
  refine Wh_it (z / 3) (fun k => (nI (liN T V n w k), nI (3 * k))) rfl (fun k hk => ?_) ?_
  · show f_X5_liarsIn_L6 sh ln j (nI z) (nI w) μ (nI (liN T V n w k)) (nI (3 * k)) = _
    have e1 : nI (3 * k) + (1 : Int32) = nI (3 * k + 1) := by rw [show (1 : Int32) = nI 1 from rfl, nI_add]
    have e2 : nI (3 * k) + (2 : Int32) = nI (3 * k + 2) := by rw [show (2 : Int32) = nI 2 from rfl, nI_add]
    have e3 : nI (3 * k) + (3 : Int32) = nI (3 * (k + 1)) := by rw [show (3 : Int32) = nI 3 from rfl, nI_add, show 3 * k + 3 = 3 * (k + 1) by omega]
    have hlt : ¬ nI z ≤ nI (3 * k + 2) := by rw [q_le (by omega) (by omega)]; omega
    obtain ⟨t0, t1, t2, -⟩ := ht k hk
    have hf := fig_lt h.1.b.1 n (T (3 * k + 1) - 97) w
    have ee : (nI (fig V n (T (3 * k + 1) - 97) w) = nI (T (3 * k + 2))) = (fig V n (T (3 * k + 1) - 97) w = T (3 * k + 2)) := q_eq (by omega) (by omega)
    have es : liN T V n w (k + 1) = liN T V n w k ||| (if fig V n (T (3 * k + 1) - 97) w = T (3 * k + 2) then 0 else 2 ^ (T (3 * k) - 97)) := rfl
    unfold f_X5_liarsIn_L6
    rw [e1, e2, e3, if_neg hlt, k_personAt hL hT (by omega), Option.bind_some, per_n t1.1, k_figure h (by omega) hw, Option.bind_some, k_tape hL hT (by omega), Option.bind_some, es]
    by_cases c : fig V n (T (3 * k + 1) - 97) w = T (3 * k + 2)
    · rw [if_pos (ee.mpr c), if_pos c, Nat.or_zero]
    · rw [if_neg (fun x => c (ee.mp x)), if_neg c, k_personAt hL hT (by omega), Option.bind_some, per_n t0.1, pow_sh (by omega), q_or]
  · show f_X5_liarsIn_L6 sh ln j (nI z) (nI w) μ (nI (liN T V n w (z / 3))) (nI (3 * (z / 3))) = _
    unfold f_X5_liarsIn_L6
    rw [show (2 : Int32) = nI 2 from rfl, nI_add, if_pos (by rw [q_le (by omega) (by omega)]; omega)]
    rfl
theorem q_whoL (h : RS μ V n N w0 r) (hz : z ≤ 400) (h256 : ∀ i, T i < 256) (h14 : μ (0, 0) 14 = nI z) (hT : ∀ i, i < 400 → μ (11, 0) i = sgn (T i)) (hok : okB T z n V true = true) {q : Nat} (hq : q < 10) (who : Bool) :
    Wh (fun s : Int32 × Int32 × Int32 => f_X11_liars_L50 (nI q) (bI who) μ s.1 s.2.1 s.2.2) ((0 : Int32), (0 : Int32), (0 : Int32)) = some (nI (if who = true then (wlo (lf r) (fun w => liN T V n w (z / 3)) q N).2 else (wlo (lf r) (fun w => liN T V n w (z / 3)) q N).1), μ) := by
  have hb := h.2.b
  refine Wh_it N (fun k => (nI (wlo (lf r) (fun w => liN T V n w (z / 3)) q k).1, nI (wlo (lf r) (fun w => liN T V n w (z / 3)) q k).2, nI k)) rfl (fun k hk => ?_) ?_
  · show f_X11_liars_L50 (nI q) (bI who) μ (nI (wlo (lf r) (fun w => liN T V n w (z / 3)) q k).1) (nI (wlo (lf r) (fun w => liN T V n w (z / 3)) q k).2) (nI k) = _
    have e1 : nI k + (1 : Int32) = nI (k + 1) := by rw [show (1 : Int32) = nI 1 from rfl, nI_add]
    have es : wlo (lf r) (fun w => liN T V n w (z / 3)) q (k + 1) = if lf r k = true ∧ bc (liN T V n k (z / 3)) ≤ q then ((wlo (lf r) (fun w => liN T V n w (z / 3)) q k).1 + 1, (wlo (lf r) (fun w => liN T V n w (z / 3)) q k).2 ||| liN T V n k (z / 3)) else wlo (lf r) (fun w => liN T V n w (z / 3)) q k := rfl
    have hlt : ¬ nI N ≤ nI k := by rw [q_le (by omega) (by omega)]; omega
    have hbc := bc_le (liN T V n k (z / 3))
    unfold f_X11_liars_L50
    rw [q_worlds h, Option.bind_some, if_neg hlt, q_isLeft h hk, Option.bind_some, e1]
    cases hl : lf r k
    · rw [if_pos (show bI false = 0 from rfl)]
      rw [es, hl, if_neg (fun x => absurd x.1 (by decide))]
    · rw [if_neg (show ¬ bI true = 0 by decide), q_liarsIn h hz h256 h14 hT hok hk, Option.bind_some, k_bc (liN_lt hok hb.2.2.2.2.1 (Nat.le_refl _)), Option.bind_some]
      have el : (nI (bc (liN T V n k (z / 3))) ≤ nI q) = (bc (liN T V n k (z / 3)) ≤ q) := q_le (by omega) (by omega)
      rw [es, hl]
      by_cases c : bc (liN T V n k (z / 3)) ≤ q
      · rw [if_pos (el.mpr c), Option.bind_some, if_pos ⟨rfl, c⟩, q_or, show (1 : Int32) = nI 1 from rfl, nI_add]
      · rw [if_neg (fun x => c (el.mp x)), if_neg (fun x => c x.2)]
  · show f_X11_liars_L50 (nI q) (bI who) μ (nI (wlo (lf r) (fun w => liN T V n w (z / 3)) q N).1) (nI (wlo (lf r) (fun w => liN T V n w (z / 3)) q N).2) (nI N) = _
    unfold f_X11_liars_L50
    rw [q_worlds h, Option.bind_some, if_pos (show nI N ≤ nI N from Int32.le_refl _)]
    cases who <;> rfl
theorem k_whoLied (h : CS ln μ j V n N w0 r) (hL : LN ln) (hz : z ≤ 400) (h256 : ∀ i, T i < 256) (hT : ∀ i, i < 400 → μ (12, 0) i = nI (T i)) (hok : okB T z n V true = true) {q : Nat} (hq : q < 10) (who : Bool) :
    f_X5_whoLied sh ln j μ (nI z) (nI q) (bI who) = some (nI (if who = true then (wlo (lf r) (fun w => liN T V n w (z / 3)) q N).2 else (wlo (lf r) (fun w => liN T V n w (z / 3)) q N).1)) := by
  have hb := h.1.b
  unfold f_X5_whoLied
  refine Wh_it N (fun k => (nI (wlo (lf r) (fun w => liN T V n w (z / 3)) q k).1, nI (wlo (lf r) (fun w => liN T V n w (z / 3)) q k).2, nI k)) rfl (fun k hk => ?_) ?_
  · show f_X5_whoLied_L9 sh ln j (nI z) (nI q) (bI who) μ (nI (wlo (lf r) (fun w => liN T V n w (z / 3)) q k).1) (nI (wlo (lf r) (fun w => liN T V n w (z / 3)) q k).2) (nI k) = _
    have e1 : nI k + (1 : Int32) = nI (k + 1) := by rw [show (1 : Int32) = nI 1 from rfl, nI_add]
    have es : wlo (lf r) (fun w => liN T V n w (z / 3)) q (k + 1) = if lf r k = true ∧ bc (liN T V n k (z / 3)) ≤ q then ((wlo (lf r) (fun w => liN T V n w (z / 3)) q k).1 + 1, (wlo (lf r) (fun w => liN T V n w (z / 3)) q k).2 ||| liN T V n k (z / 3)) else wlo (lf r) (fun w => liN T V n w (z / 3)) q k := rfl
    have hlt : ¬ nI N ≤ nI k := by rw [q_le (by omega) (by omega)]; omega
    have hbc := bc_le (liN T V n k (z / 3))
    unfold f_X5_whoLied_L9
    rw [h.c2, if_neg hlt, k_stands h hk, Option.bind_some]
    cases hl : lf r k
    · rw [if_pos (show bI false = 0 from rfl)]
      unfold f_X5_whoLied_J40
      rw [k_stands h hk, Option.bind_some, hl, if_pos (show bI false = 0 from rfl), e1]
      rw [es, hl, if_neg (fun x => absurd x.1 (by decide))]
    · rw [if_neg (show ¬ bI true = 0 by decide), k_liarsIn h hL hz h256 hT hok hk, Option.bind_some]
      unfold f_X5_whoLied_J40
      rw [k_stands h hk, Option.bind_some, hl, if_neg (show ¬ bI true = 0 by decide), k_bc (liN_lt hok hb.2.2.2.2.1 (Nat.le_refl _)), Option.bind_some]
      have el : (nI q < nI (bc (liN T V n k (z / 3)))) = (q < bc (liN T V n k (z / 3))) := q_lt (by omega) (by omega)
      rw [es, hl, e1]
      by_cases c : bc (liN T V n k (z / 3)) ≤ q
      · rw [if_neg (fun x => by have := el.mp x; omega), if_pos ⟨rfl, c⟩, q_or, show (1 : Int32) = nI 1 from rfl, nI_add]
      · rw [if_pos (el.mpr (by omega)), if_neg (fun x => c x.2)]
  · show f_X5_whoLied_L9 sh ln j (nI z) (nI q) (bI who) μ (nI (wlo (lf r) (fun w => liN T V n w (z / 3)) q N).1) (nI (wlo (lf r) (fun w => liN T V n w (z / 3)) q N).2) (nI N) = _
    unfold f_X5_whoLied_L9
    rw [h.c2, if_pos (show nI N ≤ nI N from Int32.le_refl _)]
    cases who <;> rfl
end LIQ
section LIS
variable {sh : Sh} {ln : Nat → Nat} {μq μk a : Mm} {V n N w0 : Nat} {r : Nat → Int32} {Λo : Option LW} {j d t c z : Nat} {T : Nat → Nat} {md : Nat → Nat}
/-- the tape is used -/
theorem RLL.us (h : RLL sh ln μq μk V n N w0 r Λo j d t c T z) (hq : ∀ q : Ky, q ≠ (0, 0) → a q = μq q) (h6 : a (0, 0) 6 = μq (0, 0) 6) (h7 : a (0, 0) 7 = μq (0, 0) 7) (h17 : a (0, 0) 17 = μq (0, 0) 17) (h12 : a (0, 0) 12 = nI 0) : RLL sh ln a (mst μk (2, 0) 1 (0 : Int32)) V n N w0 r Λo j d t c T 0 := by
  obtain ⟨⟨g1, g2, g3⟩, ⟨g4, g5⟩, g6, ⟨t1, t2, t3, t4, t5, t6⟩, g8, g9, g10, g11, g12⟩ := h
  have hk : ∀ q : Ky, q ≠ (2, 0) → mst μk (2, 0) 1 (0 : Int32) q = μk q := fun q h2 => by rw [mst_row]; exact mrow_ne h2
  have k0 := hk (0, 0) (by simp)
  have ep : ∀ i, pasR a r i = pasR μq r i := fun i => by unfold pasR; rw [hq (5, 0) (by simp)]
  have keepS : ∀ i V n N w0 r Λ, STR sh ln μk i V n N w0 r Λ → STR sh ln (mst μk (2, 0) 1 (0 : Int32)) i V n N w0 r Λ := fun i V n N w0 r Λ hS => hS.al (hk _ (by simp)) (fun k _ => hk _ (by simp)) (fun q hq => hk q (fun y => by rw [y] at hq; simp at hq))
  refine ⟨⟨g1.fr' (hq _ (by simp)), keepS _ _ _ _ _ _ _ g2, g3⟩, ⟨by unfold ND at *; rw [k0]; exact g4, g5⟩, g6, ⟨by omega, t2, by rw [mst_row, mrow_self, q_upd, if_pos rfl]; rfl, h12, by rw [hk _ (by simp)]; exact t5, by rw [hq _ (by simp)]; exact t6⟩, ?_, fun i hi => ?_, ?_, by rw [k0, h17]; exact g11, g12⟩
  · unfold RNG at *
    rw [k0, h7]
    exact g8
  · obtain ⟨e1, V', n', N', w', e2, e3⟩ := g9 i hi
    rw [ep]
    exact ⟨e1, V', n', N', w', keepS _ _ _ _ _ _ _ e2, e3⟩
  · unfold IMG
    rw [h6, hq (2, 0) (by simp)]
    rcases g10 with k1 | ⟨k1, k2, V2, n2, N2, w2, Λ', k3, k4⟩
    · exact Or.inl k1
    · exact Or.inr ⟨k1, k2, V2, n2, N2, w2, Λ', keepS _ _ _ _ _ _ _ k3, k4⟩
theorem usd_i {μ : Mm} {z i : Nat} (h0 : i ≠ 0) (h12 : i ≠ 12) (h13 : i ≠ 13) (h14 : i ≠ 14) : usd μ z (0, 0) i = μ (0, 0) i := by
  unfold usd
  rw [mrow_self, q_upd, if_neg h13, q_upd, if_neg h12, q_upd, if_neg h14, q_upd, if_neg h0]
theorem RLL.us2 (h : RLL sh ln μq μk V n N w0 r Λo j d t c T z) : RLL sh ln (usd μq z) (mst μk (2, 0) 1 (0 : Int32)) V n N w0 r Λo j d t c T 0 :=
  h.us (fun q hq => mrow_ne hq) (usd_i (by omega) (by omega) (by omega) (by omega)) (usd_i (by omega) (by omega) (by omega) (by omega)) (usd_i (by omega) (by omega) (by omega) (by omega)) (by show usd μq z (0, 0) 12 = nI 0; unfold usd; rw [mrow_self, q_upd, if_neg (by omega), q_upd, if_pos rfl])
/-- the tape was used, then a throw -/
theorem ust_step (h : RLL sh ln μq μk V n N w0 r Λo j d t c T z) {fq : Option (Int32 × Mm)} {gk : Option ((Int32 ⊕ Nat) × Mm)} (h1 : gk = some (.inr 3, mst μk (2, 0) 1 (0 : Int32))) (h2 : fq = some (0, mst (usd μq z) (0, 0) 0 (1 : Int32))) : STP fq (lf0 sh ln gk) sh ln mdA := by
  have hu : ∀ i, i ≠ 0 → mst (usd μq z) (0, 0) 0 (1 : Int32) (0, 0) i = usd μq z (0, 0) i := fun i hi => by rw [mst_row, mrow_self, q_upd, if_neg hi]
  refine Or.inr ⟨3, 0, _, sh, ln, _, 0, 0, by rw [h1]; rfl, h2, ?_, by decide, by decide, ⟨V, n, N, w0, r, Λo, j, d, t, c, T, 0, h.us (fun q hq => ?_) ?_ ?_ ?_ ?_⟩, PAY.rf⟩
  · rw [mst_row, mrow_self, q_upd, if_pos rfl]; rfl
  · rw [mst_row, mrow_ne hq]; exact mrow_ne hq
  · rw [hu _ (by omega), usd_i (by omega) (by omega) (by omega) (by omega)]
  · rw [hu _ (by omega), usd_i (by omega) (by omega) (by omega) (by omega)]
  · rw [hu _ (by omega), usd_i (by omega) (by omega) (by omega) (by omega)]
  · rw [hu _ (by omega)]
    unfold usd
    rw [mrow_self, q_upd, if_neg (by omega), q_upd, if_pos rfl]
theorem s_liars (h : RLL sh ln μq μk V n N w0 r Λo j d t c T z) (v : Int32) (who : Bool) : STP (f_X11_liars μq v (bI who)) (lf0 sh ln (g_X10_liars sh ln μk v (bI who))) sh ln mdA := by
  have nw := h.nw
  have hL := h.2.2.1.1
  obtain ⟨t1, t2, t3, t4, t5, t6⟩ := h.2.2.2.1
  have hV : V ≤ 4 := h.1.1.2.b.2.1
  have hu := h.us2
  obtain ⟨m0, hm0⟩ : ∃ m0, m0 = mst μk (2, 0) 1 (0 : Int32) := ⟨_, rfl⟩
  have hum := hu
  rw [← hm0] at hum
  have nw0 := hum.nw
  have S0 := hum.1.2.1
  have k5 := hum.2.2.2.1.2.2.2.2.1
  have q14 : usd μq z (0, 0) 14 = nI z := by unfold usd; rw [mrow_self]; rfl
  have q11 : ∀ i, i < 400 → usd μq z (11, 0) i = sgn (T i) := hu.2.2.2.1.2.2.2.2.2
  have hR := q_readThrees h.1.1 t4 t1 t2 t6 hV true
  have hK := k_tellsSayings (sh := sh) S0.1 hL t1 t2 k5
  rw [f_X11_liars, q_values h.1.1, Option.bind_some, show (1 : Int32) = bI true from rfl]
  have hR' : f_X11_readThrees μq (nI V - bI true) (bI true) = some (bI (okB T z n V true), usd μq z) := hR
  rw [hR', Option.bind_some]
  have hG : g_X10_liars sh ln μk v (bI who) = (if bI (okB T z n V true) = 0 then some (.inr 3, m0) else (if v < 0 then some (.inr 3, m0) else (if v ≤ (9 : Int32) then ((f_X5_whoLied sh ln j m0 (nI z) v (bI who)).bind fun x63 => some (.inl x63, m0)) else (some (.inr 3, m0))))) := by
    rw [g_X10_liars, f_X7_use, Option.bind_some, t3]
    show ce (sh 2 (((mst μk (2, 0) 1 (0 : Int32)) (0, 0) 9).toNatClampNeg) = 1) _ = _
    rw [← hm0, nw0.run, nw0.c, hK, Option.bind_some, nw0.run']
  cases hb : okB T z n V true
  · rw [hb, if_pos (show bI false = 0 from rfl)] at hG
    refine ust_step h (by rw [hG, hm0]) ?_
    refine Eq.trans (if_pos (show bI false = 0 from rfl)) ?_
    rw [show bI true = (1 : Int32) from rfl, f_X11_liars_J32]
    exact q_t1
  · rw [hb, if_neg (show ¬ bI true = 0 by decide)] at hG
    rcases need_num v 0 9 with ⟨e1, e2, e3, e4⟩ | ⟨e1, e2⟩
    · obtain ⟨q, hq, rfl⟩ := nI_of e3
      have hq2 : q < 10 := by
        have e : (nI q ≤ nI 9) = (q ≤ 9) := q_le hq (by omega)
        have := e.mp e4
        omega
      have w1 := q_whoL hu.1.1 t1 t2 q14 q11 hb hq2 who
      have w2 := k_whoLied (sh := sh) S0.1 hL t1 t2 k5 hb hq2 who
      rw [if_neg e3, if_pos e4, w2, Option.bind_some] at hG
      refine Or.inl ⟨_, usd μq z, sh, ln, m0, 0, 0, ?_, by rw [hG]; rfl, ?_, ⟨V, n, N, w0, r, Λo, j, d, t, c, T, 0, hum⟩, PAY.rf⟩
      · refine Eq.trans (if_neg (show ¬ bI true = 0 by decide)) ?_
        refine (q_b1 e1 (fun z => rfl)).trans ?_
        rw [f_X11_liars_J32]
        exact q_t0.trans w1
      · unfold usd
        rw [mrow_self, q_upd, if_neg (by omega), q_upd, if_neg (by omega), q_upd, if_neg (by omega), q_upd, if_pos rfl]
    · refine ust_step h ?_ ?_
      · rw [hG, ← hm0]
        by_cases c1 : v < 0
        · rw [if_pos c1]
        · rw [if_neg c1]
          by_cases c2 : v ≤ (9 : Int32)
          · unfold g_X10_needNumber at e2
            rw [if_neg c1, if_pos c2] at e2
            cases e2
          · rw [if_neg c2]
      · refine Eq.trans (if_neg (show ¬ bI true = 0 by decide)) ?_
        refine (q_b0 e1 (fun z => rfl)).trans ?_
        rw [show bI true = (1 : Int32) from rfl, f_X11_liars_J32]
        exact q_t1
end LIS
