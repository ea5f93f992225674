-- acts, one call of both
section ACTS
variable {sh : Sh} {ln : Nat → Nat} {μq μk : Mm} {V n N w0 : Nat} {r : Nat → Int32} {Λo : Option LW} {j d t c z : Nat} {T : Nat → Nat} {md : Nat → Nat}
theorem slot_old {i : Nat} (rt : t < 8) (rc : c ≤ 8) (hi : i < (if c < 8 then c else 7)) : slot (if t + 1 < 8 then t + 1 else 0) (if c < 8 then c + 1 else 8) i = slot t c (if c < 8 then i else i + 1) ∧ (if c < 8 then i else i + 1) < c ∧ slot t c (if c < 8 then i else i + 1) ≠ 2 + t := by
  unfold slot
  by_cases c8 : c < 8
  · rw [if_pos c8] at hi
    by_cases t8 : t + 1 < 8
    · simp only [if_pos c8, if_pos t8]; omega
    · simp only [if_pos c8, if_neg t8]; omega
  · rw [if_neg c8] at hi
    by_cases t8 : t + 1 < 8
    · simp only [if_neg c8, if_pos t8]; omega
    · simp only [if_neg c8, if_neg t8]; omega
theorem slot_new (rt : t < 8) (rc : c ≤ 8) : slot (if t + 1 < 8 then t + 1 else 0) (if c < 8 then c + 1 else 8) (if c < 8 then c else 7) = 2 + t := by
  unfold slot
  by_cases c8 : c < 8
  · by_cases t8 : t + 1 < 8
    · simp only [if_pos c8, if_pos t8]; omega
    · simp only [if_pos c8, if_neg t8]; omega
  · by_cases t8 : t + 1 < 8
    · simp only [if_neg c8, if_pos t8]; omega
    · simp only [if_neg c8, if_neg t8]; omega
theorem act_step (h : RLL sh ln μq μk V n N w0 r Λo j d t c T z) {fR : Mm → Option (Int32 × Mm)} {F : Sh → (Nat → Nat) → Nat → Mm → Option ((Int32 × (Nat → Nat) × Mm) × Nat × Nat)} {ρ : Nat → Int32} {x : Int32}
    (hq : ∀ m, RS m V n N w0 (upd r 7 (nI 1)) → RACT (fR m) m V n N w0 ρ x)
    (hk : ∀ sh ln μ, STR sh ln μ j V n N w0 (upd r 7 (nI 1)) Λo → LN ln → LB ln → ACT (F sh ln j μ) sh ln μ j V n N w0 ρ Λo x)
    (h0 : ∀ i, 5440 ≤ i → ρ i = r i) (h2 : ρ 2 = r 2) (h7 : ρ 7 = nI 1) :
    STP ((f_X11_remembers (mst μq (0, 0) 0 (0 : Int32))).bind fR) (actO sh ln μk F) sh ln md := by
  obtain ⟨sh', ln', b, kc, ks, e1, pay, S1, S2, ⟨L1, L2, L3⟩, sS, s2, s4, keep, b0, bt, bx⟩ := k_rem h
  obtain ⟨⟨g1, g2, g3⟩, ⟨g4, g5, g6⟩, ⟨hL, hB, hU⟩, g7, ⟨r7, rt, r8, rc, rq⟩, g9, g10, g11, g12⟩ := h
  have hj11 := g4.2.2.1
  have hsj := g4.2.2.2.2.2.1
  have hsd := g4.2.2.2.2.2.2
  obtain ⟨a1, f1, A1, FA1, a17, a10, ap1, ap2⟩ := q_remembers (g1.z 0) rc (by rw [mst_row, mrow_self, q_upd, if_neg (by omega)]; exact rq)
  obtain ⟨a, f2, A2, FA2⟩ := hq a1 A1
  obtain ⟨ln2, m, kc2, ks2, e2, G2, S3, F2⟩ := hk sh' ln' b S1 L1 L2
  have b9 : (b (0, 0) 9).toNatClampNeg = j := by rw [b0, if_neg (by omega), if_neg (by omega)]; exact g4.c9
  have hs1 : ∀ s, sh 2 s = 1 → sh' 2 s = 1 := fun s hs => by
    rw [s2]
    by_cases e : s = 2 + t
    · rw [if_pos e]
    · rw [if_neg e]; exact hs
  have sj := hs1 j hsj
  have m0 : m (0, 0) = b (0, 0) := F2.n0 (by omega)
  have ha : a (0, 0) = a1 (0, 0) := FA2 0 (by decide)
  have ha0 : ∀ i, i ≠ 0 → i ≠ 7 → a (0, 0) i = μq (0, 0) i := fun i i0 i7 => by rw [ha, a10 i i7, mst_row, mrow_self, q_upd, if_neg i0]
  have ha2 : a (2, 0) = μq (2, 0) := by rw [FA2 2 (by decide), FA1 2 (by decide), mst_row, mrow_neA (by omega)]
  have ha11 : a (11, 0) = μq (11, 0) := by rw [FA2 11 (by decide), FA1 11 (by decide), mst_row, mrow_neA (by omega)]
  have ha5 : a (5, 0) = a1 (5, 0) := FA2 5 (by decide)
  have hz5 : mst μq (0, 0) 0 (0 : Int32) (5, 0) = μq (5, 0) := by rw [mst_row, mrow_neA (by omega)]
  have keepS : ∀ i V n N w0 r Λ, i ≠ 2 + t → i ≠ j → STR sh ln μk i V n N w0 r Λ → STR sh' ln2 m i V n N w0 r Λ := fun i V n N w0 r Λ i1 i2 hS => ((keep i V n N w0 r Λ i1 i2 hS).o F2 i2).gr L2 G2
  have hgk : actO sh ln μk F = some ((.inl x, sh', ln2, m), kc + (kc2 + 0), ks + (ks2 + 0)) := by
    unfold actO
    rw [e1, Option.bind_some]
    show addc kc ks (ce (sh' 2 ((b (0, 0) 9).toNatClampNeg) = 1) ((F sh' ln' ((b (0, 0) 9).toNatClampNeg) b).bind _)) = _
    rw [b9]
    unfold ce
    rw [if_pos sj, e2]
    rfl
  refine Or.inl ⟨x, a, sh', ln2, m, _, _, by rw [f1, Option.bind_some, f2], hgk, ?_, ⟨V, n, N, w0, ρ, Λo, j, d, if t + 1 < 8 then t + 1 else 0, if c < 8 then c + 1 else 8, T, z, ⟨A2, S3, ?_⟩, ⟨?_, g5, g6⟩, ⟨L1.gr G2, L2.gr G2, L3.gr G2⟩, ?_, ?_, ?_, ?_, ?_, sS.gr G2 sj⟩, ?_⟩
  · rw [ha, a10 0 (by omega), mst_row, mrow_self, q_upd, if_pos rfl]; rfl
  · exact ⟨fun e => by rw [h7] at e; exact absurd e.1 (by decide), by rw [h2]; exact g3.2⟩
  · unfold ND at *
    rw [m0, b0, b0, if_neg (by omega), if_neg (by omega), if_neg (by omega), if_neg (by omega)]
    exact ⟨g4.1, g4.2.1, hj11, g4.2.2.2.1, g4.2.2.2.2.1, sj, hs1 d hsd⟩
  · have m2 : m (2, 0) = μk (2, 0) := by rw [← bt]; exact F2.n0 (by omega)
    have m12 : m (12, 0) = μk (12, 0) := by rw [← bx]; exact F2 _ (by simp) (by simp) (by simp) (by simp)
    unfold TP at *
    rw [m2, m12, ha0 12 (by omega) (by omega), ha11]
    exact g7
  · unfold RNG
    rw [m0, b0, b0, if_neg (by omega), if_pos rfl, if_pos rfl, ha, a17]
    refine ⟨rfl, ?_, rfl, ?_, rfl⟩
    · by_cases t8 : t + 1 < 8
      · rw [if_pos t8]; exact t8
      · rw [if_neg t8]; omega
    · by_cases c8 : c < 8
      · rw [if_pos c8]; omega
      · rw [if_neg c8]; omega
  · intro i hi
    by_cases hc : i < (if c < 8 then c else 7)
    · obtain ⟨o1, o2, o3⟩ := slot_old rt rc hc
      rw [o1]
      obtain ⟨p1, V', n', N', w', p2, p3⟩ := g9 _ o2
      have ep : pasR a ρ i = pasR μq r (if c < 8 then i else i + 1) := by
        funext k
        unfold pasR
        by_cases hk5 : k < 5440
        · rw [if_pos hk5, if_pos hk5, ha5, ap2 i k hc hk5, hz5]
        · rw [if_neg hk5, if_neg hk5]; exact h0 k (by omega)
      rw [ep]
      have sl := slot_lt t c (if c < 8 then i else i + 1)
      exact ⟨hs1 _ p1, V', n', N', w', keepS _ _ _ _ _ _ _ o3 (by omega) p2, p3⟩
    · have hi2 : i = if c < 8 then c else 7 := by
        by_cases c8 : c < 8
        · simp only [if_pos c8] at *; omega
        · simp only [if_neg c8] at *; omega
      have ep : pasR a ρ i = r := by
        funext k
        unfold pasR
        by_cases hk5 : k < 5440
        · rw [if_pos hk5, ha5, hi2]; exact ap1 k hk5
        · rw [if_neg hk5]; exact h0 k (by omega)
      rw [ep, hi2, slot_new rt rc]
      exact ⟨by rw [s2, if_pos rfl], V, n, N, w0, (S2.o F2 (by omega)).gr L2 G2, g3⟩
  · have s10 : sh' 2 10 = sh 2 10 := by rw [s2, if_neg (by omega)]
    unfold IMG
    rw [ha0 6 (by omega) (by omega), s10, ha2]
    rcases g10 with k1 | ⟨k1, k2, V', n', N', w', Λ', k3, k4⟩
    · exact Or.inl k1
    · exact Or.inr ⟨k1, k2, V', n', N', w', Λ', keepS _ _ _ _ _ _ _ (by omega) (by omega) k3, k4⟩
  · rw [m0, b0, if_neg (by omega), if_neg (by omega), ha0 17 (by omega) (by omega)]
    exact g11
  · have p1 := G2.1.1
    have p2 := G2.1.2
    unfold PAY POc POs at *
    rw [s4]
    omega
/-- a throw that the reference tells, nothing done -/
theorem thr_step (h : RLL sh ln μq μk V n N w0 r Λo j d t c T z) {fq : Option (Int32 × Mm)} {gk : Option (((Int32 ⊕ Nat) × Sh × (Nat → Nat) × Mm) × Nat × Nat)} {e : Nat} {x : Int32} (h1 : gk = some ((.inr e, sh, ln, μk), 0, 0)) (h2 : fq = some (x, mst (mst μq (0, 0) 0 (0 : Int32)) (0, 0) 0 (nI (md e)))) (h3 : 1 ≤ md e) (h4 : md e < 4) : STP fq gk sh ln md := by
  refine Or.inr ⟨e, x, _, sh, ln, μk, 0, 0, h1, h2, ?_, h3, h4, ⟨V, n, N, w0, r, Λo, j, d, t, c, T, z, h.q ?_ (fun i hi => ?_) ?_ ?_ ?_ FrX.rf⟩, PAY.rf⟩
  · rw [mst_row, mrow_self, q_upd, if_pos rfl]
  · exact (h.1.1.st0).st0
  · rw [mst_row, mrow_self, q_upd, if_neg hi, mst_row, mrow_self, q_upd, if_neg hi]
  · rw [mst_row, mrow_neA (by omega), mst_row, mrow_neA (by omega)]
  · rw [mst_row, mrow_neA (by omega), mst_row, mrow_neA (by omega)]
  · rw [mst_row, mrow_neA (by omega), mst_row, mrow_neA (by omega)]
end ACTS
