-- the tape: bytes
def sgn (b : Nat) : Int32 := (Int8.ofBitVec (BitVec.ofNat 8 b)).toInt32
def byt (v : Int32) (k : Nat) : Nat := (v.toBitVec >>> (24 - 8 * k)).toNat &&& 255
theorem byt_lt (v : Int32) (k : Nat) : byt v k < 256 := by
  have : byt v k ≤ 255 := Nat.and_le_right
  omega
theorem and_nI255 (x : Int32) : x &&& (255 : Int32) = nI (x.toBitVec.toNat &&& 255) := by
  apply Int32.toBitVec_inj.1
  rw [Int32.toBitVec_and]
  apply BitVec.eq_of_toNat_eq
  rw [BitVec.toNat_and]
  have h1 : x.toBitVec.toNat &&& 255 ≤ 255 := Nat.and_le_right
  have h2 : (nI (x.toBitVec.toNat &&& 255)).toBitVec = BitVec.ofNat 32 (x.toBitVec.toNat &&& 255) := rfl
  rw [h2, BitVec.toNat_ofNat, Nat.mod_eq_of_lt (by omega)]
  rfl
theorem byt_k (v : Int32) {k : Nat} (hk : k < 4) : (v.toUInt32 >>> ((nI (24 - 8 * k)).toUInt32 &&& Int32.toUInt32 31)).toInt32 &&& (255 : Int32) = nI (byt v k) := by
  rw [and_nI255]
  have : k = 0 ∨ k = 1 ∨ k = 2 ∨ k = 3 := by omega
  rcases this with rfl | rfl | rfl | rfl <;> rfl
theorem byt_q (v : Int32) {k : Nat} (hk : k < 4) : (v >>> (nI (24 - 8 * k) &&& 31)).toInt8.toInt32 = sgn (byt v k) := by
  unfold sgn
  congr 1
  apply Int8.toBitVec_inj.1
  have e : (v >>> (nI (24 - 8 * k) &&& 31)).toInt8.toBitVec = (v.toBitVec.sshiftRight (24 - 8 * k)).signExtend 8 := by
    have : k = 0 ∨ k = 1 ∨ k = 2 ∨ k = 3 := by omega
    rcases this with rfl | rfl | rfl | rfl <;> rfl
  rw [e]
  show _ = BitVec.ofNat 8 (byt v k)
  apply BitVec.eq_of_getLsbD_eq
  intro i hi
  rw [BitVec.getLsbD_signExtend, if_pos (show i < 32 by omega), BitVec.getLsbD_sshiftRight, BitVec.getLsbD_ofNat]
  unfold byt
  rw [Nat.testBit_and, BitVec.testBit_toNat, BitVec.getLsbD_ushiftRight]
  have h255 : Nat.testBit 255 i = true := by
    have : i = 0 ∨ i = 1 ∨ i = 2 ∨ i = 3 ∨ i = 4 ∨ i = 5 ∨ i = 6 ∨ i = 7 := by omega
    rcases this with rfl | rfl | rfl | rfl | rfl | rfl | rfl | rfl <;> rfl
  rw [h255]
  simp [hi, show ¬ 32 ≤ i by omega, show 24 - 8 * k + i < 32 by omega]
theorem nar_sgn : ∀ b, b < 256 → vp_nar .byte (sgn b) = sgn b := by decide +kernel
/-- the tapes of both are one: what lies there, how long it is -/
def TP (μq μk : Mm) (T : Nat → Nat) (z : Nat) : Prop := z ≤ 400 ∧ (∀ i, T i < 256) ∧ μk (2, 0) 1 = nI z ∧ μq (0, 0) 12 = nI z ∧ (∀ i, i < 400 → μk (12, 0) i = nI (T i)) ∧ ∀ i, i < 400 → μq (11, 0) i = sgn (T i)
section TAPE
variable {sh : Sh} {ln : Nat → Nat} {μ : Mm}
theorem k_put1 (hL : LN ln) {v : Int32} {z k : Nat} (hk : k < 4) (hz : z < 400) (h2 : μ (2, 0) 1 = nI z) : f_X7_put_L3 sh ln v μ (nI (24 - 8 * k)) = some (.inl (mrow (mrow μ (12, 0) (upd (μ (12, 0)) z (nI (byt v k)))) (2, 0) (upd (μ (2, 0)) 1 (nI (z + 1))), nI (24 - 8 * k) + (-8 : Int32))) := by
  have hl0 : ln 0 = 400 := hL.1
  have e1 : f_X1_put sh ln 0 μ (nI z) (nI (byt v k)) = some (mrow μ (12, 0) (upd (μ (12, 0)) z (nI (byt v k)))) := k_put (by omega) (by omega)
  rw [f_X7_put_L3, if_neg (show ¬ nI (24 - 8 * k) < (0 : Int32) from nI_nneg (by omega)), h2, if_neg (by rw [show (400 : Int32) = nI 400 from rfl, q_le (by omega) (by omega)]; omega), byt_k v hk, e1, Option.bind_some, mst_row, mrow_neA (by omega), h2, show (1 : Int32) = nI 1 from rfl, nI_add]
theorem k_putT (hL : LN ln) {v : Int32} {z : Nat} (hz : z + 4 ≤ 400) (h2 : μ (2, 0) 1 = nI z) : ∃ a, f_X7_put sh ln μ v = some a ∧ a (2, 0) = upd (μ (2, 0)) 1 (nI (z + 4)) ∧ (∀ q : Ky, q ≠ (2, 0) → q ≠ (12, 0) → a q = μ q) ∧ (∀ k, k < 4 → a (12, 0) (z + k) = nI (byt v k)) ∧ ∀ i, i < z ∨ z + 4 ≤ i → a (12, 0) i = μ (12, 0) i := by
  obtain ⟨a1, h1⟩ : ∃ a1, a1 = mrow (mrow μ (12, 0) (upd (μ (12, 0)) z (nI (byt v 0)))) (2, 0) (upd (μ (2, 0)) 1 (nI (z + 1))) := ⟨_, rfl⟩
  have s1 := k_put1 (sh := sh) hL (v := v) (show 0 < 4 by omega) (show z < 400 by omega) h2
  rw [← h1] at s1
  have e1 : a1 (2, 0) 1 = nI (z + 1) := by rw [h1, mrow_self]; rfl
  obtain ⟨a2, h2'⟩ : ∃ a2, a2 = mrow (mrow a1 (12, 0) (upd (a1 (12, 0)) (z + 1) (nI (byt v 1)))) (2, 0) (upd (a1 (2, 0)) 1 (nI (z + 1 + 1))) := ⟨_, rfl⟩
  have s2 := k_put1 (sh := sh) hL (v := v) (show 1 < 4 by omega) (show z + 1 < 400 by omega) e1
  rw [← h2'] at s2
  have e2 : a2 (2, 0) 1 = nI (z + 1 + 1) := by rw [h2', mrow_self]; rfl
  obtain ⟨a3, h3⟩ : ∃ a3, a3 = mrow (mrow a2 (12, 0) (upd (a2 (12, 0)) (z + 1 + 1) (nI (byt v 2)))) (2, 0) (upd (a2 (2, 0)) 1 (nI (z + 1 + 1 + 1))) := ⟨_, rfl⟩
  have s3 := k_put1 (sh := sh) hL (v := v) (show 2 < 4 by omega) (show z + 1 + 1 < 400 by omega) e2
  rw [← h3] at s3
  have e3 : a3 (2, 0) 1 = nI (z + 1 + 1 + 1) := by rw [h3, mrow_self]; rfl
  obtain ⟨a4, h4⟩ : ∃ a4, a4 = mrow (mrow a3 (12, 0) (upd (a3 (12, 0)) (z + 1 + 1 + 1) (nI (byt v 3)))) (2, 0) (upd (a3 (2, 0)) 1 (nI (z + 1 + 1 + 1 + 1))) := ⟨_, rfl⟩
  have s4 := k_put1 (sh := sh) hL (v := v) (show 3 < 4 by omega) (show z + 1 + 1 + 1 < 400 by omega) e3
  rw [← h4] at s4
  have k12 : a4 (12, 0) = upd (upd (upd (upd (μ (12, 0)) z (nI (byt v 0))) (z + 1) (nI (byt v 1))) (z + 1 + 1) (nI (byt v 2))) (z + 1 + 1 + 1) (nI (byt v 3)) := by
    rw [h4, mrow_neA (by omega), mrow_self, h3, mrow_neA (by omega), mrow_self, h2', mrow_neA (by omega), mrow_self, h1, mrow_neA (by omega), mrow_self]
  refine ⟨a4, ?_, ?_, ?_, ?_, ?_⟩
  · refine Wh_step s1 (Wh_step s2 (Wh_step s3 (Wh_step s4 (Wh_end ?_))))
    show f_X7_put_L3 sh ln v a4 (nI 0 + (-8 : Int32)) = _
    rw [f_X7_put_L3, if_pos (by decide)]
    rfl
  · rw [h4, mrow_self, h3, mrow_self, h2', mrow_self, h1, mrow_self, upd_upd, upd_upd, upd_upd]
  · intro q q1 q2
    rw [h4, mrow_ne q1, mrow_ne q2, h3, mrow_ne q1, mrow_ne q2, h2', mrow_ne q1, mrow_ne q2, h1, mrow_ne q1, mrow_ne q2]
  · intro k hk
    rw [k12, q_upd, q_upd, q_upd, q_upd]
    have : k = 0 ∨ k = 1 ∨ k = 2 ∨ k = 3 := by omega
    rcases this with rfl | rfl | rfl | rfl
    · rw [if_neg (by omega), if_neg (by omega), if_neg (by omega), if_pos (by omega)]
    · rw [if_neg (by omega), if_neg (by omega), if_pos (by omega)]
    · rw [if_neg (by omega), if_pos (by omega)]
    · rw [if_pos (by omega)]
  · intro i hi
    rw [k12, q_upd, q_upd, q_upd, q_upd, if_neg (by omega), if_neg (by omega), if_neg (by omega), if_neg (by omega)]
end TAPE
