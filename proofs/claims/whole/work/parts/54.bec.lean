-- a State becomes another one
section BEC
variable {sh : Sh} {ln : Nat → Nat} {μ : Mm}
theorem k_becRow {c0 c1 v m dd : Nat} (hm : m = if ln c1 < v then ln c1 else v) (h0 : 15 ≤ c0 ∧ c0 < 70) (hd : 15 + 5 * dd ≤ c0 ∧ c0 < 20 + 5 * dd) (h1 : 15 ≤ c1) (hne : c0 ≠ c1) (hB : LB ln) (hv : v ≤ 4608) (hs : m ≤ ln c0 ∨ m ∈ SZ) :
    ∃ ln' a kc ks, f_X1_becomeA sh ln c0 c1 μ (nI v) = some ((0, ln', a), kc, ks) ∧ GR dd ln ln' kc ks ∧ (∀ c, c ≠ c0 → ln' c = ln c) ∧ m ≤ ln' c0 ∧ FrC (fun x => x = c0) μ a ∧ ∀ i, i < m → a (12, c0) i = μ (12, c1) i := by
  have hl0 := hB.le h0.1
  have hl1 := hB.le h1
  have hml : m ≤ ln c1 ∧ m ≤ v := by rw [hm]; split <;> omega
  have hq : (nI (ln c1) < nI v) = (ln c1 < v) := q_lt (by omega) (by omega)
  have e1 : (if nI (ln c1) < nI v then nI (ln c1) else nI v) = nI m := by
    by_cases c : ln c1 < v
    · rw [if_pos (hq.mpr c), hm, if_pos c]
    · rw [if_neg (fun x => c (hq.mp x)), hm, if_neg c]
  have e2 : (if (0 : Int32) < nI m then nI m else (0 : Int32)) = nI m := by
    by_cases h : 0 < m
    · exact if_pos (nI_lt h (by omega))
    · have e : m = 0 := by omega
      rw [e]; rfl
  obtain ⟨ln', a, kc, ks, e3, hG, hlen, hF, hold⟩ := k_growA (sh := sh) (ln := ln) (c := c0) (m := m) (μ := μ) h0 hd hl0 hs
  have hoth : ∀ c, c ≠ c0 → ln' c = ln c := by
    intro c hc
    have := e3
    unfold f_X1_growA ce at this
    by_cases k1 : ln c0 < 2 ^ 31
    · rw [if_pos k1] at this
      by_cases k2 : nI m ≤ nI (ln c0)
      · rw [if_pos k2] at this
        cases this
        rfl
      · rw [if_neg k2] at this
        by_cases k3 : (nI m).toNatClampNeg ≤ 134217728
        · rw [if_pos k3] at this
          cases this
          exact if_neg hc
        · rw [if_neg k3] at this
          cases this
    · rw [if_neg k1] at this
      cases this
  have hl1' : ln' c1 = ln c1 := hoth c1 (fun e => hne e.symm)
  have hB' := hB.gr hG
  have hl0' := hB'.le h0.1
  have e4 : ∀ x : Option RA, True := fun _ => trivial
  have hcpy : va_cpy (a (12, c1)) (a (12, c0)) 0 0 m = (fun i => if i < m then μ (12, c1) i else a (12, c0) i) := by
    funext i
    unfold va_cpy
    rw [hF.ce (c := c1) (fun e => hne e.symm)]
    by_cases h : i < m
    · rw [if_pos ⟨by omega, by omega⟩, if_pos h, Nat.sub_zero, Nat.zero_add]
    · rw [if_neg (by omega), if_neg h]
  refine ⟨ln', mrow a (12, c0) (fun i => if i < m then μ (12, c1) i else a (12, c0) i), kc, ks, ?_, hG, hoth, hlen, hF.mr rfl, fun i hi => by rw [mrow_self, if_pos hi]⟩
  unfold f_X1_becomeA
  rw [e1, e2, e3, Option.bind_some]
  show addc kc ks (cc (ln' c1) (ln' c0) (0 : Int32) (0 : Int32) (nI m) (some ((0, ln', mrow a (12, c0) (va_cpy (a (12, c1)) (a (12, c0)) (0 : Int32).toNatClampNeg (0 : Int32).toNatClampNeg (nI m).toNatClampNeg)), 0, 0))) = _
  rw [show (0 : Int32).toNatClampNeg = 0 from rfl, q_cl (by omega), hcpy]
  unfold cc
  rw [if_pos]
  · rfl
  · rw [q_cl (by omega), show (0 : Int32).toNatClampNeg = 0 from rfl]
    exact ⟨nI_nneg (k := 0) (by omega), nI_nneg (k := 0) (by omega), nI_nneg (by omega), by omega, by omega⟩
end BEC
