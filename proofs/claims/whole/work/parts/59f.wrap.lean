-- what must be so before a call: the class needs it, the reference tells what is thrown
def inn (v : Int32) (m : Nat) : Prop := ∃ p, p < m ∧ v = nI p
theorem not_inn {v : Int32} {m : Nat} (hm : m < 2147483648) (h : ¬ inn v m) : v < 0 ∨ (¬ v < 0 ∧ ∃ k, m ≤ k ∧ k < 2147483648 ∧ v = nI k) := by
  by_cases c : v < 0
  · exact Or.inl c
  · obtain ⟨k, hk, e⟩ := nI_of c
    refine Or.inr ⟨c, k, ?_, hk, e⟩
    by_cases c2 : m ≤ k
    · exact c2
    · exact absurd ⟨k, by omega, e⟩ h
section WRAPK
variable {sh : Sh} {ln : Nat → Nat} {μ : Mm} {j V n N w0 : Nat} {r : Nat → Int32}
theorem NW.run {X : Type} (hj : NW sh μ j) (x : Option X) : ce (sh 2 ((μ (0, 0) 9).toNatClampNeg) = 1) x = x := by
  unfold ce
  rw [hj.c, if_pos hj.2.2]
theorem k_out {f : Int32 → Option Int32} {M : Int32} {m : Nat} (hM : M = nI m) (hm : m < 2147483648) (hf : ∀ v, f v = if v < 0 then some (0 : Int32) else (if M ≤ v then some (0 : Int32) else (some (1 : Int32)))) (v : Int32) :
    (inn v m → f v = some (nI 1)) ∧ (¬ inn v m → f v = some (nI 0)) := by
  refine ⟨fun ⟨p, hp, e⟩ => ?_, fun h => ?_⟩
  · rw [hf, e, hM, if_neg (show ¬ nI p < (0 : Int32) from nI_nneg (by omega)), if_neg (by rw [q_le hm (by omega)]; omega)]; rfl
  · rw [hf]
    rcases not_inn hm h with c | ⟨c, k, hk, hk2, e⟩
    · rw [if_pos c]; rfl
    · rw [if_neg c, if_pos (by rw [hM, e, q_le hm hk2]; exact hk)]; rfl
theorem k_hasP (h : CS ln μ j V n N w0 r) (v : Int32) : (inn v n → f_X6_hasPerson sh ln j μ v = some (nI 1)) ∧ (¬ inn v n → f_X6_hasPerson sh ln j μ v = some (nI 0)) := by
  have hb := h.1.b
  exact k_out (f := f_X6_hasPerson sh ln j μ) h.c1 (by omega) (fun _ => rfl) v
theorem k_hasW (h : CS ln μ j V n N w0 r) (v : Int32) : (inn v N → f_X6_hasWorld sh ln j μ v = some (nI 1)) ∧ (¬ inn v N → f_X6_hasWorld sh ln j μ v = some (nI 0)) := by
  have hb := h.1.b
  exact k_out (f := f_X6_hasWorld sh ln j μ) h.c2 (by omega) (fun _ => rfl) v
theorem k_hasN (h : CS ln μ j V n N w0 r) (v : Int32) : (inn v V → f_X6_hasNotice sh ln j μ v = some (nI 1)) ∧ (¬ inn v V → f_X6_hasNotice sh ln j μ v = some (nI 0)) := by
  have hb := h.1.b
  exact k_out (f := f_X6_hasNotice sh ln j μ) h.c0 (by omega) (fun _ => rfl) v
theorem k_needPerson (h : CS ln μ j V n N w0 r) (hj : NW sh μ j) (v : Int32) : (inn v n → f_X10_needPerson sh ln μ v = some ()) ∧ (¬ inn v n → f_X10_needPerson sh ln μ v = none) := by
  refine ⟨fun c => ?_, fun c => ?_⟩
  · rw [f_X10_needPerson, hj.run, hj.c, (k_hasP h v).1 c]; rfl
  · rw [f_X10_needPerson, hj.run, hj.c, (k_hasP h v).2 c]; rfl
theorem k_needWorld (h : CS ln μ j V n N w0 r) (hj : NW sh μ j) (v : Int32) : (inn v N → f_X10_needWorld sh ln μ v = some ()) ∧ (¬ inn v N → f_X10_needWorld sh ln μ v = none) := by
  refine ⟨fun c => ?_, fun c => ?_⟩
  · rw [f_X10_needWorld, hj.run, hj.c, (k_hasW h v).1 c]; rfl
  · rw [f_X10_needWorld, hj.run, hj.c, (k_hasW h v).2 c]; rfl
theorem k_needNotice (h : CS ln μ j V n N w0 r) (hj : NW sh μ j) (v : Int32) : (inn v V → f_X10_needNotice sh ln μ v = some ()) ∧ (¬ inn v V → f_X10_needNotice sh ln μ v = none) := by
  refine ⟨fun c => ?_, fun c => ?_⟩
  · rw [f_X10_needNotice, hj.run, hj.c, (k_hasN h v).1 c]; rfl
  · rw [f_X10_needNotice, hj.run, hj.c, (k_hasN h v).2 c]; rfl
theorem k_needLeft (h : CS ln μ j V n N w0 r) (hj : NW sh μ j) {w : Nat} (hw : w < N) : f_X10_needLeft sh ln μ (nI w) = if lf r w = true then some () else none := by
  rw [f_X10_needLeft, hj.run, hj.c, k_stands h hw, Option.bind_some]
  cases lf r w <;> rfl
theorem k_needSight (h : CS ln μ j V n N w0 r) (hj : NW sh μ j) {p q : Nat} (hp : p < n) (hq : q < n) : f_X10_needSight sh ln μ (nI p) (nI q) = if (se r p).testBit q = true then some () else none := by
  rw [f_X10_needSight, hj.run, hj.c, k_hasSight h hp hq, Option.bind_some]
  cases (se r p).testBit q <;> rfl
theorem k_needTwo {p q : Nat} (hp : p < 2147483648) (hq : q < 2147483648) : f_X10_needTwo (nI p) (nI q) = if p = q then none else some () := by
  have e : (nI p = nI q) = (p = q) := q_eq hp hq
  unfold f_X10_needTwo
  by_cases c : p = q
  · rw [if_pos (e.mpr c), if_pos c]
  · rw [if_neg (fun x => c (e.mp x)), if_neg c]
end WRAPK
section WRAPQ
variable {μ : Mm} {V n N w0 : Nat} {r : Nat → Int32}
theorem q_inn {m : Nat} (hm : m < 2147483648) (v : Int32) : (inn v m → f_X11_in v (0 : Int32) (nI m - (1 : Int32)) = some (nI 1)) ∧ (¬ inn v m → f_X11_in v (0 : Int32) (nI m - (1 : Int32)) = some (nI 0)) := by
  refine ⟨fun ⟨p, hp, e⟩ => ?_, fun h => ?_⟩
  · rw [f_X11_in, e, if_neg (show ¬ nI p < (0 : Int32) from nI_nneg (by omega)), show (1 : Int32) = nI 1 from rfl, q_sub (by omega), if_neg (by rw [q_lt (by omega) (by omega)]; omega)]
  · rw [f_X11_in]
    rcases not_inn hm h with c | ⟨c, k, hk, hk2, e⟩
    · rw [if_pos c]; rfl
    · rw [if_neg c]
      have : nI m - (1 : Int32) < v := by
        rw [e]
        by_cases c0 : m = 0
        · rw [c0]
          show nI 0 - nI 1 < nI k
          have h1 : (nI 0 - nI 1 : Int32) < nI 0 := by decide
          have h2 : nI 0 ≤ nI k := nI_le (by omega) (by omega)
          exact Int32.lt_of_lt_of_le h1 h2
        · rw [show (1 : Int32) = nI 1 from rfl, q_sub (by omega), q_lt (by omega) hk2]; omega
      rw [if_pos this]; rfl
theorem q_noPerson (h : RS μ V n N w0 r) (v : Int32) : (inn v n → f_X11_noPerson μ v = some (nI 0)) ∧ (¬ inn v n → f_X11_noPerson μ v = some (nI 1)) := by
  have hb := h.2.b
  refine ⟨fun c => ?_, fun c => ?_⟩
  · rw [f_X11_noPerson, q_people h, Option.bind_some, (q_inn (by omega) v).1 c]; rfl
  · rw [f_X11_noPerson, q_people h, Option.bind_some, (q_inn (by omega) v).2 c]; rfl
theorem q_noWorld (h : RS μ V n N w0 r) (v : Int32) : (inn v N → f_X11_noWorld μ v = some (nI 0)) ∧ (¬ inn v N → f_X11_noWorld μ v = some (nI 1)) := by
  have hb := h.2.b
  refine ⟨fun c => ?_, fun c => ?_⟩
  · rw [f_X11_noWorld, q_worlds h, Option.bind_some, (q_inn (by omega) v).1 c]; rfl
  · rw [f_X11_noWorld, q_worlds h, Option.bind_some, (q_inn (by omega) v).2 c]; rfl
theorem q_thr0 {c : Int32} : f_X11_throwsIf μ (nI 0) c = some (nI 0, μ) := by
  rw [f_X11_throwsIf, if_pos (show nI 0 = 0 from rfl)]
  exact q_cb0
theorem q_thr1 {c : Int32} : f_X11_throwsIf μ (nI 1) c = some (nI 1, mst μ (0, 0) 0 c) := by
  rw [f_X11_throwsIf, if_neg (show ¬ nI 1 = 0 by decide)]
  exact q_cb1
/-- what a call begins with -/
theorem RS.z (h : RS μ V n N w0 r) (x : Int32) : RS (mst μ (0, 0) 0 x) V n N w0 r := by
  rw [mst_row]
  exact h.row _ (by omega)
/-- a call that needs one person -/
theorem q_call1 (h : RS μ V n N w0 r) {body : Mm → Option (Int32 × Mm)} (v : Int32) :
    (inn v n → ((f_X11_noPerson μ v).bind fun x8 => (f_X11_throwsIf μ x8 (1 : Int32)).bind fun x12 => if x12.1 = 0 then body x12.2 else (some ((0 : Int32), x12.2))) = body μ) ∧
    (¬ inn v n → ((f_X11_noPerson μ v).bind fun x8 => (f_X11_throwsIf μ x8 (1 : Int32)).bind fun x12 => if x12.1 = 0 then body x12.2 else (some ((0 : Int32), x12.2))) = some (0, mst μ (0, 0) 0 1)) := by
  refine ⟨fun c => ?_, fun c => ?_⟩
  · rw [(q_noPerson h v).1 c, Option.bind_some, q_thr0, Option.bind_some, if_pos (show (nI 0, μ).1 = 0 from rfl)]
  · rw [(q_noPerson h v).2 c, Option.bind_some, q_thr1, Option.bind_some, if_neg (fun e => absurd (show nI 1 = 0 from e) (by decide))]
end WRAPQ
