-- dead numbers of objects are kept apart from those that are made
def S11 (sh : Sh) : Prop := ∀ s, 11 ≤ s → sh 2 s = 0
abbrev okc (sh : Sh) (x : Int32) : Prop := x = 0 ∨ (1 ≤ x.toNatClampNeg ∧ x.toNatClampNeg ≤ sh 4 2)
abbrev iv1 (sh : Sh) (μ : Mm) : Prop := μ (6, 0) 12 = 0 ∨ sh 2 ((μ (6, 0) 12).toNatClampNeg - 1) = 1 ∨ 11 ≤ (μ (6, 0) 12).toNatClampNeg - 1
def NF (sh : Sh) (μ : Mm) : Prop := INV1 sh μ ∧ ∀ s, sh 2 s = 1 → okc sh (μ (13, s) 8) ∨ 601 ≤ (μ (13, s) 8).toNatClampNeg
def nrm (sh : Sh) (μ : Mm) : Mm := fun k => if k = (6, 0) then (fun i => if i = 12 ∧ ¬ iv1 sh μ then nI 12 else μ (6, 0) i) else if k.1 = 13 then (fun i => if i = 8 ∧ ¬ okc sh (μ k 8) then nI (602 + k.2) else μ k i) else μ k
def oaN (oa : Ky → Nat) (μ : Mm) : Ky → Nat := fun k => if k.1 = 13 ∧ k.2 = 11 then oa (13, (μ (6, 0) 12).toNatClampNeg - 1) else if k.1 = 14 ∧ 601 ≤ k.2 then oa (14, (μ (13, k.2 - 601) 8).toNatClampNeg - 1) else oa k
theorem NF.nol {sh : Sh} {μ : Mm} (h : NF sh μ) (h4 : sh 4 2 < 600) : NOL sh μ := fun s hs => by
  rcases h.2 s hs with (h1 | ⟨h1, h2⟩) | h1
  · exact Or.inl h1
  · exact Or.inr (by omega)
  · exact Or.inr (by omega)
section NRM
variable {oa : Ky → Nat} {aa : Nat → Nat} {sh : Sh} {ln : Nat → Nat} {μ μq : Mm} {tc : Nat → ClassId}
theorem nrm_o {k : Ky} (h6 : k ≠ (6, 0)) (h13 : k.1 ≠ 13) : nrm sh μ k = μ k := by
  unfold nrm
  rw [if_neg h6, if_neg h13]
theorem nrm_13 {s : Nat} (h : okc sh (μ (13, s) 8)) : nrm sh μ (13, s) = μ (13, s) := by
  unfold nrm
  rw [if_neg (by simp), if_pos rfl]
  funext i
  exact if_neg (fun e => e.2 h)
theorem nrm_138 {s : Nat} (h : ¬ okc sh (μ (13, s) 8)) : nrm sh μ (13, s) 8 = nI (602 + s) := by
  unfold nrm
  rw [if_neg (by simp), if_pos rfl]
  exact if_pos ⟨rfl, h⟩
theorem nrm_13i {s i : Nat} (h : i ≠ 8) : nrm sh μ (13, s) i = μ (13, s) i := by
  unfold nrm
  rw [if_neg (by simp), if_pos rfl]
  exact if_neg (fun e => h e.1)
theorem nrm_6 (h : iv1 sh μ) : nrm sh μ (6, 0) = μ (6, 0) := by
  unfold nrm
  rw [if_pos rfl]
  funext i
  exact if_neg (fun e => e.2 h)
theorem nrm_612 (h : ¬ iv1 sh μ) : nrm sh μ (6, 0) 12 = nI 12 := by
  unfold nrm
  rw [if_pos rfl]
  exact if_pos ⟨rfl, h⟩
theorem nrm_6i {i : Nat} (h : i ≠ 12) : nrm sh μ (6, 0) i = μ (6, 0) i := by
  unfold nrm
  rw [if_pos rfl]
  exact if_neg (fun e => h e.1)
theorem nrm_nf (hS : S11 sh) (h11 : ∀ s, sh 2 s = 0 ∨ sh 2 s = 1) : NF sh (nrm sh μ) := by
  refine ⟨?_, fun s hs => ?_⟩
  · by_cases h : iv1 sh μ
    · unfold INV1
      rw [nrm_6 h]
      exact h
    · unfold INV1
      rw [nrm_612 h]
      exact Or.inr (Or.inr (by decide +kernel))
  · by_cases h : okc sh (μ (13, s) 8)
    · rw [nrm_13 h]
      exact Or.inl h
    · rw [nrm_138 h]
      have : s < 11 := by
        rcases Nat.lt_or_ge s 11 with q | q
        · exact q
        · rw [hS s q] at hs; cases hs
      exact Or.inr (by rw [nI_clamp (by omega)]; omega)
theorem oaN_o {k : Ky} (h13 : k.1 ≠ 13) (h14 : k.1 ≠ 14) : oaN oa μ k = oa k := by
  unfold oaN
  rw [if_neg (fun e => h13 e.1), if_neg (fun e => h14 e.1)]
theorem oaN_13 {x : Nat} (h : x ≠ 11) : oaN oa μ (13, x) = oa (13, x) := by
  unfold oaN
  rw [if_neg (fun e => h e.2), if_neg (fun e => absurd e.1 (by show ¬ (13 : Nat) = 14; omega))]
theorem oaN_11 : oaN oa μ (13, 11) = oa (13, (μ (6, 0) 12).toNatClampNeg - 1) := if_pos ⟨rfl, rfl⟩
theorem oaN_14 {x : Nat} (h : x < 601) : oaN oa μ (14, x) = oa (14, x) := by
  unfold oaN
  rw [if_neg (fun e => absurd e.1 (by show ¬ (14 : Nat) = 13; omega)), if_neg (fun e => absurd e.2 (by show ¬ 601 ≤ x; omega))]
theorem oaN_601 {s : Nat} : oaN oa μ (14, 601 + s) = oa (14, (μ (13, s) 8).toNatClampNeg - 1) := by
  unfold oaN
  rw [if_neg (fun e => absurd e.1 (by show ¬ (14 : Nat) = 13; omega)), if_pos ⟨rfl, by show 601 ≤ 601 + s; omega⟩]
  show oa (14, (μ (13, 601 + s - 601) 8).toNatClampNeg - 1) = _
  rw [show 601 + s - 601 = s by omega]
theorem alive_lt (hS : S11 sh) {s : Nat} (h : sh 2 s = 1) : s < 11 := by
  rcases Nat.lt_or_ge s 11 with q | q
  · exact q
  · rw [hS s q] at h; cases h
theorem faB_N (hS : S11 sh) (h4 : sh 4 2 < 600) (k : Ky) : faB (oaN oa μ) aa sh k = faB oa aa sh k := by
  obtain ⟨a, b⟩ := k
  match a with
  | 0 => rfl
  | 1 => rfl
  | 2 => rfl
  | 3 => rfl
  | 4 => rfl
  | 5 => rfl
  | 6 => rfl
  | 7 => rfl
  | 8 => rfl
  | 9 => rfl
  | 10 => rfl
  | 11 => rfl
  | 12 => rfl
  | 13 =>
    show (if sh 2 b = 1 then some (oaN oa μ (13, b)) else none) = (if sh 2 b = 1 then some (oa (13, b)) else none)
    by_cases c : sh 2 b = 1
    · rw [if_pos c, if_pos c, oaN_13 (by have := alive_lt hS c; omega)]
    · rw [if_neg c, if_neg c]
  | 14 =>
    show (if b < sh 4 2 then some (oaN oa μ (14, b)) else none) = (if b < sh 4 2 then some (oa (14, b)) else none)
    by_cases c : b < sh 4 2
    · rw [if_pos c, if_pos c, oaN_14 (by omega)]
    · rw [if_neg c, if_neg c]
  | 15 => rfl
  | n + 16 => rfl
theorem feB_N (hS : S11 sh) (h4 : sh 4 2 < 600) (hwf : WfS sh) (h9 : sh 2 ((μ (0, 0) 9).toNatClampNeg) = 1) (h10 : sh 2 ((μ (0, 0) 10).toNatClampNeg) = 1) (k : Ky) (hk : (faB oa aa sh k).isSome = true) : feB tc oa aa sh ln k (μ k) = feB tc (oaN oa μ) aa sh ln k (nrm sh μ k) := by
  obtain ⟨a, b⟩ := k
  match a with
  | 0 =>
    have hb : b = 0 := by
      have hk : (if b = 0 then some (oa (0, b)) else none : Option Nat).isSome = true := hk
      by_cases c : b = 0
      · exact c
      · rw [if_neg c] at hk; cases hk
    subst hb
    rw [nrm_o (by simp) (by simp)]
    show (Sum.inr (10, fsBV oa sh (μ (0, 0))) : va_E) = Sum.inr (10, fsBV (oaN oa μ) sh (μ (0, 0)))
    unfold fsBV
    rw [oaN_13 (x := (μ (0, 0) 9).toNatClampNeg) (by have := alive_lt hS h9; omega), oaN_13 (x := (μ (0, 0) 10).toNatClampNeg) (by have := alive_lt hS h10; omega), oaN_13 (x := 10) (by omega)]
    rfl
  | 1 =>
    rw [nrm_o (by simp) (by simp)]
    show (Sum.inl (tc 3, 8, .inr (.inr (.inr (.inr (fun i => if sh 2 (2 + i) = 0 then none else some (oa (13, 2 + i))))))) : va_E) = Sum.inl (tc 3, 8, .inr (.inr (.inr (.inr (fun i => if sh 2 (2 + i) = 0 then none else some (oaN oa μ (13, 2 + i)))))))
    refine congrArg (fun f => (Sum.inl (tc 3, 8, .inr (.inr (.inr (.inr f)))) : va_E)) (funext fun x => ?_)
    by_cases c : sh 2 (2 + x) = 0
    · rw [if_pos c, if_pos c]
    · rw [if_neg c, if_neg c, oaN_13 (by have := alive_lt hS ((hwf _).resolve_left c); omega)]
  | 2 => rw [nrm_o (by simp) (by simp)]; rfl
  | 3 => rw [nrm_o (by simp) (by simp)]; rfl
  | 4 => rw [nrm_o (by simp) (by simp)]; rfl
  | 5 => rw [nrm_o (by simp) (by simp)]; rfl
  | 6 =>
    match b with
    | 0 =>
      show (Sum.inr (9, fsVR oa (μ (6, 0))) : va_E) = Sum.inr (9, fsVR (oaN oa μ) (nrm sh μ (6, 0)))
      have e12 : (if μ (6, 0) 12 = 0 then Value.null else .ref (oa (13, (μ (6, 0) 12).toNatClampNeg - 1))) = (if nrm sh μ (6, 0) 12 = 0 then Value.null else .ref (oaN oa μ (13, (nrm sh μ (6, 0) 12).toNatClampNeg - 1))) := by
        by_cases h : iv1 sh μ
        · rw [nrm_6 h]
          by_cases c : μ (6, 0) 12 = 0
          · rw [if_pos c, if_pos c]
          · rw [if_neg c, if_neg c]
            by_cases c2 : (μ (6, 0) 12).toNatClampNeg - 1 = 11
            · have := oaN_11 (oa := oa) (μ := μ)
              rw [c2] at this ⊢
              rw [this]
            · rw [oaN_13 c2]
        · rw [nrm_612 h, if_neg (fun e => h (Or.inl e)), if_neg (by decide +kernel), show (nI 12).toNatClampNeg - 1 = 11 by decide +kernel, oaN_11]
      unfold fsVR fsRd
      rw [e12, nrm_6i (i := 3) (by omega), nrm_6i (i := 4) (by omega), nrm_6i (i := 5) (by omega), nrm_6i (i := 6) (by omega), nrm_6i (i := 7) (by omega), nrm_6i (i := 8) (by omega), nrm_6i (i := 9) (by omega), nrm_6i (i := 10) (by omega), nrm_6i (i := 13) (by omega), nrm_6i (i := 14) (by omega)]
      rfl
    | n + 1 => rw [nrm_o (by simp) (by simp)]; rfl
  | 7 => rw [nrm_o (by simp) (by simp)]; rfl
  | 8 => rw [nrm_o (by simp) (by simp)]; rfl
  | 9 => rw [nrm_o (by simp) (by simp)]; rfl
  | 10 => rw [nrm_o (by simp) (by simp)]; rfl
  | 11 => rw [nrm_o (by simp) (by simp)]; rfl
  | 12 => rw [nrm_o (by simp) (by simp)]; rfl
  | 13 =>
    show (Sum.inr (6, fsSt oa b (μ (13, b))) : va_E) = Sum.inr (6, fsSt (oaN oa μ) b (nrm sh μ (13, b)))
    have e8 : (if μ (13, b) 8 = 0 then Value.null else .ref (oa (14, (μ (13, b) 8).toNatClampNeg - 1))) = (if nrm sh μ (13, b) 8 = 0 then Value.null else .ref (oaN oa μ (14, (nrm sh μ (13, b) 8).toNatClampNeg - 1))) := by
      have hb : b < 11 := alive_lt hS (by
        have hk : (if sh 2 b = 1 then some (oa (13, b)) else none : Option Nat).isSome = true := hk
        by_cases c : sh 2 b = 1
        · exact c
        · rw [if_neg c] at hk; cases hk)
      by_cases h : okc sh (μ (13, b) 8)
      · rw [nrm_13 h]
        rcases h with h | ⟨h1, h2⟩
        · rw [if_pos h, if_pos h]
        · by_cases c : μ (13, b) 8 = 0
          · rw [if_pos c, if_pos c]
          · rw [if_neg c, if_neg c, oaN_14 (by omega)]
      · have hz : ¬ nI (602 + b) = 0 := fun e => by
          have := congrArg Int32.toNatClampNeg e
          rw [nI_clamp (by omega)] at this
          have : 602 + b = 0 := this
          omega
        rw [nrm_138 h, if_neg (fun e => h (Or.inl e)), if_neg hz, nI_clamp (by omega), show 602 + b - 1 = 601 + b by omega, oaN_601]
    unfold fsSt
    rw [e8, nrm_13i (i := 0) (by omega), nrm_13i (i := 1) (by omega), nrm_13i (i := 2) (by omega), nrm_13i (i := 3) (by omega), nrm_13i (i := 4) (by omega), nrm_13i (i := 5) (by omega), nrm_13i (i := 6) (by omega), nrm_13i (i := 7) (by omega), nrm_13i (i := 14) (by omega), nrm_13i (i := 15) (by omega)]
    rfl
  | 14 => rw [nrm_o (by simp) (by simp)]; rfl
  | 15 => rw [nrm_o (by simp) (by simp)]; rfl
  | n + 16 => rw [nrm_o (by simp) (by simp)]; rfl
theorem STR.norm {j V n N w0 : Nat} {r : Nat → Int32} {Λo : Option LW} (h : STR sh ln μ j V n N w0 r Λo) (h4 : sh 4 2 < 600) : STR sh ln (nrm sh μ) j V n N w0 r Λo := by
  have hok : okc sh (μ (13, j) 8) := by
    have hL := h.2.2.1
    unfold LRk at hL
    cases Λo with
    | none => exact Or.inl hL
    | some Λ =>
      obtain ⟨i, B, e, h1, h2, -⟩ := hL
      rw [e]
      exact Or.inr (by rw [nI_clamp (by omega)]; omega)
  exact h.al (nrm_13 hok) (fun i _ => nrm_o (by simp) (by simp)) (fun q hq => nrm_o (fun y => by rw [y] at hq; rcases hq with hq | hq <;> injection hq <;> contradiction) (by rcases hq with hq | hq <;> rw [hq] <;> omega))
theorem RLL.norm {V n N w0 : Nat} {r : Nat → Int32} {Λo : Option LW} {j d t c z : Nat} {T : Nat → Nat} (h : RLL sh ln μq μ V n N w0 r Λo j d t c T z) (h4 : sh 4 2 < 600) : RLL sh ln μq (nrm sh μ) V n N w0 r Λo j d t c T z := by
  obtain ⟨⟨a1, a2, a3⟩, ⟨b1, b2, b3⟩, b4, ⟨c1, c2, c3, c4, c5, c6⟩, ⟨d1, d2, d3, d4, d5⟩, f1, g1, g2, g3⟩ := h
  have e0 : nrm sh μ (0, 0) = μ (0, 0) := nrm_o (by simp) (by simp)
  refine ⟨⟨a1, a2.norm h4, a3⟩, ⟨?_, b2, b3⟩, b4, ⟨c1, c2, ?_, c4, ?_, c6⟩, ⟨?_, d2, ?_, d4, d5⟩, fun i hi => ?_, ?_, ?_, g3⟩
  · unfold ND at b1 ⊢
    rw [e0]; exact b1
  · rw [nrm_o (by simp) (by simp)]; exact c3
  · rw [nrm_o (by simp) (by simp)]; exact c5
  · rw [e0]; exact d1
  · rw [e0]; exact d3
  · obtain ⟨f2, V', n', N', w0', f3, f4⟩ := f1 i hi
    exact ⟨f2, V', n', N', w0', f3.norm h4, f4⟩
  · rcases g1 with g1 | ⟨g4, g5, V', n', N', w0', Λ', g6, g7⟩
    · exact Or.inl g1
    · exact Or.inr ⟨g4, g5, V', n', N', w0', Λ', g6.norm h4, g7⟩
  · rw [e0]; exact g2
end NRM
theorem Wd.norm {D : va_G} {tc : Nat → ClassId} {oa : Ky → Nat} {aa : Nat → Nat} {sh : Sh} {ln : Nat → Nat} {μ : Mm} {A : Nat → Prop} {H0 H : Heap} {locs : List Loc} (h : Wd D (faB oa aa sh) (feB tc oa aa sh ln) A H0 μ H locs) (hS : S11 sh) (h4 : sh 4 2 < 600) (hwf : WfS sh) (h9 : sh 2 ((μ (0, 0) 9).toNatClampNeg) = 1) (h10 : sh 2 ((μ (0, 0) 10).toNatClampNeg) = 1) : Wd D (faB (oaN oa μ) aa sh) (feB tc (oaN oa μ) aa sh ln) A H0 (nrm sh μ) H locs := by
  refine ⟨h.1.reindex (fun k a hk => ⟨k, (faB_N hS h4 k).symm.trans hk, feB_N hS h4 hwf h9 h10 k (by rw [(faB_N hS h4 k).symm.trans hk]; rfl)⟩), h.2.1, fun k a hk => h.2.2.1 k a ((faB_N hS h4 k).symm.trans hk), h.2.2.2.1, fun i j a hi hj => h.2.2.2.2 i j a ((faB_N hS h4 i).symm.trans hi) ((faB_N hS h4 j).symm.trans hj)⟩
theorem L3.norm {D : va_G} {tc : Nat → ClassId} {s : State} {A : Nat → Prop} {oa : Ky → Nat} {aa : Nat → Nat} {sh : Sh} {ln : Nat → Nat} {μk : Mm} {ad : Nat → Nat} {μq : Mm} {o : Nat} {f : Nat → Int64} {H : Heap} {locs : List Loc} (h : L3 D tc s A oa aa sh ln μk ad μq o f H locs) (hS : S11 sh) (h4 : sh 4 2 < 600) (hwf : WfS sh) (h9 : sh 2 ((μk (0, 0) 9).toNatClampNeg) = 1) (h10 : sh 2 ((μk (0, 0) 10).toNatClampNeg) = 1) : L3 D tc s A (oaN oa μk) aa sh ln (nrm sh μk) ad μq o f H locs :=
  ⟨h.1.norm hS h4 hwf h9 h10, h.2.1, h.2.2.1, fun k k' a hk => h.2.2.2.1 k k' a ((faB_N hS h4 k).symm.trans hk), fun k hk => h.2.2.2.2.1 k ((faB_N hS h4 k).symm.trans hk), h.2.2.2.2.2⟩
