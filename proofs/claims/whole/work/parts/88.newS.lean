-- a State is made beside a world
def feO (tc : Nat → ClassId) (oa oa' : Ky → Nat) (aa' : Nat → Nat) (sh sh' : Sh) (ln : Nat → Nat) : Fe := fun k r => if k = (0, 0) then .inr (10, fsBV oa sh r) else if k = (1, 0) then feB tc oa aa' sh ln (1, 0) r else feB tc oa' aa' sh' ln k r
def pS (i : Nat) : Nat := if i = 0 then 0 else if i = 1 then 2 else if i = 2 then 8 else if i = 3 then 4 else 6
def oaS (oa : Ky → Nat) (j q : Nat) (u : Nat → Nat) : Ky → Nat := fun k => if k = (13, j) then q else if k.1 = 11 ∧ 15 + 5 * j ≤ k.2 ∧ k.2 < 20 + 5 * j then u (pS (k.2 - (15 + 5 * j))) else oa k
def aaS (aa : Nat → Nat) (j : Nat) (u : Nat → Nat) : Nat → Nat := fun c => if 15 + 5 * j ≤ c ∧ c < 20 + 5 * j then u (pS (c - (15 + 5 * j)) + 1) else aa c
def NKS (j : Nat) : List Ky := [(13, j), (11, 15 + 5 * j + 0), (12, 15 + 5 * j + 0), (11, 15 + 5 * j + 1), (12, 15 + 5 * j + 1), (11, 15 + 5 * j + 3), (12, 15 + 5 * j + 3), (11, 15 + 5 * j + 4), (12, 15 + 5 * j + 4), (11, 15 + 5 * j + 2), (12, 15 + 5 * j + 2)]
section NEWS2
variable {oa : Ky → Nat} {aa : Nat → Nat} {sh : Sh} {ln : Nat → Nat} {μ : Mm} {j q : Nat} {u : Nat → Nat} {tc : Nat → ClassId}
theorem oaS_ne {k : Ky} (h11 : k.1 ≠ 11) (h13 : k.1 ≠ 13) : oaS oa j q u k = oa k := by
  unfold oaS
  rw [if_neg (fun e => h13 (by rw [e])), if_neg (fun e => h11 e.1)]
theorem oaS_13 {y : Nat} (h : y ≠ j) : oaS oa j q u (13, y) = oa (13, y) := by
  unfold oaS
  rw [if_neg (fun e => h (congrArg Prod.snd e)), if_neg (fun e => absurd e.1 (by show ¬ (13 : Nat) = 11; omega))]
theorem oaS_j : oaS oa j q u (13, j) = q := if_pos rfl
theorem oaS_11 {c : Nat} (h : ¬ (15 + 5 * j ≤ c ∧ c < 20 + 5 * j)) : oaS oa j q u (11, c) = oa (11, c) := by
  unfold oaS
  rw [if_neg (fun e => absurd (congrArg Prod.fst e) (by show ¬ (11 : Nat) = 13; omega)), if_neg (fun e => h e.2)]
theorem oaS_11n {i : Nat} (h : i < 5) : oaS oa j q u (11, 15 + 5 * j + i) = u (pS i) := by
  unfold oaS
  rw [if_neg (fun e => absurd (congrArg Prod.fst e) (by show ¬ (11 : Nat) = 13; omega)), if_pos ⟨rfl, by show 15 + 5 * j ≤ 15 + 5 * j + i; omega, by show 15 + 5 * j + i < 20 + 5 * j; omega⟩, show (15 + 5 * j + i - (15 + 5 * j)) = i by omega]
theorem aaS_o {c : Nat} (h : ¬ (15 + 5 * j ≤ c ∧ c < 20 + 5 * j)) : aaS aa j u c = aa c := if_neg h
theorem aaS_n {i : Nat} (h : i < 5) : aaS aa j u (15 + 5 * j + i) = u (pS i + 1) := by
  unfold aaS
  rw [if_pos ⟨by omega, by omega⟩, show (15 + 5 * j + i - (15 + 5 * j)) = i by omega]
theorem shs_o {a b : Nat} (h : ¬ (a = 2 ∧ b = j)) : shs sh 2 j 1 a b = sh a b := if_neg h
theorem cexS_o {c : Nat} (h : ¬ (15 + 5 * j ≤ c ∧ c < 20 + 5 * j)) : cex (shs sh 2 j 1) c = cex sh c := by
  unfold cex
  by_cases c15 : c < 15
  · simp [c15]
  · rw [shs_o (fun e => h ⟨by have := e.2; omega, by have := e.2; omega⟩)]
theorem faS_old {k : Ky} (h11 : k.1 ≠ 11) (h12 : k.1 ≠ 12) (h13 : k.1 ≠ 13) : faB (oaS oa j q u) (aaS aa j u) (shs sh 2 j 1) k = faB oa aa sh k := by
  have e := oaS_ne (oa := oa) (j := j) (q := q) (u := u) h11 h13
  have e4 : shs sh 2 j 1 4 2 = sh 4 2 := shs_o (by omega)
  obtain ⟨a, b⟩ := k
  match a with
  | 0 => show (if b = 0 then some (oaS oa j q u (0, b)) else none) = (if b = 0 then some (oa (0, b)) else none); rw [e]
  | 1 => show (if b = 0 then some (oaS oa j q u (1, b)) else none) = (if b = 0 then some (oa (1, b)) else none); rw [e]
  | 2 => show (if b = 0 then some (oaS oa j q u (2, b)) else none) = (if b = 0 then some (oa (2, b)) else none); rw [e]
  | 3 => show (if b = 0 then some (oaS oa j q u (3, b)) else none) = (if b = 0 then some (oa (3, b)) else none); rw [e]
  | 4 => show (if b = 0 then some (oaS oa j q u (4, b)) else none) = (if b = 0 then some (oa (4, b)) else none); rw [e]
  | 5 => show (if b = 0 then some (oaS oa j q u (5, b)) else none) = (if b = 0 then some (oa (5, b)) else none); rw [e]
  | 6 => show (if b < 2 then some (oaS oa j q u (6, b)) else none) = (if b < 2 then some (oa (6, b)) else none); rw [e]
  | 7 => show (if b < 2 then some (oaS oa j q u (7, b)) else none) = (if b < 2 then some (oa (7, b)) else none); rw [e]
  | 8 => show (if b < 2 then some (oaS oa j q u (8, b)) else none) = (if b < 2 then some (oa (8, b)) else none); rw [e]
  | 9 => show (if b < 2 then some (oaS oa j q u (9, b)) else none) = (if b < 2 then some (oa (9, b)) else none); rw [e]
  | 10 => show (if b = 0 then some (oaS oa j q u (10, b)) else none) = (if b = 0 then some (oa (10, b)) else none); rw [e]
  | 11 => exact absurd rfl h11
  | 12 => exact absurd rfl h12
  | 13 => exact absurd rfl h13
  | 14 => show (if b < shs sh 2 j 1 4 2 then some (oaS oa j q u (14, b)) else none) = (if b < sh 4 2 then some (oa (14, b)) else none); rw [e, e4]
  | 15 => show (if b < shs sh 2 j 1 4 2 then some (oaS oa j q u (15, b)) else none) = (if b < sh 4 2 then some (oa (15, b)) else none); rw [e, e4]
  | n + 16 => rfl
theorem fresh_o {k : Ky} (h12 : ¬ (k.1 = 12 ∧ 15 + 5 * j ≤ k.2 ∧ k.2 < 20 + 5 * j)) (h13 : k ≠ (13, j)) : fresh j μ k = μ k := by
  have ne : ∀ i, i < 5 → k ≠ (12, 15 + 5 * j + i) := fun i hi e => h12 (by rw [e]; exact ⟨rfl, by show 15 + 5 * j ≤ 15 + 5 * j + i; omega, by show 15 + 5 * j + i < 20 + 5 * j; omega⟩)
  unfold fresh
  rw [mrow_ne h13, mrow_ne (ne 4 (by omega)), mrow_ne (ne 3 (by omega)), mrow_ne (ne 2 (by omega)), mrow_ne (ne 1 (by omega)), mrow_ne (ne 0 (by omega))]
theorem fresh_13 : fresh j μ (13, j) = fun i => if i = 0 then 2 else if i = 2 ∨ i = 5 then 1 else 0 := by
  unfold fresh
  rw [mrow_self]
theorem ne12 {a b : Nat} (h : a ≠ b) : ((12, a) : Ky) ≠ (12, b) := fun e => h (congrArg Prod.snd e)
theorem ne123 {a b : Nat} : ((12, a) : Ky) ≠ (13, b) := fun e => absurd (congrArg Prod.fst e) (by show ¬ (12 : Nat) = 13; omega)
theorem fresh_r {i : Nat} (h : i < 5) : fresh j μ (12, 15 + 5 * j + i) = if i = 2 then (fun x => if x = 0 then 1 else 0) else (fun _ => 0) := by
  unfold fresh
  have : i = 0 ∨ i = 1 ∨ i = 2 ∨ i = 3 ∨ i = 4 := by omega
  rcases this with rfl | rfl | rfl | rfl | rfl
  · rw [mrow_ne ne123, mrow_ne (ne12 (by omega)), mrow_ne (ne12 (by omega)), mrow_ne (ne12 (by omega)), mrow_ne (ne12 (by omega)), mrow_self, if_neg (by omega)]
  · rw [mrow_ne ne123, mrow_ne (ne12 (by omega)), mrow_ne (ne12 (by omega)), mrow_ne (ne12 (by omega)), mrow_self, if_neg (by omega)]
  · rw [mrow_ne ne123, mrow_ne (ne12 (by omega)), mrow_ne (ne12 (by omega)), mrow_self, if_pos rfl]
  · rw [mrow_ne ne123, mrow_ne (ne12 (by omega)), mrow_self, if_neg (by omega)]
  · rw [mrow_ne ne123, mrow_self, if_neg (by omega)]
theorem feO_o {oa' : Ky → Nat} {aa' : Nat → Nat} {sh' : Sh} {k : Ky} {r : Nat → Int32} (h0 : k ≠ (0, 0)) (h1 : k ≠ (1, 0)) : feO tc oa oa' aa' sh sh' ln k r = feB tc oa' aa' sh' ln k r := by
  unfold feO
  rw [if_neg h0, if_neg h1]
theorem fsMind_e {oa' : Ky → Nat} (h : ∀ c, c < 15 → oa' (11, c) = oa (11, c)) : fsMind oa' = fsMind oa := by
  unfold fsMind
  rw [h 1 (by omega), h 2 (by omega), h 3 (by omega), h 4 (by omega), h 5 (by omega), h 6 (by omega), h 7 (by omega), h 8 (by omega), h 9 (by omega)]
theorem state_new {D : va_G} {H : Heap} (h : wd D (faB oa aa sh) (feB tc oa aa sh ln) μ H) (hi : inj (faB oa aa sh)) (hP : va_P D cls (FX6 tc q u) H) (hD : va_D (fun _ => True) (FX6 tc q u)) (hx : ∀ k a, faB oa aa sh k = some a → ∀ z ∈ FX6 tc q u, z.1 ≠ a)
    (h0 : sh 2 j = 0) (hfr : frl ln j = true) (hv : μ (6, 0) 12 = 0 ∨ (μ (6, 0) 12).toNatClampNeg - 1 ≠ j) :
    wd D (faB (oaS oa j q u) (aaS aa j u) (shs sh 2 j 1)) (feO tc oa (oaS oa j q u) (aaS aa j u) sh (shs sh 2 j 1) ln) (fresh j μ) H ∧ inj (faB (oaS oa j q u) (aaS aa j u) (shs sh 2 j 1)) ∧ ∀ k a, faB (oaS oa j q u) (aaS aa j u) (shs sh 2 j 1) k = some a → faB oa aa sh k = some a ∨ ∃ e : va_E, (a, e) ∈ FX6 tc q u := by
  have o11 : ∀ c, c < 15 → oaS oa j q u (11, c) = oa (11, c) := fun c hc => oaS_11 (by omega)
  have on : ∀ a b : Nat, a ≠ 11 → a ≠ 13 → oaS oa j q u (a, b) = oa (a, b) := fun a b h1 h2 => oaS_ne h1 h2
  have fr : ∀ a b : Nat, a ≠ 12 → a ≠ 13 → fresh j μ (a, b) = μ (a, b) := fun a b h1 h2 => fresh_o (fun e => h1 e.1) (fun e => h2 (congrArg Prod.fst e))
  have hlen : ln (15 + 5 * j + 0) = 9 ∧ ln (15 + 5 * j + 1) = 9 ∧ ln (15 + 5 * j + 2) = 1 ∧ ln (15 + 5 * j + 3) = 0 ∧ ln (15 + 5 * j + 4) = 0 := by
    unfold frl at hfr
    exact of_decide_eq_true hfr
  have rd : ∀ (i : Nat) (r : Nat → Int32), fsRd (oaS oa j q u) i r = fsRd oa i r := fun i r => by
    unfold fsRd
    rw [on 7 i (by omega) (by omega), on 8 i (by omega) (by omega), on 9 i (by omega) (by omega), on 2 0 (by omega) (by omega)]
  have s4 : shs sh 2 j 1 1 = sh 1 := by
    funext b
    exact shs_o (by omega)
  refine wd.grow (NK := NKS j) h hi hP hD hx (fun k a hk => ?_)
  by_cases hold : k.1 ≠ 11 ∧ k.1 ≠ 12 ∧ k.1 ≠ 13
  · rw [faS_old hold.1 hold.2.1 hold.2.2] at hk
    refine Or.inl ⟨hk, ?_⟩
    obtain ⟨x, y⟩ := k
    rw [fr x y hold.2.1 hold.2.2]
    match x with
    | 0 =>
      have hy : y = 0 := by
        by_cases e : y = 0
        · exact e
        · rw [show faB oa aa sh (0, y) = none from if_neg e] at hk; cases hk
      subst hy
      unfold feO
      rw [if_pos rfl]
      rfl
    | 1 =>
      have hy : y = 0 := by
        by_cases e : y = 0
        · exact e
        · rw [show faB oa aa sh (1, y) = none from if_neg e] at hk; cases hk
      subst hy
      unfold feO
      rw [if_neg (by simp), if_pos rfl]
      rfl
    | 2 =>
      rw [feO_o (by simp) (by simp)]
      show (Sum.inr (7, fsTape oa (μ (2, y))) : va_E) = Sum.inr (7, fsTape (oaS oa j q u) (μ (2, y)))
      unfold fsTape
      rw [o11 0 (by omega)]
    | 3 =>
      rw [feO_o (by simp) (by simp)]
      show (Sum.inr (4, fsMind oa) : va_E) = Sum.inr (4, fsMind (oaS oa j q u))
      rw [fsMind_e o11]
    | 4 =>
      rw [feO_o (by simp) (by simp)]
      show (Sum.inr (0, [Value.ref (oa (3, 0))]) : va_E) = Sum.inr (0, [Value.ref (oaS oa j q u (3, 0))])
      rw [on 3 0 (by omega) (by omega)]
    | 5 =>
      rw [feO_o (by simp) (by simp)]
      show (Sum.inr (5, fsPuz oa (μ (5, y))) : va_E) = Sum.inr (5, fsPuz (oaS oa j q u) (μ (5, y)))
      unfold fsPuz
      rw [on 3 0 (by omega) (by omega), o11 10 (by omega), o11 11 (by omega), o11 12 (by omega), o11 13 (by omega), o11 14 (by omega)]
    | 6 =>
      rw [feO_o (by simp) (by simp)]
      match y with
      | 0 =>
        show (Sum.inr (9, fsVR oa (μ (6, 0))) : va_E) = Sum.inr (9, fsVR (oaS oa j q u) (μ (6, 0)))
        unfold fsVR
        rw [rd, on 3 0 (by omega) (by omega)]
        by_cases e : μ (6, 0) 12 = 0
        · rw [if_pos e, if_pos e]
        · rw [if_neg e, if_neg e, oaS_13 (hv.resolve_left e)]
      | y + 1 =>
        show (Sum.inr (3, fsLR oa (μ (6, y + 1))) : va_E) = Sum.inr (3, fsLR (oaS oa j q u) (μ (6, y + 1)))
        unfold fsLR
        rw [rd, on 10 0 (by omega) (by omega)]
    | 7 => rw [feO_o (by simp) (by simp)]; rfl
    | 8 => rw [feO_o (by simp) (by simp)]; rfl
    | 9 => rw [feO_o (by simp) (by simp)]; rfl
    | 10 => rw [feO_o (by simp) (by simp)]; rfl
    | 11 => exact absurd rfl hold.1
    | 12 => exact absurd rfl hold.2.1
    | 13 => exact absurd rfl hold.2.2
    | 14 =>
      rw [feO_o (by simp) (by simp)]
      show (Sum.inr (2, fsLaw oa y (μ (14, y))) : va_E) = Sum.inr (2, fsLaw (oaS oa j q u) y (μ (14, y)))
      unfold fsLaw
      rw [on 15 y (by omega) (by omega)]
    | 15 =>
      rw [feO_o (by simp) (by simp)]
      show (Sum.inl (tc 0, sh 1 y, .inl (μ (15, y))) : va_E) = Sum.inl (tc 0, shs sh 2 j 1 1 y, .inl (μ (15, y)))
      rw [s4]
    | n + 16 => cases hk
  · obtain ⟨x, y⟩ := k
    have hx3 : x = 11 ∨ x = 12 ∨ x = 13 := by
      have : ¬ (x ≠ 11 ∧ x ≠ 12 ∧ x ≠ 13) := hold
      omega
    have five : ∀ c, 15 + 5 * j ≤ c ∧ c < 20 + 5 * j → c = 15 + 5 * j + 0 ∨ c = 15 + 5 * j + 1 ∨ c = 15 + 5 * j + 2 ∨ c = 15 + 5 * j + 3 ∨ c = 15 + 5 * j + 4 := fun c hc => by omega
    rcases hx3 with rfl | rfl | rfl
    · by_cases hy : 15 + 5 * j ≤ y ∧ y < 20 + 5 * j
      · right
        have hk2 : oaS oa j q u (11, y) = a := by
          have hk : (if cex (shs sh 2 j 1) y = true then some (oaS oa j q u (11, y)) else none) = some a := hk
          by_cases cc : cex (shs sh 2 j 1) y = true
          · rw [if_pos cc] at hk; exact Option.some.inj hk
          · rw [if_neg cc] at hk; cases hk
        subst hk2
        have hfe : ∀ i, i < 5 → feO tc oa (oaS oa j q u) (aaS aa j u) sh (shs sh 2 j 1) ln (11, 15 + 5 * j + i) (fresh j μ (11, 15 + 5 * j + i)) = .inr (1, [.ref (u (pS i + 1))]) := fun i hi5 => by
          rw [feO_o (by simp) (by simp)]
          show (Sum.inr (1, [Value.ref (aaS aa j u (15 + 5 * j + i))]) : va_E) = _
          rw [aaS_n hi5]
        rcases five y hy with rfl | rfl | rfl | rfl | rfl
        · exact ⟨1, rfl, by rw [oaS_11n (by omega), hfe 0 (by omega)]; rfl⟩
        · exact ⟨3, rfl, by rw [oaS_11n (by omega), hfe 1 (by omega)]; rfl⟩
        · exact ⟨9, rfl, by rw [oaS_11n (by omega), hfe 2 (by omega)]; rfl⟩
        · exact ⟨5, rfl, by rw [oaS_11n (by omega), hfe 3 (by omega)]; rfl⟩
        · exact ⟨7, rfl, by rw [oaS_11n (by omega), hfe 4 (by omega)]; rfl⟩
      · left
        have hk : (if cex (shs sh 2 j 1) y = true then some (oaS oa j q u (11, y)) else none) = some a := hk
        rw [cexS_o hy, oaS_11 hy] at hk
        refine ⟨hk, ?_⟩
        rw [feO_o (by simp) (by simp)]
        show (Sum.inr (1, [Value.ref (aa y)]) : va_E) = Sum.inr (1, [Value.ref (aaS aa j u y)])
        rw [aaS_o hy]
    · by_cases hy : 15 + 5 * j ≤ y ∧ y < 20 + 5 * j
      · right
        have hk2 : aaS aa j u y = a := by
          have hk : (if cex (shs sh 2 j 1) y = true then some (aaS aa j u y) else none) = some a := hk
          by_cases cc : cex (shs sh 2 j 1) y = true
          · rw [if_pos cc] at hk; exact Option.some.inj hk
          · rw [if_neg cc] at hk; cases hk
        subst hk2
        have hfe : ∀ i, i < 5 → feO tc oa (oaS oa j q u) (aaS aa j u) sh (shs sh 2 j 1) ln (12, 15 + 5 * j + i) (fresh j μ (12, 15 + 5 * j + i)) = .inl (tc 0, ln (15 + 5 * j + i), .inl (if i = 2 then (fun x => if x = 0 then 1 else 0) else (fun _ => 0))) := fun i hi5 => by
          rw [feO_o (by simp) (by simp), fresh_r hi5]
          rfl
        rcases five y hy with rfl | rfl | rfl | rfl | rfl
        · exact ⟨2, rfl, by rw [aaS_n (by omega), hfe 0 (by omega), hlen.1]; rfl⟩
        · exact ⟨4, rfl, by rw [aaS_n (by omega), hfe 1 (by omega), hlen.2.1]; rfl⟩
        · refine ⟨10, rfl, ?_⟩
          rw [aaS_n (by omega), hfe 2 (by omega), hlen.2.2.1]
          have e : upd (fun _ => (0 : Int32)) (0 : Int32).toNatClampNeg 1 = (fun x => if x = 0 then 1 else 0) := by
            funext x
            show (if x = _ then _ else _) = _
            rfl
          show some (u 9, (Sum.inl (tc 0, 1, .inl (upd (fun _ => (0 : Int32)) (0 : Int32).toNatClampNeg 1)) : va_E)) = _
          rw [e]
          rfl
        · exact ⟨6, rfl, by rw [aaS_n (by omega), hfe 3 (by omega), hlen.2.2.2.1]; rfl⟩
        · exact ⟨8, rfl, by rw [aaS_n (by omega), hfe 4 (by omega), hlen.2.2.2.2]; rfl⟩
      · left
        have hk : (if cex (shs sh 2 j 1) y = true then some (aaS aa j u y) else none) = some a := hk
        rw [cexS_o hy, aaS_o hy] at hk
        refine ⟨hk, ?_⟩
        rw [feO_o (by simp) (by simp), fresh_o (fun e => hy e.2) ne123]
        rfl
    · by_cases hy : y = j
      · right
        subst hy
        have hk2 : q = a := by
          have hk : (if shs sh 2 y 1 2 y = 1 then some (oaS oa y q u (13, y)) else none) = some a := hk
          rw [oaS_j] at hk
          by_cases cc : shs sh 2 y 1 2 y = 1
          · rw [if_pos cc] at hk; exact Option.some.inj hk
          · rw [if_neg cc] at hk; cases hk
        subst hk2
        refine ⟨0, rfl, ?_⟩
        rw [feO_o (by simp) (by simp), fresh_13]
        show _ = some (q, (Sum.inr (6, fsSt (oaS oa y q u) y _) : va_E))
        unfold fsSt
        rw [oaS_11n (by omega), oaS_11n (by omega), oaS_11n (by omega), oaS_11n (by omega), oaS_11n (by omega)]
        rfl
      · left
        have hk : (if shs sh 2 j 1 2 y = 1 then some (oaS oa j q u (13, y)) else none) = some a := hk
        rw [shs_o (fun e => hy e.2), oaS_13 hy] at hk
        refine ⟨hk, ?_⟩
        rw [feO_o (by simp) (by simp), fresh_o (fun e => absurd e.1 (by show ¬ (13 : Nat) = 12; omega)) (fun e => hy (congrArg Prod.snd e))]
        show (Sum.inr (6, fsSt oa y (μ (13, y))) : va_E) = Sum.inr (6, fsSt (oaS oa j q u) y (μ (13, y)))
        unfold fsSt
        rw [on 14 _ (by omega) (by omega), oaS_11 (c := 15 + 5 * y + 0) (by omega), oaS_11 (c := 15 + 5 * y + 1) (by omega), oaS_11 (c := 15 + 5 * y + 2) (by omega), oaS_11 (c := 15 + 5 * y + 3) (by omega), oaS_11 (c := 15 + 5 * y + 4) (by omega)]
end NEWS2
