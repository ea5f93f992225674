-- what the constructors make: the class's world, the reference's world
def sh0 : Sh := fun a b => if a = 2 ∧ b < 2 then 1 else 0
def ln0 : Nat → Nat := fun c => if c < 15 then [400, 4096, 512, 512, 512, 512, 8, 8, 6, 64, 512, 512, 512, 9, 512].getD c 0 else if c < 70 then [9, 9, 1, 0, 0].getD ((c - 15) % 5) 0 else 0
def p11 (c : Nat) : Nat := [1, 4, 6, 8, 10, 12, 14, 16, 18, 20, 24, 26, 28, 30, 32, 45, 47, 53, 49, 51, 56, 58, 64, 60, 62].getD c 0
def oa0 (b : Nat) (u : Nat → Nat) : Ky → Nat := fun k => match k.1 with
  | 0 => b
  | 1 => u 43
  | 2 => u 0
  | 3 => u 3
  | 4 => u 22
  | 5 => u 23
  | 6 => if k.2 = 0 then u 34 else u 38
  | 7 => if k.2 = 0 then u 35 else u 39
  | 8 => if k.2 = 0 then u 36 else u 40
  | 9 => if k.2 = 0 then u 37 else u 41
  | 10 => u 42
  | 11 => u (p11 k.2)
  | 13 => if k.2 = 0 then u 44 else u 55
  | _ => 0
def aa0 (u : Nat → Nat) : Nat → Nat := fun c => u (p11 c + 1)
def μk0 : Mm := fun k => if k.1 = 0 then (fun i => if i = 10 then nI 1 else if i = 12 then -nI 1 else nI 0) else if k.1 = 6 then (fun i => if i = 7 then -nI 1 else nI 0) else if k.1 = 13 then (fun i => if i = 0 then nI 2 else if i = 2 ∨ i = 5 then nI 1 else nI 0) else if k.1 = 12 ∧ (k.2 = 17 ∨ k.2 = 22) then upd (fun _ => 0) (0 : Int32).toNatClampNeg 1 else fun _ => nI 0
def NK10 : List Ky := [(0, 0), (2, 0), (11, 0), (12, 0), (3, 0), (11, 1), (12, 1), (11, 2), (12, 2), (11, 3), (12, 3), (11, 4), (12, 4), (11, 5), (12, 5), (11, 6), (12, 6), (11, 7), (12, 7), (11, 8), (12, 8), (11, 9), (12, 9), (4, 0), (5, 0), (11, 10), (12, 10), (11, 11), (12, 11), (11, 12), (12, 12), (11, 13), (12, 13), (11, 14), (12, 14), (6, 0), (7, 0), (8, 0), (9, 0), (6, 1), (7, 1), (8, 1), (9, 1), (10, 0), (1, 0), (13, 0), (11, 15), (12, 15), (11, 16), (12, 16), (11, 18), (12, 18), (11, 19), (12, 19), (11, 17), (12, 17), (13, 1), (11, 20), (12, 20), (11, 21), (12, 21), (11, 23), (12, 23), (11, 24), (12, 24), (11, 22), (12, 22)]
def NK11 : List Ky := [(0, 0), (1, 0), (2, 0), (3, 0), (4, 0), (5, 0), (8, 0), (9, 0), (10, 0), (11, 0), (18, 0), (22, 0), (23, 0), (24, 0), (25, 0), (26, 0), (27, 0), (28, 0), (29, 0), (30, 0), (31, 0), (32, 0), (33, 0), (34, 0), (35, 0), (36, 0)]
def ad0 (b : Nat) (u : Nat → Nat) : Nat → Nat := fun n => if n = 0 then b else if n ≤ 5 then u (n - 1) else if n ≤ 11 then u (n - 3) else if n = 18 then u 9 else u (n - 12)
def μq0 : Mm := fun k => if k = (0, 0) then (fun i => if i = 17 then -nI 1 else nI 0) else if k = (1, 0) then ini else fun _ => nI 0
theorem wd_emp (D : va_G) (fe : Fe) (μ : Mm) (H : Heap) : wd D (fun _ => none) fe μ H := ⟨[], fun q => ⟨fun h => absurd h List.not_mem_nil, fun ⟨k, a, h, _⟩ => by cases h⟩, fun k q h => by simp at h, ⟨fun i j p q h => by simp at h, fun k q h => by simp at h⟩⟩
theorem inj_emp : inj (fun _ => none) := fun i j a h => by cases h
theorem cex0_lt {c : Nat} (h : cex sh0 c = true) : c < 25 := by
  rcases Nat.lt_or_ge c 25 with q | q
  · exact q
  · have e : cex sh0 c = false := by
      unfold cex sh0
      rw [decide_eq_false (by omega), if_neg (by omega)]
      rfl
    rw [e] at h
    cases h
set_option maxHeartbeats 4000000 in
set_option maxRecDepth 100000 in
theorem k10_all (tc : Nat → ClassId) (b : Nat) (u : Nat → Nat) (k : Ky) (a : Nat) (h : faB (oa0 b u) (aa0 u) sh0 k = some a) : ∃ i : Nat, NK10[i]? = some k ∧ (FX10 tc b u)[i]? = some (a, feB tc (oa0 b u) (aa0 u) sh0 ln0 k (μk0 k)) := by
  obtain ⟨x, y⟩ := k
  match x with
  | 0 =>
    by_cases c : y = 0
    · subst c
      cases h
      exact ⟨0, rfl, rfl⟩
    · have h : (if y = 0 then some (oa0 b u (0, y)) else none) = some a := h
      rw [if_neg c] at h
      cases h
  | 1 =>
    by_cases c : y = 0
    · subst c
      cases h
      refine ⟨44, rfl, ?_⟩
      have e : (fun i => if sh0 2 (2 + i) = 0 then none else some (oa0 b u (13, 2 + i))) = fun _ => none := funext fun i => if_pos (if_neg (by omega))
      show some ((u 43, .inl (tc 3, 8, .inr (.inr (.inr (.inr (fun _ => none)))))) : Nat × va_E) = some (u 43, .inl (tc 3, 8, .inr (.inr (.inr (.inr (fun i => if sh0 2 (2 + i) = 0 then none else some (oa0 b u (13, 2 + i))))))))
      rw [e]
    · have h : (if y = 0 then some (oa0 b u (1, y)) else none) = some a := h
      rw [if_neg c] at h
      cases h
  | 2 =>
    by_cases c : y = 0
    · subst c
      cases h
      exact ⟨1, rfl, rfl⟩
    · have h : (if y = 0 then some (oa0 b u (2, y)) else none) = some a := h
      rw [if_neg c] at h
      cases h
  | 3 =>
    by_cases c : y = 0
    · subst c
      cases h
      exact ⟨4, rfl, rfl⟩
    · have h : (if y = 0 then some (oa0 b u (3, y)) else none) = some a := h
      rw [if_neg c] at h
      cases h
  | 4 =>
    by_cases c : y = 0
    · subst c
      cases h
      exact ⟨23, rfl, rfl⟩
    · have h : (if y = 0 then some (oa0 b u (4, y)) else none) = some a := h
      rw [if_neg c] at h
      cases h
  | 5 =>
    by_cases c : y = 0
    · subst c
      cases h
      exact ⟨24, rfl, rfl⟩
    · have h : (if y = 0 then some (oa0 b u (5, y)) else none) = some a := h
      rw [if_neg c] at h
      cases h
  | 6 =>
    by_cases c : y < 2
    · have c : y = 0 ∨ y = 1 := by omega
      rcases c with rfl | rfl
      · cases h
        exact ⟨35, rfl, rfl⟩
      · cases h
        exact ⟨39, rfl, rfl⟩
    · have h : (if y < 2 then some (oa0 b u (6, y)) else none) = some a := h
      rw [if_neg c] at h
      cases h
  | 7 =>
    by_cases c : y < 2
    · have c : y = 0 ∨ y = 1 := by omega
      rcases c with rfl | rfl
      · cases h
        exact ⟨36, rfl, rfl⟩
      · cases h
        exact ⟨40, rfl, rfl⟩
    · have h : (if y < 2 then some (oa0 b u (7, y)) else none) = some a := h
      rw [if_neg c] at h
      cases h
  | 8 =>
    by_cases c : y < 2
    · have c : y = 0 ∨ y = 1 := by omega
      rcases c with rfl | rfl
      · cases h
        exact ⟨37, rfl, rfl⟩
      · cases h
        exact ⟨41, rfl, rfl⟩
    · have h : (if y < 2 then some (oa0 b u (8, y)) else none) = some a := h
      rw [if_neg c] at h
      cases h
  | 9 =>
    by_cases c : y < 2
    · have c : y = 0 ∨ y = 1 := by omega
      rcases c with rfl | rfl
      · cases h
        exact ⟨38, rfl, rfl⟩
      · cases h
        exact ⟨42, rfl, rfl⟩
    · have h : (if y < 2 then some (oa0 b u (9, y)) else none) = some a := h
      rw [if_neg c] at h
      cases h
  | 10 =>
    by_cases c : y = 0
    · subst c
      cases h
      exact ⟨43, rfl, rfl⟩
    · have h : (if y = 0 then some (oa0 b u (10, y)) else none) = some a := h
      rw [if_neg c] at h
      cases h
  | 11 =>
    by_cases c : cex sh0 y = true
    · have hy := cex0_lt c
      have h : (if cex sh0 y = true then some (oa0 b u (11, y)) else none) = some a := h
      rw [if_pos c] at h
      cases h
      clear c
      match y, hy with
      | 0, _ => exact ⟨2, rfl, rfl⟩
      | 1, _ => exact ⟨5, rfl, rfl⟩
      | 2, _ => exact ⟨7, rfl, rfl⟩
      | 3, _ => exact ⟨9, rfl, rfl⟩
      | 4, _ => exact ⟨11, rfl, rfl⟩
      | 5, _ => exact ⟨13, rfl, rfl⟩
      | 6, _ => exact ⟨15, rfl, rfl⟩
      | 7, _ => exact ⟨17, rfl, rfl⟩
      | 8, _ => exact ⟨19, rfl, rfl⟩
      | 9, _ => exact ⟨21, rfl, rfl⟩
      | 10, _ => exact ⟨25, rfl, rfl⟩
      | 11, _ => exact ⟨27, rfl, rfl⟩
      | 12, _ => exact ⟨29, rfl, rfl⟩
      | 13, _ => exact ⟨31, rfl, rfl⟩
      | 14, _ => exact ⟨33, rfl, rfl⟩
      | 15, _ => exact ⟨46, rfl, rfl⟩
      | 16, _ => exact ⟨48, rfl, rfl⟩
      | 17, _ => exact ⟨54, rfl, rfl⟩
      | 18, _ => exact ⟨50, rfl, rfl⟩
      | 19, _ => exact ⟨52, rfl, rfl⟩
      | 20, _ => exact ⟨57, rfl, rfl⟩
      | 21, _ => exact ⟨59, rfl, rfl⟩
      | 22, _ => exact ⟨65, rfl, rfl⟩
      | 23, _ => exact ⟨61, rfl, rfl⟩
      | 24, _ => exact ⟨63, rfl, rfl⟩
      | n + 25, h => exact absurd h (by omega)
    · have h : (if cex sh0 y = true then some (oa0 b u (11, y)) else none) = some a := h
      rw [if_neg c] at h
      cases h
  | 12 =>
    by_cases c : cex sh0 y = true
    · have hy := cex0_lt c
      have h : (if cex sh0 y = true then some (aa0 u y) else none) = some a := h
      rw [if_pos c] at h
      cases h
      clear c
      match y, hy with
      | 0, _ => exact ⟨3, rfl, rfl⟩
      | 1, _ => exact ⟨6, rfl, rfl⟩
      | 2, _ => exact ⟨8, rfl, rfl⟩
      | 3, _ => exact ⟨10, rfl, rfl⟩
      | 4, _ => exact ⟨12, rfl, rfl⟩
      | 5, _ => exact ⟨14, rfl, rfl⟩
      | 6, _ => exact ⟨16, rfl, rfl⟩
      | 7, _ => exact ⟨18, rfl, rfl⟩
      | 8, _ => exact ⟨20, rfl, rfl⟩
      | 9, _ => exact ⟨22, rfl, rfl⟩
      | 10, _ => exact ⟨26, rfl, rfl⟩
      | 11, _ => exact ⟨28, rfl, rfl⟩
      | 12, _ => exact ⟨30, rfl, rfl⟩
      | 13, _ => exact ⟨32, rfl, rfl⟩
      | 14, _ => exact ⟨34, rfl, rfl⟩
      | 15, _ => exact ⟨47, rfl, rfl⟩
      | 16, _ => exact ⟨49, rfl, rfl⟩
      | 17, _ => exact ⟨55, rfl, rfl⟩
      | 18, _ => exact ⟨51, rfl, rfl⟩
      | 19, _ => exact ⟨53, rfl, rfl⟩
      | 20, _ => exact ⟨58, rfl, rfl⟩
      | 21, _ => exact ⟨60, rfl, rfl⟩
      | 22, _ => exact ⟨66, rfl, rfl⟩
      | 23, _ => exact ⟨62, rfl, rfl⟩
      | 24, _ => exact ⟨64, rfl, rfl⟩
      | n + 25, h => exact absurd h (by omega)
    · have h : (if cex sh0 y = true then some (aa0 u y) else none) = some a := h
      rw [if_neg c] at h
      cases h
  | 13 =>
    by_cases c : y < 2
    · have c : y = 0 ∨ y = 1 := by omega
      rcases c with rfl | rfl
      · cases h
        exact ⟨45, rfl, rfl⟩
      · cases h
        exact ⟨56, rfl, rfl⟩
    · have h : (if (if (2 : Nat) = 2 ∧ y < 2 then (1 : Nat) else 0) = 1 then some (oa0 b u (13, y)) else none) = some a := h
      have e : (if (2 : Nat) = 2 ∧ y < 2 then (1 : Nat) else 0) = 0 := if_neg (fun e => c e.2)
      rw [e, if_neg (by omega)] at h
      cases h
  | 14 =>
    have h : (if y < 0 then some (oa0 b u (14, y)) else none) = some a := h
    rw [if_neg (by omega)] at h
    cases h
  | 15 =>
    have h : (if y < 0 then some (oa0 b u (15, y)) else none) = some a := h
    rw [if_neg (by omega)] at h
    cases h
  | n + 16 => cases h
theorem ini_upd : upd (upd (upd (upd (fun _ => 0) (0 : Int32).toNatClampNeg 2) (5 : Int32).toNatClampNeg 1) (10 : Int32).toNatClampNeg 1) (20 : Int32).toNatClampNeg 1 = ini := by
  rw [show (0 : Int32).toNatClampNeg = 0 by decide +kernel, show (5 : Int32).toNatClampNeg = 5 by decide +kernel, show (10 : Int32).toNatClampNeg = 10 by decide +kernel, show (20 : Int32).toNatClampNeg = 20 by decide +kernel]
  funext k
  unfold ini upd
  by_cases h0 : k = 0
  · subst h0; rfl
  · by_cases h5 : k = 5
    · subst h5; rfl
    · by_cases h10 : k = 10
      · subst h10; rfl
      · by_cases h20 : k = 20
        · subst h20; rfl
        · rw [if_neg h20, if_neg h10, if_neg h5, if_neg h0, if_neg h0, if_neg h5, if_neg h10, if_neg h20]; rfl
set_option maxHeartbeats 4000000 in
set_option maxRecDepth 100000 in
theorem k11_all (tc : Nat → ClassId) (b : Nat) (u : Nat → Nat) (k : Ky) (a : Nat) (h : faM (ad0 b u) k = some a) : ∃ i : Nat, NK11[i]? = some k ∧ (FX11 tc b u)[i]? = some (a, feM tc (ad0 b u) k (μq0 k)) := by
  unfold faM at h
  split at h
  · cases h
    exact ⟨0, rfl, rfl⟩
  · cases h
    refine ⟨1, rfl, ?_⟩
    show some ((u 0, .inl (tc 0, 7114, .inl (upd (upd (upd (upd (fun _ => 0) (0 : Int32).toNatClampNeg 2) (5 : Int32).toNatClampNeg 1) (10 : Int32).toNatClampNeg 1) (20 : Int32).toNatClampNeg 1))) : Nat × va_E) = some (u 0, .inl (tc 0, 7114, .inl ini))
    rw [ini_upd]
  · cases h
    exact ⟨2, rfl, rfl⟩
  · cases h
    exact ⟨3, rfl, rfl⟩
  · cases h
    exact ⟨4, rfl, rfl⟩
  · cases h
    exact ⟨5, rfl, rfl⟩
  · cases h
    exact ⟨6, rfl, rfl⟩
  · cases h
    exact ⟨7, rfl, rfl⟩
  · cases h
    exact ⟨8, rfl, rfl⟩
  · cases h
    exact ⟨9, rfl, rfl⟩
  · cases h
    exact ⟨10, rfl, rfl⟩
  · cases h
    exact ⟨11, rfl, rfl⟩
  · cases h
    exact ⟨12, rfl, rfl⟩
  · cases h
    exact ⟨13, rfl, rfl⟩
  · cases h
    exact ⟨14, rfl, rfl⟩
  · cases h
    exact ⟨15, rfl, rfl⟩
  · cases h
    exact ⟨16, rfl, rfl⟩
  · cases h
    exact ⟨17, rfl, rfl⟩
  · cases h
    exact ⟨18, rfl, rfl⟩
  · cases h
    exact ⟨19, rfl, rfl⟩
  · cases h
    exact ⟨20, rfl, rfl⟩
  · cases h
    exact ⟨21, rfl, rfl⟩
  · cases h
    exact ⟨22, rfl, rfl⟩
  · cases h
    exact ⟨23, rfl, rfl⟩
  · cases h
    exact ⟨24, rfl, rfl⟩
  · cases h
    exact ⟨25, rfl, rfl⟩
  · cases h
theorem LN0 : LN ln0 := by
  unfold LN
  refine ⟨rfl, rfl, rfl, rfl, rfl, rfl, rfl, rfl, rfl, rfl, rfl, rfl, rfl, rfl, rfl⟩
theorem frl0 : ∀ s, s < 11 → frl ln0 s = true := by decide +kernel
theorem hi0 : ∀ c, 70 ≤ c → ln0 c = 0 := fun c hc => by
  unfold ln0
  rw [if_neg (by omega), if_neg (by omega)]
theorem REL0 : REL sh0 ln0 μq0 μk0 := by
  refine ⟨2, 0, 1, 0, ini, none, 0, 1, 0, 0, fun _ => 0, 0, base_rel (fun s => ?_) LN0 frl0 hi0 rfl (fun _ _ => rfl) rfl rfl rfl rfl (fun _ => rfl) rfl (fun _ _ => rfl) (fun _ => rfl) (by decide +kernel)⟩
  show (if 2 = 2 ∧ s < 2 then 1 else 0) = _
  by_cases c : s < 2
  · rw [if_pos ⟨rfl, c⟩, if_pos c]
  · rw [if_neg (fun e => c e.2), if_neg c]
theorem S110 : S11 sh0 := fun s hs => if_neg (by omega)
