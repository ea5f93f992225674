-- numbers, bits, rows, loops: what the pure half stands on
theorem q_lit (n : Nat) : (OfNat.ofNat n : Int32) = nI (OfNat.ofNat n) := rfl
theorem q_sub {a b : Nat} (h : b ≤ a) : nI a - nI b = nI (a - b) := pk_sub h
theorem q_addn {a b : Nat} (h : b ≤ a) : nI a + -nI b = nI (a - b) := by
  rw [← pk_sub h, Int32.sub_eq_add_neg]
theorem q_cl {n : Nat} (h : n < 2147483648) : (nI n).toNatClampNeg = n := nI_clamp h
theorem q_le {a b : Nat} (ha : a < 2147483648) (hb : b < 2147483648) : (nI a ≤ nI b) = (a ≤ b) := propext (nI_leI ha hb)
theorem q_lt {a b : Nat} (ha : a < 2147483648) (hb : b < 2147483648) : (nI a < nI b) = (a < b) := propext (nI_ltI ha hb)
theorem q_eq {a b : Nat} (ha : a < 2147483648) (hb : b < 2147483648) : (nI a = nI b) = (a = b) := propext (nI_eq ha hb)
theorem q_ck {α : Type} {n i : Nat} {x : Option α} (hi : i < 2147483648) (h : i < n) : ck n (nI i) x = x := by
  refine ck_in (fun z => ?_)
  rcases z with z | z
  · exact nI_pos hi z
  · rw [nI_clamp hi] at z; omega
theorem q_cd {α : Type} {d : Nat} {x : Option α} (h0 : 0 < d) (hd : d < 2147483648) : cd (nI d) x = x := if_neg (nI_ne0 h0 hd)
theorem q_cb0 {α : Type} {x : Option α} : cb (nI 0) x = x := if_pos (Or.inl rfl)
theorem q_cb1 {α : Type} {x : Option α} : cb (nI 1) x = x := if_pos (Or.inr rfl)
theorem q_div {a d : Nat} (ha : a < 2147483648) (h0 : 0 < d) (hd : d < 2147483648) : nI a / nI d = nI (a / d) := pk_div ha h0 hd
theorem q_rem {a d : Nat} : nI a - nI (a / d * d) = nI (a % d) := by
  rw [pk_sub (Nat.div_mul_le_self a d)]
  exact congrArg nI (by have := Nat.div_add_mod' a d; omega)
theorem q_shl1' : ∀ p, p < 31 → nI 1 <<< (nI p &&& nI 31) = nI (2 ^ p) := by decide +kernel
theorem q_shl1 {p : Nat} (h : p < 31) : nI 1 <<< nI (p &&& 31) = nI (2 ^ p) := by
  rw [← q_shl1' p h]
  exact congrArg _ (show Int32.ofNat (p &&& 31) = _ from by
    have : ∀ p, p < 31 → nI (p &&& 31) = nI p &&& nI 31 := by decide +kernel
    exact this p h)
theorem q_sh : ∀ p, p < 32 → ((nI (p &&& 31)).toBitVec.smod 32).toNat = p := by decide +kernel
theorem q_shr {m p : Nat} (hm : m < 2147483648) (hp : p < 32) : nI m >>> nI (p &&& 31) = nI (m / 2 ^ p) := pk_shrN hm _ p (q_sh p hp)
theorem q_and {a b : Nat} : nI a &&& nI b = nI (a &&& b) := by
  apply Int32.toBitVec_inj.1
  show BitVec.ofNat 32 a &&& BitVec.ofNat 32 b = BitVec.ofNat 32 (a &&& b)
  apply BitVec.eq_of_getLsbD_eq
  intro i hi
  simp [hi]
theorem q_or {a b : Nat} : nI a ||| nI b = nI (a ||| b) := by
  apply Int32.toBitVec_inj.1
  show BitVec.ofNat 32 a ||| BitVec.ofNat 32 b = BitVec.ofNat 32 (a ||| b)
  apply BitVec.eq_of_getLsbD_eq
  intro i hi
  simp [hi]
theorem q_tbn (m p : Nat) : (m / 2 ^ p &&& 1) = if m.testBit p = true then 1 else 0 := by
  rw [Nat.and_one_is_mod, Nat.testBit_eq_decide_div_mod_eq]
  by_cases h : m / 2 ^ p % 2 = 1
  · simp [h]
  · have : m / 2 ^ p % 2 = 0 := by omega
    simp [this]
theorem q_tb {m p : Nat} : (nI (m / 2 ^ p &&& 1) = nI 1) = (m.testBit p = true) := by
  rw [q_tbn]
  by_cases h : m.testBit p = true
  · simp [h]
  · simp [h]; decide
-- rows of the memory
theorem mst_row (μ : Mm) (k : Ky) (i : Nat) (v : Int32) : mst μ k i v = mrow μ k (upd (μ k) i v) := by
  funext q
  by_cases h : q = k
  · subst h; rw [mst_self, mrow_self]
  · rw [mst_ne h, mrow_ne h]
theorem mrow_neA {μ : Mm} {a b c d : Nat} {f : Nat → Int32} (h : a ≠ c) : mrow μ (a, b) f (c, d) = μ (c, d) := mrow_ne (fun e => h (congrArg Prod.fst e).symm)
theorem mrow_neB {μ : Mm} {a b c d : Nat} {f : Nat → Int32} (h : b ≠ d) : mrow μ (a, b) f (c, d) = μ (c, d) := mrow_ne (fun e => h (congrArg Prod.snd e).symm)
theorem mrow_mrow (μ : Mm) (k : Ky) (f g : Nat → Int32) : mrow (mrow μ k f) k g = mrow μ k g := by
  funext q
  by_cases h : q = k
  · subst h; rw [mrow_self, mrow_self]
  · rw [mrow_ne h, mrow_ne h, mrow_ne h]
theorem mrow_id (μ : Mm) (k : Ky) : mrow μ k (μ k) = μ := by
  funext q
  by_cases h : q = k
  · subst h; rw [mrow_self]
  · rw [mrow_ne h]
theorem mrow_comm {μ : Mm} {j k : Ky} (f g : Nat → Int32) (h : j ≠ k) : mrow (mrow μ j f) k g = mrow (mrow μ k g) j f := by
  funext q
  by_cases h1 : q = j
  · subst h1; rw [mrow_ne h, mrow_self, mrow_self]
  · rw [mrow_ne (k := j) h1]
    by_cases h2 : q = k
    · subst h2; rw [mrow_self, mrow_self]
    · rw [mrow_ne h2, mrow_ne h2, mrow_ne h1]
theorem q_upd (f : Nat → Int32) (k : Nat) (x : Int32) (j : Nat) : upd f k x j = if j = k then x else f j := rfl
-- loops
theorem Wh_step {S R : Type} {f : S → Option (S ⊕ R)} {s s' : S} {r : R} (h : f s = some (.inl s')) (h2 : Wh f s' = some r) : Wh f s = some r := by
  obtain ⟨n, hn⟩ := Wh_iff.mp h2
  refine Wh_iff.mpr ⟨n + 1, ?_⟩
  unfold Wrun
  rw [h]
  exact hn
theorem Wh_end {S R : Type} {f : S → Option (S ⊕ R)} {s : S} {r : R} (h : f s = some (.inr r)) : Wh f s = some r := by
  refine Wh_iff.mpr ⟨1, ?_⟩
  unfold Wrun
  rw [h]
/-- a loop of m turns, its states told -/
theorem Wh_it {S R : Type} {f : S → Option (S ⊕ R)} {s0 : S} {r : R} (m : Nat) (g : Nat → S) (h0 : s0 = g 0) (hs : ∀ k, k < m → f (g k) = some (.inl (g (k + 1)))) (he : f (g m) = some (.inr r)) : Wh f s0 = some r := by
  subst h0
  have : ∀ j, j ≤ m → Wh f (g (m - j)) = some r := by
    intro j
    induction j with
    | zero => intro _; exact Wh_end he
    | succ j ih =>
      intro hj
      have e := hs (m - (j + 1)) (by omega)
      rw [show m - (j + 1) + 1 = m - j by omega] at e
      exact Wh_step e (ih (by omega))
  have h := this m (Nat.le_refl m)
  rwa [Nat.sub_self] at h
/-- a loop of m turns at most, by an invariant -/
theorem Wh_inv {S R : Type} {f : S → Option (S ⊕ R)} {s0 : S} (m : Nat) (I : Nat → S → Prop) (Q : R → Prop) (h0 : I 0 s0)
    (hs : ∀ k s, k < m → I k s → (∃ s', f s = some (.inl s') ∧ I (k + 1) s') ∨ (∃ r, f s = some (.inr r) ∧ Q r)) (he : ∀ s, I m s → ∃ r, f s = some (.inr r) ∧ Q r) : ∃ r, Wh f s0 = some r ∧ Q r := by
  have : ∀ j, j ≤ m → ∀ s, I (m - j) s → ∃ r, Wh f s = some r ∧ Q r := by
    intro j
    induction j with
    | zero =>
      intro _ s hI
      obtain ⟨r, h1, h2⟩ := he s hI
      exact ⟨r, Wh_end h1, h2⟩
    | succ j ih =>
      intro hj s hI
      rcases hs (m - (j + 1)) s (by omega) hI with ⟨s', h1, h2⟩ | ⟨r, h1, h2⟩
      · rw [show m - (j + 1) + 1 = m - j by omega] at h2
        obtain ⟨r, h3, h4⟩ := ih (by omega) s' h2
        exact ⟨r, Wh_step h1 h3, h4⟩
      · exact ⟨r, Wh_end h1, h2⟩
  exact this m (Nat.le_refl m) s0 (by rwa [Nat.sub_self])
theorem Wh_inv1 {S R : Type} {f : S → Option (S ⊕ R)} {s0 : S} (m : Nat) (I : Nat → S → Prop) (Q : R → Prop) (h0 : I 0 s0)
    (hs : ∀ k s, k < m → I k s → ∃ s', f s = some (.inl s') ∧ I (k + 1) s') (he : ∀ s, I m s → ∃ r, f s = some (.inr r) ∧ Q r) : ∃ r, Wh f s0 = some r ∧ Q r :=
  Wh_inv m I Q h0 (fun k s hk hI => Or.inl (hs k s hk hI)) he
-- sums and sets over a range
def orN : Nat → (Nat → Nat) → Nat
  | 0, _ => 0
  | k + 1, f => orN k f ||| f k
def smN : Nat → (Nat → Nat) → Nat
  | 0, _ => 0
  | k + 1, f => smN k f + f k
theorem orN_0 (f : Nat → Nat) : orN 0 f = 0 := rfl
theorem orN_s (k : Nat) (f : Nat → Nat) : orN (k + 1) f = orN k f ||| f k := rfl
theorem smN_0 (f : Nat → Nat) : smN 0 f = 0 := rfl
theorem smN_s (k : Nat) (f : Nat → Nat) : smN (k + 1) f = smN k f + f k := rfl
theorem orN_lt {n b : Nat} {f : Nat → Nat} (h : ∀ k, k < n → f k < 2 ^ b) : orN n f < 2 ^ b := by
  induction n with
  | zero => exact Nat.two_pow_pos b
  | succ n ih => exact Nat.or_lt_two_pow (ih (fun k hk => h k (by omega))) (h n (by omega))
theorem orN_tb {n : Nat} {f : Nat → Nat} (i : Nat) : (orN n f).testBit i = true ↔ ∃ k, k < n ∧ (f k).testBit i = true := by
  induction n with
  | zero => simp [orN]
  | succ n ih =>
    rw [orN_s, Nat.testBit_or, Bool.or_eq_true, ih]
    constructor
    · rintro (⟨k, h1, h2⟩ | h)
      · exact ⟨k, by omega, h2⟩
      · exact ⟨n, by omega, h⟩
    · rintro ⟨k, h1, h2⟩
      by_cases e : k = n
      · subst e; exact Or.inr h2
      · exact Or.inl ⟨k, by omega, h2⟩
theorem orN_congr {n : Nat} {f g : Nat → Nat} (h : ∀ k, k < n → f k = g k) : orN n f = orN n g := by
  induction n with
  | zero => rfl
  | succ n ih => rw [orN_s, orN_s, ih (fun k hk => h k (by omega)), h n (by omega)]
theorem smN_congr {n : Nat} {f g : Nat → Nat} (h : ∀ k, k < n → f k = g k) : smN n f = smN n g := by
  induction n with
  | zero => rfl
  | succ n ih => rw [smN_s, smN_s, ih (fun k hk => h k (by omega)), h n (by omega)]
theorem smN_le {n b : Nat} {f : Nat → Nat} (h : ∀ k, k < n → f k ≤ b) : smN n f ≤ n * b := by
  induction n with
  | zero => simp [smN]
  | succ n ih =>
    rw [smN_s, Nat.succ_mul]
    have := ih (fun k hk => h k (by omega))
    have := h n (by omega)
    omega
theorem tb_pow (p i : Nat) : (2 ^ p).testBit i = true ↔ i = p := by
  rw [Nat.testBit_two_pow]
  simp [eq_comm]
-- truth as a number
def bI (b : Bool) : Int32 := if b = true then nI 1 else nI 0
theorem bI_t : bI true = nI 1 := rfl
theorem bI_f : bI false = nI 0 := rfl
theorem q_bI0 {b : Bool} : (bI b = nI 0) = (b = false) := by cases b <;> decide
theorem q_bI1 {b : Bool} : (bI b = nI 1) = (b = true) := by cases b <;> decide
theorem q_cbI {α : Type} {b : Bool} {x : Option α} : cb (bI b) x = x := by cases b <;> rfl
theorem bI_if (P : Prop) [Decidable P] : (if P then nI 1 else nI 0) = bI (decide P) := by
  by_cases h : P <;> simp [h, bI]
theorem bI_ifs (P : Prop) [Decidable P] : (if P then some (nI 1) else some (nI 0)) = some (bI (decide P)) := by
  by_cases h : P <;> simp [h, bI]
theorem bI_ifn (P : Prop) [Decidable P] : (if P then some (nI 0) else some (nI 1)) = some (bI (decide (¬ P))) := by
  by_cases h : P <;> simp [h, bI]
theorem bI_inj {b c : Bool} (h : bI b = bI c) : b = c := by
  cases b <;> cases c <;> first | rfl | (exact absurd h (by decide))
/-- one bit at most -/
def one (m : Nat) : Bool := m &&& (m - 1) == 0
/-- which NOTICES are left by a row of WORLDS, those of one mark -/
def poss (lf : Nat → Bool) (lb fg : Nat → Nat) (m k : Nat) : Nat := orN m (fun u => if lf u = true ∧ lb u = k then 2 ^ fg u else 0)
theorem poss_0 (lf : Nat → Bool) (lb fg : Nat → Nat) (k : Nat) : poss lf lb fg 0 k = 0 := rfl
theorem poss_s (lf : Nat → Bool) (lb fg : Nat → Nat) (m k : Nat) : poss lf lb fg (m + 1) k = poss lf lb fg m k ||| (if lf m = true ∧ lb m = k then 2 ^ fg m else 0) := rfl
theorem poss_lt {lf : Nat → Bool} {lb fg : Nat → Nat} {m k b : Nat} (h : ∀ u, u < m → fg u < b) : poss lf lb fg m k < 2 ^ b := by
  refine orN_lt (fun u hu => ?_)
  split
  · exact Nat.pow_lt_pow_right (by decide) (h u hu)
  · exact Nat.two_pow_pos b
theorem poss_tb {lf : Nat → Bool} {lb fg : Nat → Nat} {m k : Nat} (i : Nat) : (poss lf lb fg m k).testBit i = true ↔ ∃ u, u < m ∧ lf u = true ∧ lb u = k ∧ fg u = i := by
  unfold poss
  rw [orN_tb]
  constructor
  · rintro ⟨u, h1, h2⟩
    by_cases c : lf u = true ∧ lb u = k
    · rw [if_pos c, tb_pow] at h2
      exact ⟨u, h1, c.1, c.2, h2.symm⟩
    · rw [if_neg c] at h2; simp at h2
  · rintro ⟨u, h1, h2, h3, h4⟩
    exact ⟨u, h1, by rw [if_pos ⟨h2, h3⟩, tb_pow, h4]⟩
theorem poss_congr {lf lf' : Nat → Bool} {lb lb' fg fg' : Nat → Nat} {m k : Nat} (h1 : ∀ u, u < m → lf u = lf' u) (h2 : ∀ u, u < m → lf u = true → lb u = lb' u) (h3 : ∀ u, u < m → fg u = fg' u) : poss lf lb fg m k = poss lf' lb' fg' m k := by
  refine orN_congr (fun u hu => ?_)
  rw [← h1 u hu, h3 u hu]
  by_cases c : lf u = true
  · rw [h2 u hu c]
  · simp [c]
theorem mrow_swg {μ : Mm} {j k : Ky} {f g f' : Nat → Int32} (h : j ≠ k) : mrow (mrow (mrow μ j f) k g) j f' = mrow (mrow μ j f') k g := by
  rw [mrow_comm g f' (Ne.symm h), mrow_mrow]
theorem mrow_swA {μ : Mm} {a b c d : Nat} {f g f' : Nat → Int32} (h : a ≠ c) : mrow (mrow (mrow μ (a, b) f) (c, d) g) (a, b) f' = mrow (mrow μ (a, b) f') (c, d) g := mrow_swg (fun e => h (congrArg Prod.fst e))
theorem mrow_swB {μ : Mm} {a b d : Nat} {f g f' : Nat → Int32} (h : b ≠ d) : mrow (mrow (mrow μ (a, b) f) (a, d) g) (a, b) f' = mrow (mrow μ (a, b) f') (a, d) g := mrow_swg (fun e => h (congrArg Prod.snd e))
theorem mrow_sw3 {μ : Mm} {a b c d x y : Nat} {f g k f' : Nat → Int32} (h : a ≠ c) (h2 : a ≠ x) : mrow (mrow (mrow (mrow μ (a, b) f) (c, d) g) (x, y) k) (a, b) f' = mrow (mrow (mrow μ (a, b) f') (c, d) g) (x, y) k := by
  rw [mrow_comm k f' (fun e => h2 (congrArg Prod.fst e).symm : (x, y) ≠ (a, b)), mrow_swA h]
def updN (f : Nat → Nat) (k x : Nat) : Nat → Nat := fun j => if j = k then x else f j
theorem updN_ap (f : Nat → Nat) (k x j : Nat) : updN f k x j = if j = k then x else f j := rfl
