-- calls, their throws told: all that asks and changes nothing
/-- both answer alike, or the class throws what the reference tells by its code -/
def AGX (fq : Option (Int32 × Mm)) (gk : Option ((Int32 ⊕ Nat) × Mm)) (μq μk : Mm) (V n N w0 : Nat) (r : Nat → Int32) (md : Nat → Nat) : Prop :=
  (∃ x a b, fq = some (x, a) ∧ gk = some (.inl x, b) ∧ RS a V n N w0 r ∧ QP μq a ∧ FrX μk b) ∨
  (∃ c, gk = some (.inr c, μk) ∧ 1 ≤ md c ∧ md c < 4 ∧ fq = some (0, mst (mst μq (0, 0) 0 (0 : Int32)) (0, 0) 0 (nI (md c))))
/-- no throw is told -/
def AGN (fq : Option (Int32 × Mm)) (fk : Option (Int32 × Mm)) (μq μk : Mm) (V n N w0 : Nat) (r : Nat → Int32) : Prop :=
  ∃ x a b, fq = some (x, a) ∧ fk = some (x, b) ∧ RS a V n N w0 r ∧ QP μq a ∧ FrX μk b
def mdI (c : Nat) : Nat := if c = 1 then 1 else 0
def mdIN (c : Nat) : Nat := if c = 1 then 1 else if c = 2 then 2 else 0
def mdIS (c : Nat) : Nat := if c = 1 then 1 else if c = 4 then 2 else 0
def mdIAS (c : Nat) : Nat := if c = 1 then 1 else if c = 3 then 2 else if c = 4 then 3 else 0
def mdN (c : Nat) : Nat := if c = 2 then 1 else 0
def mdA (c : Nat) : Nat := if c = 3 then 1 else 0
def mdAU (c : Nat) : Nat := if c = 3 then 1 else if c = 5 then 2 else 0
section AGXA
variable {R M : Type} {μ : M} {K : Option ((R ⊕ Nat) × M)}
theorem xb_l {x : Option (Unit ⊕ Nat)} (h : x = some (.inl ())) : xb x μ K = K := by rw [h]; rfl
theorem xb_r {x : Option (Unit ⊕ Nat)} {c : Nat} (h : x = some (.inr c)) : xb x μ K = some (.inr c, μ) := by rw [h]; rfl
theorem ml_s {x : R} {b : M} : ml (some (x, b)) = some (.inl x, b) := rfl
theorem ml0_s {x : R} : ml0 μ (some x) = some (.inl x, μ) := rfl
end AGXA
section AGXB
variable {sh : Sh} {ln : Nat → Nat} {μq μk : Mm} {j V n N w0 : Nat} {r : Nat → Int32} {Λo : Option LW}
theorem NW.run' {X : Type} (hj : NW sh μk j) (x : Option X) : ce (sh 2 j = 1) x = x := by
  unfold ce
  rw [if_pos hj.2.2]
theorem g_needPerson (h : CS ln μk j V n N w0 r) (hj : NW sh μk j) (v : Int32) : (inn v n → g_X10_needPerson sh ln μk v = some (.inl ())) ∧ (¬ inn v n → g_X10_needPerson sh ln μk v = some (.inr 1)) := by
  refine ⟨fun c => ?_, fun c => ?_⟩
  · rw [g_X10_needPerson, hj.run, hj.c, (k_hasP h v).1 c]; rfl
  · rw [g_X10_needPerson, hj.run, hj.c, (k_hasP h v).2 c]; rfl
theorem g_needWorld (h : CS ln μk j V n N w0 r) (hj : NW sh μk j) (v : Int32) : (inn v N → g_X10_needWorld sh ln μk v = some (.inl ())) ∧ (¬ inn v N → g_X10_needWorld sh ln μk v = some (.inr 1)) := by
  refine ⟨fun c => ?_, fun c => ?_⟩
  · rw [g_X10_needWorld, hj.run, hj.c, (k_hasW h v).1 c]; rfl
  · rw [g_X10_needWorld, hj.run, hj.c, (k_hasW h v).2 c]; rfl
theorem g_needNotice (h : CS ln μk j V n N w0 r) (hj : NW sh μk j) (v : Int32) : (inn v V → g_X10_needNotice sh ln μk v = some (.inl ())) ∧ (¬ inn v V → g_X10_needNotice sh ln μk v = some (.inr 1)) := by
  refine ⟨fun c => ?_, fun c => ?_⟩
  · rw [g_X10_needNotice, hj.run, hj.c, (k_hasN h v).1 c]; rfl
  · rw [g_X10_needNotice, hj.run, hj.c, (k_hasN h v).2 c]; rfl
theorem g_needLeft (h : CS ln μk j V n N w0 r) (hj : NW sh μk j) {w : Nat} (hw : w < N) : g_X10_needLeft sh ln μk (nI w) = if lf r w = true then some (.inl ()) else some (.inr 4) := by
  rw [g_X10_needLeft, hj.run, hj.c, k_stands h hw, Option.bind_some]
  cases lf r w <;> rfl
theorem g_needSight (h : CS ln μk j V n N w0 r) (hj : NW sh μk j) {p q : Nat} (hp : p < n) (hq : q < n) : g_X10_needSight sh ln μk (nI p) (nI q) = if (se r p).testBit q = true then some (.inl ()) else some (.inr 4) := by
  rw [g_X10_needSight, hj.run, hj.c, k_hasSight h hp hq, Option.bind_some]
  cases (se r p).testBit q <;> rfl
theorem g_needTwo {p q : Nat} (hp : p < 2147483648) (hq : q < 2147483648) : g_X10_needTwo (nI p) (nI q) = if p = q then some (.inr 3) else some (.inl ()) := by
  have e : (nI p = nI q) = (p = q) := q_eq hp hq
  unfold g_X10_needTwo
  by_cases c : p = q
  · rw [if_pos (e.mpr c), if_pos c]
  · rw [if_neg (fun x => c (e.mp x)), if_neg c]
theorem g_needN (h : CS ln μk j V n N w0 r) (hj : NW sh μk j) (v : Int32) : (ones v n → g_X10_needPersonOrNone sh ln μk v = some (.inl ())) ∧ (¬ ones v n → g_X10_needPersonOrNone sh ln μk v = some (.inr 1)) := by
  have hn := g_needPerson (sh := sh) h hj v
  refine ⟨fun c => ?_, fun c => ?_⟩
  · by_cases c0 : v = (-1 : Int32)
    · rw [g_X10_needPersonOrNone, if_pos c0]
    · rw [g_X10_needPersonOrNone, if_neg c0, hn.1 (c.resolve_left c0)]
  · rw [g_X10_needPersonOrNone, if_neg (show ¬ v = (-1 : Int32) from fun e => c (Or.inl e)), hn.2 (fun e => c (Or.inr e))]
/-- from the calls told before -/
theorem agx_g {fq : Option (Int32 × Mm)} {G : Option (Int32 × Mm)} {md : Nat → Nat} {ok : Prop} {need : Option Unit} {gn : Option (Unit ⊕ Nat)} (h : AG1 fq (need.bind fun _ => G) μq μk V n N w0 r ok) (hn : ok → need = some ()) (hg : (ok → gn = some (.inl ())) ∧ (¬ ok → gn = some (.inr 1))) (h1 : md 1 = 1) :
    AGX fq (xb gn μk (ml G)) μq μk V n N w0 r md := by
  by_cases c : ok
  · obtain ⟨x, a, b, e1, e2, e3⟩ := h.1 c
    rw [hn c, Option.bind_some] at e2
    exact Or.inl ⟨x, a, b, e1, by rw [xb_l (hg.1 c), e2]; rfl, e3⟩
  · refine Or.inr ⟨1, xb_r (hg.2 c), by omega, by omega, ?_⟩
    rw [(h.2 c).2, h1]; rfl
theorem agx_g0 {fq : Option (Int32 × Mm)} {G : Option Int32} {md : Nat → Nat} {ok : Prop} {need : Option Unit} {gn : Option (Unit ⊕ Nat)} (h : AG1 fq (wr μk (need.bind fun _ => G)) μq μk V n N w0 r ok) (hn : ok → need = some ()) (hg : (ok → gn = some (.inl ())) ∧ (¬ ok → gn = some (.inr 1))) (h1 : md 1 = 1) :
    AGX fq (xb gn μk (ml0 μk G)) μq μk V n N w0 r md := by
  by_cases c : ok
  · obtain ⟨x, a, b, e1, e2, e3⟩ := h.1 c
    rw [hn c, Option.bind_some] at e2
    refine Or.inl ⟨x, a, b, e1, ?_, e3⟩
    rw [xb_l (hg.1 c)]
    cases G with
    | none => cases e2
    | some y =>
      have e2' : some (y, μk) = some (x, b) := e2
      cases e2'
      rfl
  · refine Or.inr ⟨1, xb_r (hg.2 c), by omega, by omega, ?_⟩
    rw [(h.2 c).2, h1]; rfl
theorem x_gives (hq : RS μq V n N w0 r) (hk : STR sh ln μk j V n N w0 r Λo) (hL : LN ln) (hj : NW sh μk j) (v : Int32) : AGX (f_X11_gives μq v) (g_X10_gives sh ln μk v) μq μk V n N w0 r mdI := agx_g (c_gives hq hk hL hj v) (k_needPerson hk.1 hj v).1 (g_needPerson hk.1 hj v) rfl
theorem x_never (hq : RS μq V n N w0 r) (hk : STR sh ln μk j V n N w0 r Λo) (hL : LN ln) (hj : NW sh μk j) (v : Int32) : AGX (f_X11_never μq v) (g_X10_never sh ln μk v) μq μk V n N w0 r mdI := agx_g (c_never hq hk hL hj v) (k_needPerson hk.1 hj v).1 (g_needPerson hk.1 hj v) rfl
theorem x_backs (hq : RS μq V n N w0 r) (hk : STR sh ln μk j V n N w0 r Λo) (hL : LN ln) (hj : NW sh μk j) (v : Int32) : AGX (f_X11_backs μq v) (g_X10_backs sh ln μk v) μq μk V n N w0 r mdI := agx_g (c_backs hq hk hL hj v) (k_needPerson hk.1 hj v).1 (g_needPerson hk.1 hj v) rfl
theorem x_question (hq : RS μq V n N w0 r) (hk : STR sh ln μk j V n N w0 r Λo) (hL : LN ln) (hj : NW sh μk j) (v : Int32) : AGX (f_X11_question μq v) (g_X10_question sh ln μk v) μq μk V n N w0 r mdI := agx_g (c_question hq hk hL hj v) (k_needPerson hk.1 hj v).1 (g_needPerson hk.1 hj v) rfl
theorem x_spill (hq : RS μq V n N w0 r) (hk : STR sh ln μk j V n N w0 r Λo) (hL : LN ln) (hj : NW sh μk j) (v : Int32) : AGX (f_X11_spill μq v) (g_X10_spill sh ln μk v) μq μk V n N w0 r mdI := agx_g (c_spill hq hk hL hj v) (k_needPerson hk.1 hj v).1 (g_needPerson hk.1 hj v) rfl
theorem x_common (hq : RS μq V n N w0 r) (hk : STR sh ln μk j V n N w0 r Λo) (hL : LN ln) (hj : NW sh μk j) (v : Int32) : AGX (f_X11_common μq v) (g_X10_common sh ln μk v) μq μk V n N w0 r mdI := agx_g (c_common hq hk hL hj v) (k_needPerson hk.1 hj v).1 (g_needPerson hk.1 hj v) rfl
theorem x_queries (hq : RS μq V n N w0 r) (hk : STR sh ln μk j V n N w0 r Λo) (hL : LN ln) (hj : NW sh μk j) (v : Int32) : AGX (f_X11_queries μq v) (g_X10_queries sh ln μk v) μq μk V n N w0 r mdI := agx_g (c_queries hq hk hL hj v) (k_needPerson hk.1 hj v).1 (g_needPerson hk.1 hj v) rfl
theorem x_muddy (hq : RS μq V n N w0 r) (hk : STR sh ln μk j V n N w0 r Λo) (hL : LN ln) (hj : NW sh μk j) (v : Int32) : AGX (f_X11_muddy μq v) (g_X10_muddy sh ln μk v) μq μk V n N w0 r mdI := agx_g (c_muddy hq hk hL hj v) (k_needN hk.1 hj v).1 (g_needN hk.1 hj v) rfl
theorem x_right (hq : RS μq V n N w0 r) (hk : STR sh ln μk j V n N w0 r Λo) (hL : LN ln) (hj : NW sh μk j) (v : Int32) : AGX (f_X11_right μq v) (g_X10_right sh ln μk v) μq μk V n N w0 r mdI := agx_g (c_right hq hk hL hj v) (k_needN hk.1 hj v).1 (g_needN hk.1 hj v) rfl
theorem x_married (hq : RS μq V n N w0 r) (hk : STR sh ln μk j V n N w0 r Λo) (hL : LN ln) (hj : NW sh μk j) (v : Int32) : AGX (f_X11_married μq v) (g_X10_married sh ln μk v) μq μk V n N w0 r mdI := agx_g (c_married hq hk hL hj v) (k_needN hk.1 hj v).1 (g_needN hk.1 hj v) rfl
theorem x_game (hq : RS μq V n N w0 r) (hk : STR sh ln μk j V n N w0 r Λo) (hL : LN ln) (hj : NW sh μk j) (v : Int32) (whom : Bool) : AGX (f_X11_game μq v (bI whom)) (g_X10_game sh ln μk v (bI whom)) μq μk V n N w0 r mdI := agx_g (c_game hq hk hL hj v whom) (k_needPerson hk.1 hj v).1 (g_needPerson hk.1 hj v) rfl
theorem x_guess (hq : RS μq V n N w0 r) (hk : STR sh ln μk j V n N w0 r Λo) (hL : LN ln) (hj : NW sh μk j) (v : Int32) : AGX (f_X11_guess μq v) (g_X10_guess sh ln μk v) μq μk V n N w0 r mdI := agx_g (c_guess hq hk hL hj v) (k_needPerson hk.1 hj v).1 (g_needPerson hk.1 hj v) rfl
theorem x_led (hq : RS μq V n N w0 r) (hk : STR sh ln μk j V n N w0 r Λo) (hL : LN ln) (hj : NW sh μk j) (v : Int32) : AGX (f_X11_led μq v) (g_X10_led sh ln μk v) μq μk V n N w0 r mdI := agx_g0 (c_led hq hk hj v) (k_needPerson hk.1 hj v).1 (g_needPerson hk.1 hj v) rfl
theorem x_nth (hq : RS μq V n N w0 r) (hk : STR sh ln μk j V n N w0 r Λo) (hL : LN ln) (hj : NW sh μk j) (v w : Int32) : AGX (f_X11_nth μq v w) (g_X10_nth sh ln μk v w) μq μk V n N w0 r mdI := agx_g0 (c_nth hq hk hj v w) (k_needN hk.1 hj v).1 (g_needN hk.1 hj v) rfl
theorem x_left (hq : RS μq V n N w0 r) (hk : STR sh ln μk j V n N w0 r Λo) (hL : LN ln) (hj : NW sh μk j) (v : Int32) : AGX (f_X11_left μq v) (g_X10_left sh ln μk v) μq μk V n N w0 r mdI := agx_g0 (c_left hq hk hj v) (k_needWorld hk.1 hj v).1 (g_needWorld hk.1 hj v) rfl
/-- two people -/
theorem agx_2 {fq : Option (Int32 × Mm)} {K : Option ((Int32 ⊕ Nat) × Mm)} (hC : CS ln μk j V n N w0 r) (hj : NW sh μk j) (v1 v2 : Int32)
    (h0 : ¬ (inn v1 n ∧ inn v2 n) → fq = some (0, mst (mst μq (0, 0) 0 (0 : Int32)) (0, 0) 0 1))
    (hb : ∀ p q, p < n → q < n → v1 = nI p → v2 = nI q → ∃ x a b, fq = some (x, a) ∧ K = some (.inl x, b) ∧ RS a V n N w0 r ∧ QP μq a ∧ FrX μk b) :
    AGX fq (xb (g_X10_needPerson sh ln μk v1) μk (xb (g_X10_needPerson sh ln μk v2) μk K)) μq μk V n N w0 r mdI := by
  have g1 := g_needPerson (sh := sh) hC hj v1
  have g2 := g_needPerson (sh := sh) hC hj v2
  by_cases c1 : inn v1 n
  · by_cases c2 : inn v2 n
    · obtain ⟨p, hp, e1⟩ := c1
      obtain ⟨q, hq2, e2⟩ := c2
      obtain ⟨x, a, b, k1, k2, k3⟩ := hb p q hp hq2 e1 e2
      exact Or.inl ⟨x, a, b, k1, by rw [xb_l (g1.1 ⟨p, hp, e1⟩), xb_l (g2.1 ⟨q, hq2, e2⟩)]; exact k2, k3⟩
    · exact Or.inr ⟨1, by rw [xb_l (g1.1 c1), xb_r (g2.2 c2)], by decide, by decide, h0 (fun e => c2 e.2)⟩
  · exact Or.inr ⟨1, by rw [xb_r (g1.2 c1)], by decide, by decide, h0 (fun e => c1 e.1)⟩
theorem x_steps (hq : RS μq V n N w0 r) (hk : STR sh ln μk j V n N w0 r Λo) (hL : LN ln) (hj : NW sh μk j) (v1 v2 : Int32) : AGX (f_X11_steps μq v1 v2) (g_X10_steps sh ln μk v1 v2) μq μk V n N w0 r mdI := by
  have hc := c_steps (sh := sh) hq hk hj v1 v2
  refine agx_2 hk.1 hj v1 v2 (fun c => (hc.2 c).2) (fun p q hp hq2 e1 e2 => ?_)
  obtain ⟨x, a, b, k1, k2, k3⟩ := hc.1 ⟨⟨p, hp, e1⟩, ⟨q, hq2, e2⟩⟩
  refine ⟨x, a, b, k1, ?_, k3⟩
  have n1 := (k_needPerson (sh := sh) hk.1 hj v1).1 ⟨p, hp, e1⟩
  have n2 := (k_needPerson (sh := sh) hk.1 hj v2).1 ⟨q, hq2, e2⟩
  rw [f_X10_steps, n1, Option.bind_some, n2, Option.bind_some] at k2
  revert k2
  generalize (ce (sh 2 ((μk (0, 0) 9).toNatClampNeg) = 1) ((f_X5_stepsBetween sh ln ((μk (0, 0) 9).toNatClampNeg) μk v1 v2).bind fun x20 => some x20)) = G
  intro k2
  cases G with
  | none => cases k2
  | some y =>
    have e2' : some (y, μk) = some (x, b) := k2
    cases e2'
    rfl
theorem q_2 (hq : RS μq V n N w0 r) {body : Mm → Option (Int32 × Mm)} {v1 v2 : Int32} {J : Int32 → Option (Int32 × Mm)} (hJ : ∀ s, J s = ((f_X11_throwsIf (mst μq (0, 0) 0 (0 : Int32)) s (1 : Int32)).bind fun x28 => if x28.1 = 0 then body x28.2 else (some ((0 : Int32), x28.2)))) {fq : Option (Int32 × Mm)}
    (e : fq = ((f_X11_noPerson (mst μq (0, 0) 0 (0 : Int32)) v1).bind fun x8 => if x8 = 0 then (f_X11_noPerson (mst μq (0, 0) 0 (0 : Int32)) v2).bind fun x16 => if x16 = 0 then J 0 else J 1 else J 1)) :
    (inn v1 n ∧ inn v2 n → fq = body (mst μq (0, 0) 0 (0 : Int32))) ∧ (¬ (inn v1 n ∧ inn v2 n) → fq = some (0, mst (mst μq (0, 0) 0 (0 : Int32)) (0, 0) 0 1)) := by
  rw [e]
  exact q_call2 (hq.z 0) v1 v2 hJ
theorem x_possible (hq : RS μq V n N w0 r) (hk : STR sh ln μk j V n N w0 r Λo) (hL : LN ln) (hj : NW sh μk j) (v1 v2 : Int32) : AGX (f_X11_possible μq v1 v2) (g_X10_possible sh ln μk v1 v2) μq μk V n N w0 r mdI := by
  have hb := hk.1.1.b
  have hc := q_2 hq (fq := f_X11_possible μq v1 v2) (v1 := v1) (v2 := v2) (body := fun m => (f_X11_here m).bind fun x42 => (f_X11_possibleOf m v1 v2 x42).bind fun x45 => some (x45.1, x45.2)) (J := fun s => (f_X11_throwsIf (mst μq (0, 0) 0 (0 : Int32)) s (1 : Int32)).bind fun x28 => if x28.1 = 0 then (f_X11_here x28.2).bind fun x42 => (f_X11_possibleOf x28.2 v1 v2 x42).bind fun x45 => some (x45.1, x45.2) else (some ((0 : Int32), x28.2))) (fun s => rfl) rfl
  refine agx_2 hk.1 hj v1 v2 hc.2 (fun p q hp hq2 e1 e2 => ?_)
  have k1 := hc.1 ⟨⟨p, hp, e1⟩, ⟨q, hq2, e2⟩⟩
  subst e1
  subst e2
  obtain ⟨R, e3⟩ := q_possibleOf (hq.z 0) hp hq2 hb.2.2.2.2.2
  have e4 := k_possible (sh := sh) hk.1 hk.1.stl hk.1.stay hp hq2 hb.2.2.2.2.2
  refine ⟨nI (poss (lf r) (lab r p) (fig V n q) N (lab r p w0)), mrow (mst μq (0, 0) 0 (0 : Int32)) (8, 0) R, μk, ?_, ?_, ((hq.z 0).row (a := 8) (b := 0) R (by omega)), QP.of (S := [8]) (Fr.rf.mr (by decide)) (qok (by decide)), FrX.rf⟩
  · rw [k1]
    show ((f_X11_here (mst μq (0, 0) 0 (0 : Int32))).bind fun x42 => _) = _
    rw [q_here (hq.z 0), Option.bind_some, e3]; rfl
  · simp only [hj.c, hj.run', hk.1.c3, e4, Option.bind_some, ml0_s]
theorem x_knows (hq : RS μq V n N w0 r) (hk : STR sh ln μk j V n N w0 r Λo) (hL : LN ln) (hj : NW sh μk j) (v1 v2 : Int32) : AGX (f_X11_knows μq v1 v2) (g_X10_knows sh ln μk v1 v2) μq μk V n N w0 r mdI := by
  have hb := hk.1.1.b
  have hc := q_2 hq (fq := f_X11_knows μq v1 v2) (v1 := v1) (v2 := v2) (body := fun m => (f_X11_here m).bind fun x42 => (f_X11_possibleOf m v1 v2 x42).bind fun x45 => (f_X11_onlyOne x45.1).bind fun x48 => some (x48, x45.2)) (J := fun s => (f_X11_throwsIf (mst μq (0, 0) 0 (0 : Int32)) s (1 : Int32)).bind fun x28 => if x28.1 = 0 then (f_X11_here x28.2).bind fun x42 => (f_X11_possibleOf x28.2 v1 v2 x42).bind fun x45 => (f_X11_onlyOne x45.1).bind fun x48 => some (x48, x45.2) else (some ((0 : Int32), x28.2))) (fun s => rfl) rfl
  refine agx_2 hk.1 hj v1 v2 hc.2 (fun p q hp hq2 e1 e2 => ?_)
  have k1 := hc.1 ⟨⟨p, hp, e1⟩, ⟨q, hq2, e2⟩⟩
  subst e1
  subst e2
  obtain ⟨R, e3⟩ := q_possibleOf (hq.z 0) hp hq2 hb.2.2.2.2.2
  have e4 := k_possible (sh := sh) hk.1 hk.1.stl hk.1.stay hp hq2 hb.2.2.2.2.2
  have h16 : poss (lf r) (lab r p) (fig V n q) N (lab r p w0) < 16 := poss_16 ⟨hb.1, hb.2.1⟩
  have hne : poss (lf r) (lab r p) (fig V n q) N (lab r p w0) ≠ 0 := poss_ne0 hb.2.2.2.2.2 hk.1.1.h0
  refine ⟨oo (poss (lf r) (lab r p) (fig V n q) N (lab r p w0)), mrow (mst μq (0, 0) 0 (0 : Int32)) (8, 0) R, μk, ?_, ?_, ((hq.z 0).row (a := 8) (b := 0) R (by omega)), QP.of (S := [8]) (Fr.rf.mr (by decide)) (qok (by decide)), FrX.rf⟩
  · rw [k1]
    show ((f_X11_here (mst μq (0, 0) 0 (0 : Int32))).bind fun x42 => _) = _
    rw [q_here (hq.z 0), Option.bind_some, e3, Option.bind_some, q_onlyOne (by omega) hne, Option.bind_some]
  · simp only [hj.c, hj.run', hk.1.c3, e4, Option.bind_some, k_onlyOne (show poss (lf r) (lab r p) (fig V n q) N (lab r p w0) < 512 by omega), ml0_s]
end AGXB
