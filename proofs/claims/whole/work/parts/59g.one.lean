-- calls of one person, reference and class
/-- what a query leaves in the reference -/
def QP (μ a : Mm) : Prop := a (0, 0) = upd (μ (0, 0)) 0 (nI 0) ∧ a (2, 0) = μ (2, 0) ∧ a (5, 0) = μ (5, 0) ∧ a (11, 0) = μ (11, 0)
def QOK (S : List Nat) : Prop := 0 ∉ S ∧ 2 ∉ S ∧ 5 ∉ S ∧ 11 ∉ S
theorem QP.of {S : List Nat} {μ a : Mm} (hF : Fr S (mst μ (0, 0) 0 (0 : Int32)) a) (h : QOK S) : QP μ a := by
  rw [mst_row] at hF
  refine ⟨?_, ?_, ?_, ?_⟩
  · rw [hF 0 h.1, mrow_self]; rfl
  · rw [hF 2 h.2.1, mrow_neA (by omega)]
  · rw [hF 5 h.2.2.1, mrow_neA (by omega)]
  · rw [hF 11 h.2.2.2, mrow_neA (by omega)]
/-- both answer alike where it may be asked; else nothing happens, and a code is told -/
def AG1 (fq fk : Option (Int32 × Mm)) (μq μk : Mm) (V n N w0 : Nat) (r : Nat → Int32) (ok : Prop) : Prop :=
  (ok → ∃ x a b, fq = some (x, a) ∧ fk = some (x, b) ∧ RS a V n N w0 r ∧ QP μq a ∧ FrX μk b) ∧ (¬ ok → fk = none ∧ fq = some (0, mst (mst μq (0, 0) 0 (0 : Int32)) (0, 0) 0 1))
section ONEC
variable {sh : Sh} {ln : Nat → Nat} {μq μk : Mm} {j V n N w0 : Nat} {r : Nat → Int32} {Λo : Option LW}
theorem c_one (hq : RS μq V n N w0 r) (hC : CS ln μk j V n N w0 r) (hj : NW sh μk j) {body : Mm → Option (Int32 × Mm)} {G : Option (Int32 × Mm)} (v : Int32)
    (hb : ∀ p, p < n → v = nI p → ∃ x S a b, body (mst μq (0, 0) 0 (0 : Int32)) = some (x, a) ∧ RS a V n N w0 r ∧ Fr S (mst μq (0, 0) 0 (0 : Int32)) a ∧ QOK S ∧ G = some (x, b) ∧ FrX μk b) :
    AG1 ((f_X11_noPerson (mst μq (0, 0) 0 (0 : Int32)) v).bind fun x8 => (f_X11_throwsIf (mst μq (0, 0) 0 (0 : Int32)) x8 (1 : Int32)).bind fun x12 => if x12.1 = 0 then body x12.2 else (some ((0 : Int32), x12.2)))
      ((f_X10_needPerson sh ln μk v).bind fun _ => ce (sh 2 j = 1) (G.bind fun x14 => some (x14.1, x14.2))) μq μk V n N w0 r (inn v n) := by
  have hc := q_call1 (hq.z 0) (body := body) v
  have hn := k_needPerson hC hj v
  refine ⟨fun hi => ?_, fun hi => ⟨by rw [hn.2 hi]; rfl, hc.2 hi⟩⟩
  obtain ⟨p, hp, e⟩ := hi
  obtain ⟨x, S, a, b, e1, hR, hF, hS, e2, hX⟩ := hb p hp e
  refine ⟨x, a, b, ?_, ?_, hR, QP.of hF hS, hX⟩
  · rw [hc.1 ⟨p, hp, e⟩]; exact e1
  · rw [hn.1 ⟨p, hp, e⟩, Option.bind_some, e2]
    unfold ce
    rw [if_pos hj.2.2]; rfl
theorem qok {S : List Nat} (h : (0 ∉ S ∧ 2 ∉ S) ∧ 5 ∉ S ∧ 11 ∉ S) : QOK S := ⟨h.1.1, h.1.2, h.2.1, h.2.2⟩
theorem c_gives (hq : RS μq V n N w0 r) (hk : STR sh ln μk j V n N w0 r Λo) (hL : LN ln) (hj : NW sh μk j) (v : Int32) : AG1 (f_X11_gives μq v) (f_X10_gives sh ln μk v) μq μk V n N w0 r (inn v n) := by
  rw [f_X11_gives, f_X10_gives, hj.c]
  refine c_one hq hk.1 hj (body := fun m => Wh (fun z : Mm × Int32 × Int32 => f_X11_gives_L24 v z.1 z.2.1 z.2.2) (m, (0 : Int32), (0 : Int32))) v (fun p hp e => ?_)
  subst e
  obtain ⟨a, e1, hF⟩ := q_gives (hq.z 0) hk.2.2.2.1 hp
  obtain ⟨b, e2, hF2⟩ := k_gives (sh := sh) hk.1 hL hk.2.2.1 hk.2.2.2.2.1 hp
  exact ⟨_, _, a, b, e1, (hq.z 0).fr hF (by decide), hF, qok (by decide), e2, hF2.X (fun c hc => by omega)⟩
theorem c_never (hq : RS μq V n N w0 r) (hk : STR sh ln μk j V n N w0 r Λo) (hL : LN ln) (hj : NW sh μk j) (v : Int32) : AG1 (f_X11_never μq v) (f_X10_never sh ln μk v) μq μk V n N w0 r (inn v n) := by
  rw [f_X11_never, f_X10_never, hj.c]
  refine c_one hq hk.1 hj (body := fun m => Wh (fun z : Mm × Int32 × Int32 => f_X11_never_L24 v z.1 z.2.1 z.2.2) (m, (0 : Int32), (0 : Int32))) v (fun p hp e => ?_)
  subst e
  obtain ⟨a, e1, hF⟩ := q_never (hq.z 0) hk.2.2.2.1 hp
  obtain ⟨b, e2, hF2⟩ := k_never (sh := sh) hk.1 hL hk.2.2.1 hk.2.2.2.2.1 hp
  exact ⟨_, _, a, b, e1, (hq.z 0).fr hF (by decide), hF, qok (by decide), e2, hF2.X (fun c hc => by omega)⟩
theorem c_backs (hq : RS μq V n N w0 r) (hk : STR sh ln μk j V n N w0 r Λo) (hL : LN ln) (hj : NW sh μk j) (v : Int32) : AG1 (f_X11_backs μq v) (f_X10_backs sh ln μk v) μq μk V n N w0 r (inn v n) := by
  rw [f_X11_backs, f_X10_backs, hj.c]
  refine c_one hq hk.1 hj (body := fun m => (f_X11_keepsLeft m).bind fun x21 => Wh (fun z : Mm × Int32 × Int32 => f_X11_backs_L29 v z.1 z.2.1 z.2.2) (x21, (-2 : Int32), (0 : Int32))) v (fun p hp e => ?_)
  subst e
  obtain ⟨a, e1, hR, hF⟩ := q_backs (hq.z 0) hp
  obtain ⟨b, e2, hF2⟩ := k_backs (sh := sh) hk.1 hL hp
  exact ⟨_, _, a, b, e1, hR, hF, qok (by decide), e2, hF2⟩
theorem c_question (hq : RS μq V n N w0 r) (hk : STR sh ln μk j V n N w0 r Λo) (hL : LN ln) (hj : NW sh μk j) (v : Int32) : AG1 (f_X11_question μq v) (f_X10_question sh ln μk v) μq μk V n N w0 r (inn v n) := by
  rw [f_X11_question, f_X10_question, hj.c]
  refine c_one hq hk.1 hj (body := fun m => (f_X11_questionFor m v).bind fun x24 => some (x24.1, x24.2)) v (fun p hp e => ?_)
  subst e
  obtain ⟨a, hR, hF, e1⟩ := q_question (hq.z 0) hp
  obtain ⟨b, _, hF2, e2⟩ := k_question (sh := sh) hk.1 hL hp
  exact ⟨_, _, a, b, by rw [e1]; rfl, hR, hF, qok (by decide), e2, hF2.X (fun c hc => by omega)⟩
theorem c_spill (hq : RS μq V n N w0 r) (hk : STR sh ln μk j V n N w0 r Λo) (hL : LN ln) (hj : NW sh μk j) (v : Int32) : AG1 (f_X11_spill μq v) (f_X10_spill sh ln μk v) μq μk V n N w0 r (inn v n) := by
  rw [f_X11_spill, f_X10_spill, hj.c]
  refine c_one hq hk.1 hj (body := fun m => (f_X11_spills m v).bind fun x24 => some (x24.1, x24.2)) v (fun p hp e => ?_)
  subst e
  obtain ⟨a, e1, hR, hF⟩ := q_spills (hq.z 0) hp
  obtain ⟨C, e2⟩ := k_spilled (sh := sh) hk.1 hL hp
  exact ⟨_, _, a, _, by rw [e1]; rfl, hR, hF, qok (by decide), e2, ((FrC.rf (P := fun c => 1 ≤ c ∧ c < 15)).mr (by omega)).X (fun c hc => hc)⟩
theorem c_common (hq : RS μq V n N w0 r) (hk : STR sh ln μk j V n N w0 r Λo) (hL : LN ln) (hj : NW sh μk j) (v : Int32) : AG1 (f_X11_common μq v) (f_X10_common sh ln μk v) μq μk V n N w0 r (inn v n) := by
  rw [f_X11_common, f_X10_common, hj.c]
  refine c_one hq hk.1 hj (body := fun m => Wh (fun z : Mm × Int32 => f_X11_common_L22 v z.1 z.2) (m, (0 : Int32))) v (fun p hp e => ?_)
  subst e
  obtain ⟨a, e1, hF⟩ := q_common (hq.z 0) hp
  obtain ⟨b, e2, hF2⟩ := k_common (sh := sh) hk.1 hL hp
  exact ⟨_, _, a, b, e1, (hq.z 0).fr hF (by decide), hF, qok (by decide), e2, hF2.X (fun c hc => by omega)⟩
theorem c_guess (hq : RS μq V n N w0 r) (hk : STR sh ln μk j V n N w0 r Λo) (hL : LN ln) (hj : NW sh μk j) (v : Int32) : AG1 (f_X11_guess μq v) (f_X10_guess sh ln μk v) μq μk V n N w0 r (inn v n) := by
  have hb := hk.1.1.b
  have ece : ∀ {X : Type} (x : Option X), ce (sh 2 j = 1) x = x := fun x => by unfold ce; rw [if_pos hj.2.2]
  have e0 : f_X10_guess sh ln μk v = ((f_X10_needPerson sh ln μk v).bind fun _ => ce (sh 2 j = 1) ((f_X4_guessIn sh ln j μk v (nI w0)).bind fun x14 => some (x14.1, x14.2))) := by
    rw [f_X10_guess, hj.c, hk.1.c3]
    simp only [ece]
  rw [f_X11_guess, e0]
  refine c_one hq hk.1 hj (body := fun m => (f_X11_laysVotes m v).bind fun x22 => (f_X11_here x22).bind fun x28 => (f_X11_guessOf x22 v x28).bind fun x31 => some (x31, x22)) v (fun p hp e => ?_)
  subst e
  obtain ⟨R, e1, hR⟩ := q_laysVotes (hq.z 0) hp
  have h1 := (hq.z 0).row (a := 32) (b := 0) R (by omega)
  have e2 := q_guessOf h1 hp hb.2.2.2.2.2 (fun g v hg hv => by rw [mrow_self]; exact hR g v hg hv)
  obtain ⟨R2, e3⟩ := k_guess (sh := sh) hk.1 hL hp hb.2.2.2.2.2
  exact ⟨_, [32], _, _, by rw [e1, Option.bind_some, q_here h1, Option.bind_some, e2, Option.bind_some], h1, Fr.rf.mr (by decide), qok (by decide), e3, ((FrC.rf (P := fun c => 1 ≤ c ∧ c < 15)).mr (by omega)).X (fun c hc => hc)⟩
end ONEC
