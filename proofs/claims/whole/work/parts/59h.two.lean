-- calls of one person or none, and others
def ones (v : Int32) (n : Nat) : Prop := v = -nI 1 ∨ inn v n
section TWOC
variable {sh : Sh} {ln : Nat → Nat} {μq μk : Mm} {j V n N w0 : Nat} {r : Nat → Int32} {Λo : Option LW}
theorem q_callN {μ : Mm} (h : RS μ V n N w0 r) {body : Mm → Option (Int32 × Mm)} (v : Int32) :
    (ones v n → (if v = (-1 : Int32) then ((f_X11_throwsIf μ (0 : Int32) (1 : Int32)).bind fun x25 => if x25.1 = 0 then body x25.2 else (some ((0 : Int32), x25.2))) else ((f_X11_noPerson μ v).bind fun x13 => if x13 = 0 then ((f_X11_throwsIf μ (0 : Int32) (1 : Int32)).bind fun x25 => if x25.1 = 0 then body x25.2 else (some ((0 : Int32), x25.2))) else ((f_X11_throwsIf μ (1 : Int32) (1 : Int32)).bind fun x25 => if x25.1 = 0 then body x25.2 else (some ((0 : Int32), x25.2))))) = body μ) ∧
    (¬ ones v n → (if v = (-1 : Int32) then ((f_X11_throwsIf μ (0 : Int32) (1 : Int32)).bind fun x25 => if x25.1 = 0 then body x25.2 else (some ((0 : Int32), x25.2))) else ((f_X11_noPerson μ v).bind fun x13 => if x13 = 0 then ((f_X11_throwsIf μ (0 : Int32) (1 : Int32)).bind fun x25 => if x25.1 = 0 then body x25.2 else (some ((0 : Int32), x25.2))) else ((f_X11_throwsIf μ (1 : Int32) (1 : Int32)).bind fun x25 => if x25.1 = 0 then body x25.2 else (some ((0 : Int32), x25.2))))) = some (0, mst μ (0, 0) 0 1)) := by
  have t0 : f_X11_throwsIf μ (0 : Int32) (1 : Int32) = some (nI 0, μ) := q_thr0
  have t1 : f_X11_throwsIf μ (1 : Int32) (1 : Int32) = some (nI 1, mst μ (0, 0) 0 1) := q_thr1
  refine ⟨fun c => ?_, fun c => ?_⟩
  · by_cases c0 : v = (-1 : Int32)
    · rw [if_pos c0, t0, Option.bind_some, if_pos (show (nI 0, μ).1 = 0 from rfl)]
    · have ci : inn v n := c.resolve_left c0
      rw [if_neg c0, (q_noPerson h v).1 ci, Option.bind_some, if_pos (show nI 0 = 0 from rfl), t0, Option.bind_some, if_pos (show (nI 0, μ).1 = 0 from rfl)]
  · have c0 : ¬ v = (-1 : Int32) := fun e => c (Or.inl e)
    have ci : ¬ inn v n := fun e => c (Or.inr e)
    rw [if_neg c0, (q_noPerson h v).2 ci, Option.bind_some, if_neg (show ¬ nI 1 = 0 by decide), t1, Option.bind_some, if_neg (fun e => absurd (show nI 1 = 0 from e) (by decide))]
theorem k_needN (hC : CS ln μk j V n N w0 r) (hj : NW sh μk j) (v : Int32) : (ones v n → f_X10_needPersonOrNone sh ln μk v = some ()) ∧ (¬ ones v n → f_X10_needPersonOrNone sh ln μk v = none) := by
  have hn := k_needPerson (sh := sh) hC hj v
  refine ⟨fun c => ?_, fun c => ?_⟩
  · by_cases c0 : v = (-1 : Int32)
    · rw [f_X10_needPersonOrNone, if_pos c0]
    · rw [f_X10_needPersonOrNone, if_neg c0, hn.1 (c.resolve_left c0)]; rfl
  · rw [f_X10_needPersonOrNone, if_neg (show ¬ v = (-1 : Int32) from fun e => c (Or.inl e)), hn.2 (fun e => c (Or.inr e))]; rfl
theorem c_onb (hq : RS μq V n N w0 r) (hC : CS ln μk j V n N w0 r) (hj : NW sh μk j) {body : Mm → Option (Int32 × Mm)} {G : Option (Int32 × Mm)} (v : Int32)
    (hb : ones v n → ∃ x S a b, body (mst μq (0, 0) 0 (0 : Int32)) = some (x, a) ∧ RS a V n N w0 r ∧ Fr S (mst μq (0, 0) 0 (0 : Int32)) a ∧ QOK S ∧ G = some (x, b) ∧ FrX μk b) :
    AG1 (if v = (-1 : Int32) then ((f_X11_throwsIf (mst μq (0, 0) 0 (0 : Int32)) (0 : Int32) (1 : Int32)).bind fun x25 => if x25.1 = 0 then body x25.2 else (some ((0 : Int32), x25.2))) else ((f_X11_noPerson (mst μq (0, 0) 0 (0 : Int32)) v).bind fun x13 => if x13 = 0 then ((f_X11_throwsIf (mst μq (0, 0) 0 (0 : Int32)) (0 : Int32) (1 : Int32)).bind fun x25 => if x25.1 = 0 then body x25.2 else (some ((0 : Int32), x25.2))) else ((f_X11_throwsIf (mst μq (0, 0) 0 (0 : Int32)) (1 : Int32) (1 : Int32)).bind fun x25 => if x25.1 = 0 then body x25.2 else (some ((0 : Int32), x25.2)))))
      ((f_X10_needPersonOrNone sh ln μk v).bind fun _ => ce (sh 2 j = 1) (G.bind fun x14 => some (x14.1, x14.2))) μq μk V n N w0 r (ones v n) := by
  have hc := q_callN (hq.z 0) (body := body) v
  have hn := k_needN hC hj v
  refine ⟨fun hi => ?_, fun hi => ⟨by rw [hn.2 hi]; rfl, hc.2 hi⟩⟩
  obtain ⟨x, S, a, b, e1, hR, hF, hS, e2, hX⟩ := hb hi
  refine ⟨x, a, b, ?_, ?_, hR, QP.of hF hS, hX⟩
  · rw [hc.1 hi]; exact e1
  · rw [hn.1 hi, Option.bind_some, e2]
    unfold ce
    rw [if_pos hj.2.2]; rfl
theorem c_queries (hq : RS μq V n N w0 r) (hk : STR sh ln μk j V n N w0 r Λo) (hL : LN ln) (hj : NW sh μk j) (v : Int32) : AG1 (f_X11_queries μq v) (f_X10_queries sh ln μk v) μq μk V n N w0 r (inn v n) := by
  rw [f_X11_queries, f_X10_queries, hj.c]
  refine c_one hq hk.1 hj (body := fun m => (f_X11_people m).bind fun x21 => if x21 ≤ (6 : Int32) then (f_X11_here m).bind fun x35 => (f_X11_isSure m v x35).bind fun x38 => if x38.1 = 0 then (f_X11_questionFor x38.2 v).bind fun x48 => if x48.1 < 0 then Wh (fun z : Mm × Int32 => f_X11_queries_L58 v z.1 z.2) (x48.2, (0 : Int32)) else (some ((1 : Int32), x48.2)) else (some ((0 : Int32), x38.2)) else (some ((-3 : Int32), m))) v (fun p hp e => ?_)
  subst e
  obtain ⟨a, hR, hF, e1⟩ := q_queries (hq.z 0) hp
  obtain ⟨b, _, hF2, e2⟩ := k_queries (sh := sh) hk.1 hL hp
  exact ⟨_, _, a, b, e1, hR, hF, qok (by decide), e2, hF2.X (fun c hc => by omega)⟩
theorem c_muddy (hq : RS μq V n N w0 r) (hk : STR sh ln μk j V n N w0 r Λo) (hL : LN ln) (hj : NW sh μk j) (v : Int32) : AG1 (f_X11_muddy μq v) (f_X10_muddy sh ln μk v) μq μk V n N w0 r (ones v n) := by
  rw [f_X11_muddy, f_X10_muddy, hj.c]
  refine c_onb hq hk.1 hj (body := fun m => (f_X11_keepsLeft m).bind fun x34 => Wh (fun z : Mm × Int32 × Int32 => f_X11_muddy_L41 v z.1 z.2.1 z.2.2) (x34, (-1 : Int32), (0 : Int32))) v (fun hi => ?_)
  have hv : ∃ P, mdP n v P := by
    rcases hi with e | ⟨p, hp, e⟩
    · exact ⟨_, Or.inl ⟨e, rfl⟩⟩
    · exact ⟨_, Or.inr ⟨p, hp, e, rfl⟩⟩
  obtain ⟨P, hP⟩ := hv
  obtain ⟨a, e1, hR, hF⟩ := q_muddy (hq.z 0) hP
  obtain ⟨b, e2, hF2⟩ := k_muddy (sh := sh) hk.1 hL hP
  exact ⟨_, _, a, b, e1, ⟨hR, hq.2⟩, hF, qok (by decide), e2, hF2.X (fun c hc => hc)⟩
theorem c_right (hq : RS μq V n N w0 r) (hk : STR sh ln μk j V n N w0 r Λo) (hL : LN ln) (hj : NW sh μk j) (v : Int32) : AG1 (f_X11_right μq v) (f_X10_right sh ln μk v) μq μk V n N w0 r (ones v n) := by
  rw [f_X11_right, f_X10_right, hj.c]
  refine c_onb hq hk.1 hj (body := fun m => Wh (fun z : Mm × Int32 => f_X11_right_L35 v z.1 z.2) (m, (0 : Int32))) v (fun hi => ?_)
  have hv : ∃ P : Nat → Bool, (v = -nI 1 ∧ P = fun _ => true) ∨ (∃ p0, p0 < n ∧ v = nI p0 ∧ P = fun p => decide (p = p0)) := by
    rcases hi with e | ⟨p, hp, e⟩
    · exact ⟨_, Or.inl ⟨e, rfl⟩⟩
    · exact ⟨_, Or.inr ⟨p, hp, e, rfl⟩⟩
  obtain ⟨P, hP⟩ := hv
  obtain ⟨a, e1, hF⟩ := q_right (hq.z 0) hP
  obtain ⟨b, e2, hF2⟩ := k_right (sh := sh) hk.1 hL hP
  exact ⟨_, _, a, b, e1, (hq.z 0).fr hF (by decide), hF, qok (by decide), e2, hF2.X (fun c hc => by omega)⟩
theorem c_game (hq : RS μq V n N w0 r) (hk : STR sh ln μk j V n N w0 r Λo) (hL : LN ln) (hj : NW sh μk j) (v : Int32) (whom : Bool) : AG1 (f_X11_game μq v (bI whom)) (f_X10_game sh ln μk v (bI whom)) μq μk V n N w0 r (inn v n) := by
  have hb := hk.1.1.b
  rw [f_X11_game, f_X10_game, hj.c]
  refine c_one hq hk.1 hj (body := fun m => (f_X11_here m).bind fun x23 => (f_X11_isSure m v x23).bind fun x26 => if x26.1 = 0 then (f_X11_keepsLeft x26.2).bind fun x36 => (f_X11_people x36).bind fun x41 => Wh (fun z : Mm × Int32 => f_X11_game_L48 v (bI whom) z.1 z.2) (x36, (((1 : Int32) <<< (x41 &&& 31)) - (1 : Int32))) else (some ((-2 : Int32), x26.2))) v (fun p hp e => ?_)
  subst e
  obtain ⟨R, e1⟩ := q_isSure (hq.z 0) hp hb.2.2.2.2.2 hk.1.1.h0
  obtain ⟨b, e2, hF2⟩ := k_game (sh := sh) hk.1 hL hp whom
  have h1 := (hq.z 0).row (a := 8) (b := 0) R (by omega)
  cases hsu : suR r V n N p w0
  · rw [hsu] at e1
    obtain ⟨a, e3, hR, hF⟩ := q_game h1 hp whom hsu
    refine ⟨_, _, a, b, ?_, hR, ((Fr.rf (S := [1, 8, 9, 27, 30, 31])).mr (by decide)).tr hF, qok (by decide), e2, hF2⟩
    show ((f_X11_here (mst μq (0, 0) 0 (0 : Int32))).bind fun x23 => _) = _
    rw [q_here (hq.z 0), Option.bind_some, e1, Option.bind_some, if_pos (show (bI false, mrow (mst μq (0, 0) 0 (0 : Int32)) (8, 0) R).1 = 0 from rfl)]
    exact e3
  · rw [hsu] at e1
    have eg : gam r V n N w0 p whom = -nI 2 := by unfold gam; rw [if_pos hsu]
    rw [eg] at e2
    refine ⟨_, [8], _, b, ?_, h1, Fr.rf.mr (by decide), qok (by decide), e2, hF2⟩
    show ((f_X11_here (mst μq (0, 0) 0 (0 : Int32))).bind fun x23 => _) = _
    rw [q_here (hq.z 0), Option.bind_some, e1, Option.bind_some, if_neg (fun e => absurd (show bI true = 0 from e) (by decide))]
    rfl
/-- the class's answer where nothing is written -/
def wr (μ : Mm) (x : Option Int32) : Option (Int32 × Mm) := x.map (fun y => (y, μ))
theorem c_led (hq : RS μq V n N w0 r) (hk : STR sh ln μk j V n N w0 r Λo) (hj : NW sh μk j) (v : Int32) : AG1 (f_X11_led μq v) (wr μk (f_X10_led sh ln μk v)) μq μk V n N w0 r (inn v n) := by
  have hc := q_call1 (hq.z 0) (body := fun m => Wh (fun z : Int32 => f_X11_led_L22 v m z) ((0 : Int32))) v
  have hn := k_needPerson (sh := sh) hk.1 hj v
  refine ⟨fun hi => ?_, fun hi => ⟨by rw [f_X10_led, hn.2 hi]; rfl, by rw [f_X11_led]; exact hc.2 hi⟩⟩
  obtain ⟨p, hp, e⟩ := hi
  subst e
  have e1 := q_led (hq.z 0) hp
  have e2 := k_led (sh := sh) hk.1 hk.2.1 hj hp
  refine ⟨ledV r p, mst μq (0, 0) 0 (0 : Int32), μk, ?_, ?_, hq.z 0, QP.of (S := []) Fr.rf (qok (by decide)), fun _ _ _ => rfl⟩
  · rw [f_X11_led, hc.1 ⟨p, hp, rfl⟩]; exact e1
  · rw [f_X10_led, hn.1 ⟨p, hp, rfl⟩, Option.bind_some]
    show wr μk (Wh (fun z : Int32 × Int32 => f_X10_led_L9 sh ln (nI p) μk z.1 z.2) (-nI 1, nI 0)) = _
    rw [e2]; rfl
theorem c_nth (hq : RS μq V n N w0 r) (hk : STR sh ln μk j V n N w0 r Λo) (hj : NW sh μk j) (v k : Int32) : AG1 (f_X11_nth μq v k) (wr μk (f_X10_nth sh ln μk v k)) μq μk V n N w0 r (ones v n) := by
  have hshape : f_X11_nth μq v k = (if v = (-1 : Int32) then ((f_X11_throwsIf (mst μq (0, 0) 0 (0 : Int32)) (0 : Int32) (1 : Int32)).bind fun x25 => if x25.1 = 0 then (fun m => Wh (fun z : Int32 × Int32 => f_X11_nth_L38 v k m z.1 z.2) (k, (0 : Int32))) x25.2 else (some ((0 : Int32), x25.2))) else ((f_X11_noPerson (mst μq (0, 0) 0 (0 : Int32)) v).bind fun x13 => if x13 = 0 then ((f_X11_throwsIf (mst μq (0, 0) 0 (0 : Int32)) (0 : Int32) (1 : Int32)).bind fun x25 => if x25.1 = 0 then (fun m => Wh (fun z : Int32 × Int32 => f_X11_nth_L38 v k m z.1 z.2) (k, (0 : Int32))) x25.2 else (some ((0 : Int32), x25.2))) else ((f_X11_throwsIf (mst μq (0, 0) 0 (0 : Int32)) (1 : Int32) (1 : Int32)).bind fun x25 => if x25.1 = 0 then (fun m => Wh (fun z : Int32 × Int32 => f_X11_nth_L38 v k m z.1 z.2) (k, (0 : Int32))) x25.2 else (some ((0 : Int32), x25.2))))) := rfl
  have hc := q_callN (hq.z 0) (body := fun m => Wh (fun z : Int32 × Int32 => f_X11_nth_L38 v k m z.1 z.2) (k, (0 : Int32))) v
  have hn := k_needN (sh := sh) hk.1 hj v
  rw [hshape]
  refine ⟨fun hi => ?_, fun hi => ⟨by rw [f_X10_nth, hn.2 hi]; rfl, hc.2 hi⟩⟩
  have hv : ∃ t, (v = -nI 1 ∧ t = lf r) ∨ (∃ p, p < n ∧ v = nI p ∧ t = hld r p w0) := by
    rcases hi with e | ⟨p, hp, e⟩
    · exact ⟨_, Or.inl ⟨e, rfl⟩⟩
    · exact ⟨_, Or.inr ⟨p, hp, e, rfl⟩⟩
  obtain ⟨t, ht⟩ := hv
  have e1 := q_nth (hq.z 0) ht k
  have e2 := k_heldAt (sh := sh) hk.1 ht k
  refine ⟨oN (fstN N (nthf t k)), mst μq (0, 0) 0 (0 : Int32), μk, ?_, ?_, hq.z 0, QP.of (S := []) Fr.rf (qok (by decide)), fun _ _ _ => rfl⟩
  · rw [hc.1 hi]; exact e1
  · rw [f_X10_nth, hn.1 hi, Option.bind_some, hj.c, e2]
    unfold ce
    rw [if_pos hj.2.2]; rfl
end TWOC
