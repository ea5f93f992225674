-- more calls
section MORC
variable {sh : Sh} {ln : Nat → Nat} {μq μk : Mm} {j V n N w0 : Nat} {r : Nat → Int32} {Λo : Option LW}
theorem c_married (hq : RS μq V n N w0 r) (hk : STR sh ln μk j V n N w0 r Λo) (hL : LN ln) (hj : NW sh μk j) (v : Int32) : AG1 (f_X11_married μq v) (f_X10_married sh ln μk v) μq μk V n N w0 r (ones v n) := by
  have hb := hk.1.1.b
  have h9 := pow_512 hb.2.2.2.2.1
  have hp0 : 0 < 2 ^ n := Nat.two_pow_pos n
  rw [f_X11_married, f_X10_married, hj.c]
  refine c_onb hq hk.1 hj (body := fun m => (f_X11_marries m).bind fun x34 => (f_X11_people x34).bind fun x39 => if v = (-1 : Int32) then ck 512 (((1 : Int32) <<< (x39 &&& 31)) - (1 : Int32)) (some ((x34 (36, 0) (((1 : Int32) <<< (x39 &&& 31)) - (1 : Int32)).toNatClampNeg), x34)) else (Wh (fun z : Int32 => f_X11_married_L58 v x34 z) ((((1 : Int32) <<< (x39 &&& 31)) - (1 : Int32))))) v (fun hi => ?_)
  obtain ⟨a, e1, hR, hF, hM⟩ := q_marries (hq.z 0)
  have esh : ((1 : Int32) <<< (nI n &&& 31)) - (1 : Int32) = nI (2 ^ n - 1) := by
    have e : (1 : Int32) <<< (nI n &&& 31) = nI (2 ^ n) := q_shl1' n (by omega)
    rw [e, show (1 : Int32) = nI 1 from rfl, q_sub (by omega)]
  rcases hi with e | ⟨p, hp, e⟩
  · obtain ⟨b, e2, hF2⟩ := k_marry (sh := sh) hk.1 hL (v := v) (vo := none) (Or.inl ⟨e, rfl⟩)
    refine ⟨_, _, a, b, ?_, hR, hF, qok (by decide), e2, hF2.X (fun c hc => by omega)⟩
    show ((f_X11_marries (mst μq (0, 0) 0 (0 : Int32))).bind fun x34 => _) = _
    rw [e1, Option.bind_some, q_people hR, Option.bind_some, if_pos (show v = (-1 : Int32) from e), esh, q_ck (by omega) (by omega), q_cl (by omega), hM.2 _ (by omega)]
    rfl
  · have hn1 : ¬ v = (-1 : Int32) := by
      rw [e]
      intro x
      have h3 : ∀ k, k < 9 → ¬ nI k = -nI 1 := by decide +kernel
      exact h3 p (by omega) x
    obtain ⟨b, e2, hF2⟩ := k_marry (sh := sh) hk.1 hL (v := v) (vo := some p) (Or.inr ⟨p, hp, e, rfl⟩)
    have hw := q_walk hR hM (fun q => kn_lt hb.2.2.2.2.1) (fun s => prT_le _ _ _ (by omega) s) hp (2 ^ n) (2 ^ n - 1) (by omega) (by omega)
    refine ⟨_, _, a, b, ?_, hR, hF, qok (by decide), e2, hF2.X (fun c hc => by omega)⟩
    show ((f_X11_marries (mst μq (0, 0) 0 (0 : Int32))).bind fun x34 => _) = _
    rw [e1, Option.bind_some, q_people hR, Option.bind_some, if_neg hn1, esh, e]
    exact hw
/-- a call that needs two people -/
theorem q_call2 {μ : Mm} (h : RS μ V n N w0 r) {body : Mm → Option (Int32 × Mm)} (v1 v2 : Int32) {J : Int32 → Option (Int32 × Mm)} (hJ : ∀ s, J s = ((f_X11_throwsIf μ s (1 : Int32)).bind fun x28 => if x28.1 = 0 then body x28.2 else (some ((0 : Int32), x28.2)))) :
    (inn v1 n ∧ inn v2 n → ((f_X11_noPerson μ v1).bind fun x8 => if x8 = 0 then (f_X11_noPerson μ v2).bind fun x16 => if x16 = 0 then J 0 else J 1 else J 1) = body μ) ∧
    (¬ (inn v1 n ∧ inn v2 n) → ((f_X11_noPerson μ v1).bind fun x8 => if x8 = 0 then (f_X11_noPerson μ v2).bind fun x16 => if x16 = 0 then J 0 else J 1 else J 1) = some (0, mst μ (0, 0) 0 1)) := by
  have t0 : J 0 = body μ := by
    rw [hJ, show f_X11_throwsIf μ (0 : Int32) (1 : Int32) = some (nI 0, μ) from q_thr0, Option.bind_some, if_pos (show (nI 0, μ).1 = 0 from rfl)]
  have t1 : J 1 = some (0, mst μ (0, 0) 0 1) := by
    rw [hJ, show f_X11_throwsIf μ (1 : Int32) (1 : Int32) = some (nI 1, mst μ (0, 0) 0 1) from q_thr1, Option.bind_some, if_neg (fun e => absurd (show nI 1 = 0 from e) (by decide))]
  have z1 : ¬ nI 1 = (0 : Int32) := by decide
  refine ⟨fun c => ?_, fun c => ?_⟩
  · rw [(q_noPerson h v1).1 c.1, Option.bind_some, if_pos (show nI 0 = 0 from rfl), (q_noPerson h v2).1 c.2, Option.bind_some, if_pos (show nI 0 = 0 from rfl), t0]
  · by_cases c1 : inn v1 n
    · have c2 : ¬ inn v2 n := fun e => c ⟨c1, e⟩
      rw [(q_noPerson h v1).1 c1, Option.bind_some, if_pos (show nI 0 = 0 from rfl), (q_noPerson h v2).2 c2, Option.bind_some, if_neg z1, t1]
    · rw [(q_noPerson h v1).2 c1, Option.bind_some, if_neg z1, t1]
theorem c_steps (hq : RS μq V n N w0 r) (hk : STR sh ln μk j V n N w0 r Λo) (hj : NW sh μk j) (v1 v2 : Int32) : AG1 (f_X11_steps μq v1 v2) (wr μk (f_X10_steps sh ln μk v1 v2)) μq μk V n N w0 r (inn v1 n ∧ inn v2 n) := by
  have hb := hk.1.1.b
  have hc := q_call2 (hq.z 0) (body := fun m => Wh (fun z : Int32 × Int32 => f_X11_steps_L43 v2 m z.1 z.2) (((1 : Int32) <<< (v1 &&& 31)), (0 : Int32))) v1 v2 (J := fun s => f_X11_steps_J27 (mst μq (0, 0) 0 (0 : Int32)) v1 v2 s) (fun s => rfl)
  have hn1 := k_needPerson (sh := sh) hk.1 hj v1
  have hn2 := k_needPerson (sh := sh) hk.1 hj v2
  refine ⟨fun hi => ?_, fun hi => ⟨?_, by rw [f_X11_steps]; exact hc.2 hi⟩⟩
  · obtain ⟨⟨p, hp, e1⟩, ⟨q, hq2, e2⟩⟩ := hi
    have k1 := hc.1 ⟨⟨p, hp, e1⟩, ⟨q, hq2, e2⟩⟩
    have k2 := hn1.1 ⟨p, hp, e1⟩
    have k3 := hn2.1 ⟨q, hq2, e2⟩
    subst e1
    subst e2
    have a1 := q_steps (hq.z 0) hp hq2
    have a2 := k_steps (sh := sh) hk.1 hp hq2
    have esh : (1 : Int32) <<< (nI p &&& 31) = nI (2 ^ p) := q_shl1' p (by omega)
    refine ⟨oN (fstN n (fun k => (rch r n p k).testBit q)), mst μq (0, 0) 0 (0 : Int32), μk, ?_, ?_, hq.z 0, QP.of (S := []) Fr.rf (qok (by decide)), fun _ _ _ => rfl⟩
    · rw [f_X11_steps]
      refine k1.trans ?_
      show Wh (fun z : Int32 × Int32 => f_X11_steps_L43 (nI q) (mst μq (0, 0) 0 (0 : Int32)) z.1 z.2) ((1 : Int32) <<< (nI p &&& 31), (0 : Int32)) = _
      rw [esh]
      exact a1
    · rw [f_X10_steps, k2, Option.bind_some, k3, Option.bind_some, hj.c, a2]
      unfold ce
      rw [if_pos hj.2.2]; rfl
  · by_cases c1 : inn v1 n
    · have c2 : ¬ inn v2 n := fun e => hi ⟨c1, e⟩
      rw [f_X10_steps, hn1.1 c1, Option.bind_some, hn2.2 c2]; rfl
    · rw [f_X10_steps, hn1.2 c1]; rfl
theorem c_left (hq : RS μq V n N w0 r) (hk : STR sh ln μk j V n N w0 r Λo) (hj : NW sh μk j) (v : Int32) : AG1 (f_X11_left μq v) (wr μk (f_X10_left sh ln μk v)) μq μk V n N w0 r (inn v N) := by
  have hn := k_needWorld (sh := sh) hk.1 hj v
  have hw := q_noWorld (hq.z 0) v
  refine ⟨fun hi => ?_, fun hi => ⟨by rw [f_X10_left, hn.2 hi]; rfl, ?_⟩⟩
  · have k1 := hn.1 hi
    have k2 := hw.1 hi
    obtain ⟨w, hw2, e⟩ := hi
    subst e
    have a1 := q_isLeft (hq.z 0) hw2
    have a2 := k_stands (sh := sh) hk.1 hw2
    refine ⟨bI (lf r w), mst μq (0, 0) 0 (0 : Int32), μk, ?_, ?_, hq.z 0, QP.of (S := []) Fr.rf (qok (by decide)), fun _ _ _ => rfl⟩
    · rw [f_X11_left, k2, Option.bind_some, q_thr0, Option.bind_some, if_pos (show (nI 0, mst μq (0, 0) 0 (0 : Int32)).1 = 0 from rfl)]
      show ((f_X11_isLeft (mst μq (0, 0) 0 (0 : Int32)) (nI w)).bind fun x20 => _) = _
      rw [a1, Option.bind_some]
      cases lf r w <;> rfl
    · rw [f_X10_left, k1, Option.bind_some, hj.c, a2, Option.bind_some]
      unfold ce
      rw [if_pos hj.2.2, q_cbI]; rfl
  · rw [f_X11_left, hw.2 hi, Option.bind_some, q_thr1, Option.bind_some, if_neg (fun e => absurd (show nI 1 = 0 from e) (by decide))]
end MORC
