-- methods that throw: outcome (value, or number of the exception's class) and memory
def xb {R M : Type} (need : Option (Unit ⊕ Nat)) (μ : M) (k : Option ((R ⊕ Nat) × M)) : Option ((R ⊕ Nat) × M) := need.bind fun z => Sum.elim (fun _ => k) (fun c => some (.inr c, μ)) z
def ml {R M : Type} (x : Option (R × M)) : Option ((R ⊕ Nat) × M) := x.map (fun y => (.inl y.1, y.2))
def ml0 {R M : Type} (μ : M) (x : Option R) : Option ((R ⊕ Nat) × M) := x.map (fun y => (.inl y, μ))
noncomputable def g_X10_needPerson (sh : Sh) (ln : Nat → Nat) (μ : Mm) (v1 : Int32) : Option (Unit ⊕ Nat) :=
  ce (sh 2 ((μ (0, 0) 9).toNatClampNeg) = 1) ((f_X6_hasPerson sh ln ((μ (0, 0) 9).toNatClampNeg) μ v1).bind fun x5 => if x5 = 0 then some (.inr 1) else (some (.inl ())))
noncomputable def g_X10_needPersonOrNone (sh : Sh) (ln : Nat → Nat) (μ : Mm) (v1 : Int32) : Option (Unit ⊕ Nat) :=
  if v1 = (-1 : Int32) then some (.inl ()) else (g_X10_needPerson sh ln μ v1)
noncomputable def g_X10_needNotice (sh : Sh) (ln : Nat → Nat) (μ : Mm) (v1 : Int32) : Option (Unit ⊕ Nat) :=
  ce (sh 2 ((μ (0, 0) 9).toNatClampNeg) = 1) ((f_X6_hasNotice sh ln ((μ (0, 0) 9).toNatClampNeg) μ v1).bind fun x5 => if x5 = 0 then some (.inr 1) else (some (.inl ())))
noncomputable def g_X10_needWorld (sh : Sh) (ln : Nat → Nat) (μ : Mm) (v1 : Int32) : Option (Unit ⊕ Nat) :=
  ce (sh 2 ((μ (0, 0) 9).toNatClampNeg) = 1) ((f_X6_hasWorld sh ln ((μ (0, 0) 9).toNatClampNeg) μ v1).bind fun x5 => if x5 = 0 then some (.inr 1) else (some (.inl ())))
noncomputable def g_X10_needLeft (sh : Sh) (ln : Nat → Nat) (μ : Mm) (v1 : Int32) : Option (Unit ⊕ Nat) :=
  ce (sh 2 ((μ (0, 0) 9).toNatClampNeg) = 1) ((f_X6_stands sh ln ((μ (0, 0) 9).toNatClampNeg) μ v1).bind fun x5 => if x5 = 0 then some (.inr 4) else (some (.inl ())))
noncomputable def g_X10_needTwo (v1 v2 : Int32) : Option (Unit ⊕ Nat) :=
  if v1 = v2 then some (.inr 3) else (some (.inl ()))
noncomputable def g_X10_needSight (sh : Sh) (ln : Nat → Nat) (μ : Mm) (v1 v2 : Int32) : Option (Unit ⊕ Nat) :=
  ce (sh 2 ((μ (0, 0) 9).toNatClampNeg) = 1) ((f_X6_hasSight sh ln ((μ (0, 0) 9).toNatClampNeg) μ v1 v2).bind fun x6 => if x6 = 0 then some (.inr 4) else (some (.inl ())))
noncomputable def g_X10_needNumber (v1 v2 v3 : Int32) : Option (Unit ⊕ Nat) :=
  if v1 < v2 then some (.inr 3) else (if v1 ≤ v3 then some (.inl ()) else (some (.inr 3)))
noncomputable def g_X10_left (sh : Sh) (ln : Nat → Nat) (μ : Mm) (v1 : Int32) : Option ((Int32 ⊕ Nat) × Mm) :=
  xb (g_X10_needWorld sh ln μ v1) μ (ml0 μ (ce (sh 2 ((μ (0, 0) 9).toNatClampNeg) = 1) ((f_X6_stands sh ln ((μ (0, 0) 9).toNatClampNeg) μ v1).bind fun x10 => cb x10 (some x10))))
noncomputable def g_X10_apart (sh : Sh) (ln : Nat → Nat) (μ : Mm) (v1 v2 v3 : Int32) : Option ((Int32 ⊕ Nat) × Mm) :=
  xb (g_X10_needPerson sh ln μ v1) μ (xb (g_X10_needWorld sh ln μ v2) μ (xb (g_X10_needWorld sh ln μ v3) μ (xb (g_X10_needLeft sh ln μ v2) μ (xb (g_X10_needLeft sh ln μ v3) μ (ml0 μ (ce (sh 2 ((μ (0, 0) 9).toNatClampNeg) = 1) ((f_X6_group sh ln ((μ (0, 0) 9).toNatClampNeg) μ v1 v2).bind fun x31 => ce (sh 2 ((μ (0, 0) 9).toNatClampNeg) = 1) ((f_X6_group sh ln ((μ (0, 0) 9).toNatClampNeg) μ v1 v3).bind fun x40 => if x31 = x40 then some (0 : Int32) else (some (1 : Int32))))))))))
noncomputable def g_X10_sure (sh : Sh) (ln : Nat → Nat) (μ : Mm) (v1 v2 : Int32) : Option ((Int32 ⊕ Nat) × Mm) :=
  xb (g_X10_needPerson sh ln μ v1) μ (xb (g_X10_needWorld sh ln μ v2) μ (xb (g_X10_needLeft sh ln μ v2) μ (ml0 μ (ce (sh 2 ((μ (0, 0) 9).toNatClampNeg) = 1) (ce (sh 2 ((μ (0, 0) 9).toNatClampNeg) = 1) ((f_X4_isSure sh ln ((μ (0, 0) 9).toNatClampNeg) (15 + 5 * ((μ (0, 0) 9).toNatClampNeg) + 2) μ v1 v2).bind fun x32 => cb x32 (some x32)))))))
noncomputable def g_X10_manner (sh : Sh) (ln : Nat → Nat) (μ : Mm) (v1 v2 v3 : Int32) : Option ((Int32 ⊕ Nat) × Mm) :=
  xb (g_X10_needPerson sh ln μ v1) μ (xb (g_X10_needPerson sh ln μ v2) μ (xb (g_X10_needWorld sh ln μ v3) μ (xb (g_X10_needTwo v1 v2) μ (xb (g_X10_needLeft sh ln μ v3) μ (xb (g_X10_needSight sh ln μ v1 v2) μ (ml (ce (sh 2 ((μ (0, 0) 9).toNatClampNeg) = 1) ((f_X4_meet sh ln ((μ (0, 0) 9).toNatClampNeg) μ v1 v2).bind fun x42 => (f_X4_mannerIn sh ln x42 v3).bind fun x50 => some (x50, x42)))))))))
noncomputable def g_X10_possible (sh : Sh) (ln : Nat → Nat) (μ : Mm) (v1 v2 : Int32) : Option ((Int32 ⊕ Nat) × Mm) :=
  xb (g_X10_needPerson sh ln μ v1) μ (xb (g_X10_needPerson sh ln μ v2) μ (ml0 μ (ce (sh 2 ((μ (0, 0) 9).toNatClampNeg) = 1) (ce (sh 2 ((μ (0, 0) 9).toNatClampNeg) = 1) (ce (sh 2 ((μ (0, 0) 9).toNatClampNeg) = 1) ((f_X4_possibleBits sh ln ((μ (0, 0) 9).toNatClampNeg) (15 + 5 * ((μ (0, 0) 9).toNatClampNeg) + 2) μ v1 v2 (μ (13, (μ (0, 0) 9).toNatClampNeg) 3)).bind fun x34 => some x34))))))
noncomputable def g_X10_knows (sh : Sh) (ln : Nat → Nat) (μ : Mm) (v1 v2 : Int32) : Option ((Int32 ⊕ Nat) × Mm) :=
  xb (g_X10_needPerson sh ln μ v1) μ (xb (g_X10_needPerson sh ln μ v2) μ (ml0 μ (ce (sh 2 ((μ (0, 0) 9).toNatClampNeg) = 1) (ce (sh 2 ((μ (0, 0) 9).toNatClampNeg) = 1) (ce (sh 2 ((μ (0, 0) 9).toNatClampNeg) = 1) ((f_X4_possibleBits sh ln ((μ (0, 0) 9).toNatClampNeg) (15 + 5 * ((μ (0, 0) 9).toNatClampNeg) + 2) μ v1 v2 (μ (13, (μ (0, 0) 9).toNatClampNeg) 3)).bind fun x38 => (f_X4_onlyOne x38).bind fun x41 => some x41))))))
noncomputable def g_X10_thinks (sh : Sh) (ln : Nat → Nat) (μ : Mm) (v1 v2 v3 : Int32) : Option ((Int32 ⊕ Nat) × Mm) :=
  xb (g_X10_needPerson sh ln μ v1) μ (xb (g_X10_needPerson sh ln μ v2) μ (xb (g_X10_needPerson sh ln μ v3) μ (ml (ce (sh 2 ((μ (0, 0) 9).toNatClampNeg) = 1) ((f_X4_knowsThat sh ln ((μ (0, 0) 9).toNatClampNeg) μ v1 v2 v3).bind fun x26 => cb x26.1 (some (x26.1, x26.2)))))))
noncomputable def g_X10_common (sh : Sh) (ln : Nat → Nat) (μ : Mm) (v1 : Int32) : Option ((Int32 ⊕ Nat) × Mm) :=
  xb (g_X10_needPerson sh ln μ v1) μ (ml (ce (sh 2 ((μ (0, 0) 9).toNatClampNeg) = 1) ((f_X4_knownByAll sh ln ((μ (0, 0) 9).toNatClampNeg) μ v1).bind fun x14 => some (x14.1, x14.2))))
noncomputable def g_X10_muddy (sh : Sh) (ln : Nat → Nat) (μ : Mm) (v1 : Int32) : Option ((Int32 ⊕ Nat) × Mm) :=
  xb (g_X10_needPersonOrNone sh ln μ v1) μ (ml (ce (sh 2 ((μ (0, 0) 9).toNatClampNeg) = 1) ((f_X4_daysUntilSure sh ln ((μ (0, 0) 9).toNatClampNeg) μ v1).bind fun x14 => some (x14.1, x14.2))))
noncomputable def g_X10_backs (sh : Sh) (ln : Nat → Nat) (μ : Mm) (v1 : Int32) : Option ((Int32 ⊕ Nat) × Mm) :=
  xb (g_X10_needPerson sh ln μ v1) μ (ml (ce (sh 2 ((μ (0, 0) 9).toNatClampNeg) = 1) ((f_X5_fewestBacks sh ln ((μ (0, 0) 9).toNatClampNeg) μ v1).bind fun x14 => some (x14.1, x14.2))))
noncomputable def g_X10_gives (sh : Sh) (ln : Nat → Nat) (μ : Mm) (v1 : Int32) : Option ((Int32 ⊕ Nat) × Mm) :=
  xb (g_X10_needPerson sh ln μ v1) μ (ml (ce (sh 2 ((μ (0, 0) 9).toNatClampNeg) = 1) ((f_X4_whoGivesAway sh ln ((μ (0, 0) 9).toNatClampNeg) μ v1).bind fun x14 => some (x14.1, x14.2))))
noncomputable def g_X10_never (sh : Sh) (ln : Nat → Nat) (μ : Mm) (v1 : Int32) : Option ((Int32 ⊕ Nat) × Mm) :=
  xb (g_X10_needPerson sh ln μ v1) μ (ml (ce (sh 2 ((μ (0, 0) 9).toNatClampNeg) = 1) ((f_X4_whoNeverGivesAway sh ln ((μ (0, 0) 9).toNatClampNeg) μ v1).bind fun x14 => some (x14.1, x14.2))))
noncomputable def g_X10_question (sh : Sh) (ln : Nat → Nat) (μ : Mm) (v1 : Int32) : Option ((Int32 ⊕ Nat) × Mm) :=
  xb (g_X10_needPerson sh ln μ v1) μ (ml (ce (sh 2 ((μ (0, 0) 9).toNatClampNeg) = 1) ((f_X5_firstQuestion sh ln ((μ (0, 0) 9).toNatClampNeg) μ v1).bind fun x14 => some (x14.1, x14.2))))
noncomputable def g_X10_queries (sh : Sh) (ln : Nat → Nat) (μ : Mm) (v1 : Int32) : Option ((Int32 ⊕ Nat) × Mm) :=
  xb (g_X10_needPerson sh ln μ v1) μ (ml (ce (sh 2 ((μ (0, 0) 9).toNatClampNeg) = 1) ((f_X5_fewestQueries sh ln ((μ (0, 0) 9).toNatClampNeg) μ v1).bind fun x14 => some (x14.1, x14.2))))
noncomputable def g_X10_spill (sh : Sh) (ln : Nat → Nat) (μ : Mm) (v1 : Int32) : Option ((Int32 ⊕ Nat) × Mm) :=
  xb (g_X10_needPerson sh ln μ v1) μ (ml (ce (sh 2 ((μ (0, 0) 9).toNatClampNeg) = 1) ((f_X4_spilledBy sh ln ((μ (0, 0) 9).toNatClampNeg) μ v1).bind fun x14 => some (x14.1, x14.2))))
noncomputable def g_X10_game (sh : Sh) (ln : Nat → Nat) (μ : Mm) (v1 v2 : Int32) : Option ((Int32 ⊕ Nat) × Mm) :=
  xb (g_X10_needPerson sh ln μ v1) μ (ml (ce (sh 2 ((μ (0, 0) 9).toNatClampNeg) = 1) ((f_X5_playGame sh ln ((μ (0, 0) 9).toNatClampNeg) μ v1 v2).bind fun x15 => some (x15.1, x15.2))))
noncomputable def g_X10_steps (sh : Sh) (ln : Nat → Nat) (μ : Mm) (v1 v2 : Int32) : Option ((Int32 ⊕ Nat) × Mm) :=
  xb (g_X10_needPerson sh ln μ v1) μ (xb (g_X10_needPerson sh ln μ v2) μ (ml0 μ (ce (sh 2 ((μ (0, 0) 9).toNatClampNeg) = 1) ((f_X5_stepsBetween sh ln ((μ (0, 0) 9).toNatClampNeg) μ v1 v2).bind fun x20 => some x20))))
noncomputable def g_X10_nth (sh : Sh) (ln : Nat → Nat) (μ : Mm) (v1 v2 : Int32) : Option ((Int32 ⊕ Nat) × Mm) :=
  xb (g_X10_needPersonOrNone sh ln μ v1) μ (ml0 μ (ce (sh 2 ((μ (0, 0) 9).toNatClampNeg) = 1) ((f_X4_heldAt sh ln ((μ (0, 0) 9).toNatClampNeg) μ v1 v2).bind fun x15 => some x15)))
noncomputable def g_X10_guess (sh : Sh) (ln : Nat → Nat) (μ : Mm) (v1 : Int32) : Option ((Int32 ⊕ Nat) × Mm) :=
  xb (g_X10_needPerson sh ln μ v1) μ (ml (ce (sh 2 ((μ (0, 0) 9).toNatClampNeg) = 1) (ce (sh 2 ((μ (0, 0) 9).toNatClampNeg) = 1) ((f_X4_guessIn sh ln ((μ (0, 0) 9).toNatClampNeg) μ v1 (μ (13, (μ (0, 0) 9).toNatClampNeg) 3)).bind fun x21 => some (x21.1, x21.2)))))
noncomputable def g_X10_right (sh : Sh) (ln : Nat → Nat) (μ : Mm) (v1 : Int32) : Option ((Int32 ⊕ Nat) × Mm) :=
  xb (g_X10_needPersonOrNone sh ln μ v1) μ (ml (ce (sh 2 ((μ (0, 0) 9).toNatClampNeg) = 1) ((f_X4_rightGuesses sh ln ((μ (0, 0) 9).toNatClampNeg) μ v1).bind fun x14 => some (x14.1, x14.2))))
noncomputable def g_X10_married (sh : Sh) (ln : Nat → Nat) (μ : Mm) (v1 : Int32) : Option ((Int32 ⊕ Nat) × Mm) :=
  xb (g_X10_needPersonOrNone sh ln μ v1) μ (ml (ce (sh 2 ((μ (0, 0) 9).toNatClampNeg) = 1) ((f_X5_marry sh ln ((μ (0, 0) 9).toNatClampNeg) μ v1).bind fun x14 => some (x14.1, x14.2))))
noncomputable def g_X10_led (sh : Sh) (ln : Nat → Nat) (μ : Mm) (v1 : Int32) : Option ((Int32 ⊕ Nat) × Mm) :=
  xb (g_X10_needPerson sh ln μ v1) μ (ml0 μ (Wh (fun z : Int32 × Int32 => f_X10_led_L9 sh ln v1 μ z.1 z.2) ((-1 : Int32), (0 : Int32))))
noncomputable def g_X10_person (sh : Sh) (ln : Nat → Nat) (μ : Mm) (v1 v2 : Int32) : Option ((Int32 ⊕ Nat) × Mm) :=
  xb (g_X10_needPerson sh ln μ v1) μ (if v2 = (0 : Int32) then ce (sh 2 ((μ (0, 0) 9).toNatClampNeg) = 1) (ce (sh 2 ((μ (0, 0) 9).toNatClampNeg) = 1) ((f_X6_figure sh ln ((μ (0, 0) 9).toNatClampNeg) μ (μ (13, (μ (0, 0) 9).toNatClampNeg) 3) v1).bind fun x56 => some (.inl x56, μ))) else (if v2 = (1 : Int32) then ce (sh 2 ((μ (0, 0) 9).toNatClampNeg) = 1) ((f_X1_at sh ln (15 + 5 * ((μ (0, 0) 9).toNatClampNeg) + 1) μ v1).bind fun x68 => some (.inl x68, μ)) else (if v2 = (2 : Int32) then ce (sh 2 ((μ (0, 0) 9).toNatClampNeg) = 1) ((f_X6_seers sh ln ((μ (0, 0) 9).toNatClampNeg) μ v1).bind fun x77 => some (.inl x77, μ)) else (if v2 = (3 : Int32) then ce (sh 2 ((μ (0, 0) 9).toNatClampNeg) = 1) (ce (sh 2 ((μ (0, 0) 9).toNatClampNeg) = 1) (ce (sh 2 ((μ (0, 0) 9).toNatClampNeg) = 1) ((f_X4_isSure sh ln ((μ (0, 0) 9).toNatClampNeg) (15 + 5 * ((μ (0, 0) 9).toNatClampNeg) + 2) μ v1 (μ (13, (μ (0, 0) 9).toNatClampNeg) 3)).bind fun x104 => if x104 = 0 then some (.inl (0 : Int32), μ) else (some (.inl (1 : Int32), μ))))) else (if v2 = (4 : Int32) then ce (sh 2 ((μ (0, 0) 9).toNatClampNeg) = 1) ((f_X4_holds sh ln ((μ (0, 0) 9).toNatClampNeg) μ v1).bind fun x125 => some (.inl x125, μ)) else (if v2 = (5 : Int32) then ce (sh 2 ((μ (0, 0) 9).toNatClampNeg) = 1) ((f_X4_knownBits sh ln ((μ (0, 0) 9).toNatClampNeg) μ v1).bind fun x138 => some (.inl x138, μ)) else some (.inr 2, μ)))))))
noncomputable def g_X10_log (sh : Sh) (ln : Nat → Nat) (μ : Mm) (v1 v2 : Int32) : Option ((Int32 ⊕ Nat) × Mm) :=
  if v2 < 0 then some (.inr 2, μ) else (if v2 < (5 : Int32) then ce (sh 2 ((μ (0, 0) 9).toNatClampNeg) = 1) ((f_X6_noted sh ln ((μ (0, 0) 9).toNatClampNeg) μ v1 v2).bind fun x26 => some (.inl x26, μ)) else some (.inr 2, μ))
noncomputable def g_X10_village (sh : Sh) (lm : Nat → Nat) (μ : Mm) : Option (((Int32 ⊕ Nat) × (Nat → Nat) × Mm) × Nat × Nat) :=
  (f_X7_use sh lm μ).bind fun x4 => ce (sh 2 ((x4.2 (0, 0) 10).toNatClampNeg) = 1) (ce (sh 2 ((x4.2 (0, 0) 9).toNatClampNeg) = 1) ((f_X6_becomeA sh lm ((x4.2 (0, 0) 10).toNatClampNeg) ((x4.2 (0, 0) 9).toNatClampNeg) x4.2).bind fun x16 => addc x16.2.1 x16.2.2 ((f_X8_open_0 sh x16.1.2.1 x16.1.2.2 x4.1).bind fun x28 => ce (sh 2 ((x28 (0, 0) 10).toNatClampNeg) = 1) ((f_X9_aimAt sh x16.1.2.1 ((x28 (0, 0) 10).toNatClampNeg) x28).bind fun x39 => (f_X8_readLines_0A sh x16.1.2.1 x39 (14 : Int32)).bind fun x48 => addc x48.2.1 x48.2.2 ((f_X8_wrong_0 sh x48.1.2.1 x48.1.2.2).bind fun x57 => if x48.1.1 = (-1 : Int32) then some ((.inr 3, x48.1.2.1, (mst x48.1.2.2 (0, 0) 12 x57)), 0, 0) else (ce (sh 2 (((mst x48.1.2.2 (0, 0) 12 x57) (0, 0) 9).toNatClampNeg) = 1) (if ((mst x48.1.2.2 (0, 0) 12 x57) (13, ((mst x48.1.2.2 (0, 0) 12 x57) (0, 0) 9).toNatClampNeg) 6) < (12 : Int32) then ce (sh 2 (((mst x48.1.2.2 (0, 0) 12 x57) (0, 0) 10).toNatClampNeg) = 1) ((some (mst (mst x48.1.2.2 (0, 0) 12 x57) (13, ((mst x48.1.2.2 (0, 0) 12 x57) (0, 0) 10).toNatClampNeg) 6 (((mst x48.1.2.2 (0, 0) 12 x57) (13, ((mst x48.1.2.2 (0, 0) 12 x57) (0, 0) 10).toNatClampNeg) 6) + (1 : Int32)))).bind fun μ10 => ce (sh 2 ((μ10 (0, 0) 9).toNatClampNeg) = 1) (ce (sh 2 ((μ10 (0, 0) 10).toNatClampNeg) = 1) (ce ((μ10 (0, 0) 10).toNatClampNeg < 11) (ce ((μ10 (0, 0) 9).toNatClampNeg < 11) ((some (mst (mst μ10 (0, 0) 9 (nI ((μ10 (0, 0) 10).toNatClampNeg))) (0, 0) 10 (nI ((μ10 (0, 0) 9).toNatClampNeg)))).bind fun μ15 => (f_X10_forgetPast sh x48.1.2.1 μ15).bind fun x132 => ce (sh 2 ((x132 (0, 0) 9).toNatClampNeg) = 1) (some ((.inl (x132 (13, (x132 (0, 0) 9).toNatClampNeg) 6), x48.1.2.1, x132), 0, 0))))))) else (some ((.inr 5, x48.1.2.1, (mst x48.1.2.2 (0, 0) 12 x57)), 0, 0)))))))))
