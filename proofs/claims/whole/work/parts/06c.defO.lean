-- methods that make objects (by hand)
def shs (sh : Sh) (k i v : Nat) : Sh := fun a b => if a = k ∧ b = i then v else sh a b
/-- how long the code is that is copied -/
def madeN (μ : Mm) : Int32 := if (0 : Int32) < (if (512 : Int32) < μ (6, 1) 12 then (512 : Int32) else μ (6, 1) 12) then (if (512 : Int32) < μ (6, 1) 12 then (512 : Int32) else μ (6, 1) 12) else (0 : Int32)
/-- a law is made: its number, what exists then -/
noncomputable def f_X3_madeO (sh : Sh) (ln : Nat → Nat) (μ : Mm) (v1 : Int32) : Option ((Nat × Sh × Mm) × Nat × Nat) :=
  ce (¬ (madeN μ).toNatClampNeg = 512) (some ((sh 4 2, shs (shs sh 4 2 (sh 4 2 + 1)) 1 (sh 4 2) (madeN μ).toNatClampNeg, mrow (mrow μ (15, sh 4 2) (cpz (μ (10, 0)) (madeN μ).toNatClampNeg)) (14, sh 4 2) (fun i => if i = 1 then v1 else 0)), 2, (madeN μ).toNatClampNeg + 2))
noncomputable def g_X10_law (sh : Sh) (ln : Nat → Nat) (μ : Mm) : Option (((Int32 ⊕ Nat) × Sh × Mm) × Nat × Nat) :=
  (f_X7_use sh ln μ).bind fun x4 => (f_X8_open_1 sh ln x4.2 x4.1).bind fun x12 => (f_X3_startAnew sh ln x12).bind fun x16 => (f_X8_readLines_1 sh ln x16 (12 : Int32)).bind fun x22 => (f_X8_wrong_1 sh ln x22.2).bind fun x30 => if x22.1 = (-1 : Int32) then some ((.inr 3, sh, mst x22.2 (0, 0) 12 x30), 0, 0) else
    (ce (sh 2 (((mst x22.2 (0, 0) 12 x30) (0, 0) 9).toNatClampNeg) = 1) ((f_X3_madeO sh ln (mst x22.2 (0, 0) 12 x30) x22.1).bind fun x55 => addc x55.2.1 x55.2.2 ((f_X10_forgetPast x55.1.2.1 ln (mst x55.1.2.2 (13, ((mst x22.2 (0, 0) 12 x30) (0, 0) 9).toNatClampNeg) 8 (nI (x55.1.1 + 1)))).bind fun x62 => some ((.inl x22.1, x55.1.2.1, x62), 0, 0))))
/-- a State's rows as they are made -/
def fresh (j : Nat) (μ : Mm) : Mm := mrow (mrow (mrow (mrow (mrow (mrow μ (12, 15 + 5 * j + 0) (fun _ => 0)) (12, 15 + 5 * j + 1) (fun _ => 0)) (12, 15 + 5 * j + 2) (fun i => if i = 0 then 1 else 0)) (12, 15 + 5 * j + 3) (fun _ => 0)) (12, 15 + 5 * j + 4) (fun _ => 0)) (13, j) (fun i => if i = 0 then 2 else if i = 2 ∨ i = 5 then 1 else 0)
/-- lengths of a State's rows as they are made -/
def frl (ln : Nat → Nat) (j : Nat) : Bool := decide (ln (15 + 5 * j + 0) = 9 ∧ ln (15 + 5 * j + 1) = 9 ∧ ln (15 + 5 * j + 2) = 1 ∧ ln (15 + 5 * j + 3) = 0 ∧ ln (15 + 5 * j + 4) = 0)
/-- the i-th of the past, made where there was none -/
noncomputable def f_X10_pastAtO (sh : Sh) (lm : Nat → Nat) (μ : Mm) (v1 : Int32) : Option ((Nat × Sh × Mm) × Nat × Nat) :=
  if v1 < 0 then ce (sh 2 ((μ (0, 0) 10).toNatClampNeg) = 1) (some (((μ (0, 0) 10).toNatClampNeg, sh, μ), 0, 0)) else (if v1 < (8 : Int32) then ck 8 v1 (if sh 2 (2 + v1.toNatClampNeg) = 0 then ce (frl lm (2 + v1.toNatClampNeg) = true) (some ((2 + v1.toNatClampNeg, shs sh 2 (2 + v1.toNatClampNeg) 1, fresh (2 + v1.toNatClampNeg) μ), 11, 40)) else (some ((2 + v1.toNatClampNeg, sh, μ), 0, 0))) else (ce (sh 2 ((μ (0, 0) 10).toNatClampNeg) = 1) (some (((μ (0, 0) 10).toNatClampNeg, sh, μ), 0, 0))))
noncomputable def f_X10_rememberO (sh : Sh) (lm : Nat → Nat) (μ : Mm) : Option ((Sh × (Nat → Nat) × Mm) × Nat × Nat) :=
  (f_X10_pastAtO sh lm μ (μ (0, 0) 7)).bind fun x5 => addc x5.2.1 x5.2.2 (ce (x5.1.2.1 2 x5.1.1 = 1) (ce (x5.1.2.1 2 ((x5.1.2.2 (0, 0) 9).toNatClampNeg) = 1) ((f_X6_becomeA x5.1.2.1 lm x5.1.1 ((x5.1.2.2 (0, 0) 9).toNatClampNeg) x5.1.2.2).bind fun x14 => addc x14.2.1 x14.2.2 ((some (mst (mst x14.1.2.2 (0, 0) 7 (if (8 : Int32) ≤ ((x14.1.2.2 (0, 0) 7) + (1 : Int32)) then (0 : Int32) else ((x14.1.2.2 (0, 0) 7) + (1 : Int32)))) (0, 0) 8 (if (8 : Int32) < ((x14.1.2.2 (0, 0) 8) + (1 : Int32)) then (8 : Int32) else ((x14.1.2.2 (0, 0) 8) + (1 : Int32))))).bind fun μ4 => ce (x5.1.2.1 2 ((μ4 (0, 0) 9).toNatClampNeg) = 1) (some ((x5.1.2.1, x14.1.2.1, mst μ4 (13, (μ4 (0, 0) 9).toNatClampNeg) 7 (1 : Int32)), 0, 0))))))
