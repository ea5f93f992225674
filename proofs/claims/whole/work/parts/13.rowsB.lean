theorem kin_X0 : ∀ w ∈ u_ws RX0 TX0 1, w ∈ GW := by
  intro w hw
  obtain ⟨k, hk, rfl⟩ := List.mem_map.mp hw
  have hk := List.mem_range.mp hk
  by_cases h0 : k = 0
  · subst h0; exact kw_248
  omega
theorem kin_X1 : ∀ w ∈ u_ws RX1 TX1 1, w ∈ GW := by
  intro w hw
  obtain ⟨k, hk, rfl⟩ := List.mem_map.mp hw
  have hk := List.mem_range.mp hk
  by_cases h0 : k = 0
  · subst h0; exact kw_194
  omega
theorem kin_X10 : ∀ w ∈ u_ws RX10 TX10 13, w ∈ GW := by
  intro w hw
  obtain ⟨k, hk, rfl⟩ := List.mem_map.mp hw
  have hk := List.mem_range.mp hk
  by_cases h0 : k = 0
  · subst h0; exact kw_483
  by_cases h1 : k = 1
  · subst h1; exact kw_485
  by_cases h2 : k = 2
  · subst h2; exact kw_487
  by_cases h3 : k = 3
  · subst h3; exact kw_489
  by_cases h4 : k = 4
  · subst h4; exact kw_491
  by_cases h5 : k = 5
  · subst h5; exact kw_493
  by_cases h6 : k = 6
  · subst h6; exact kw_495
  by_cases h7 : k = 7
  · subst h7; exact kw_497
  by_cases h8 : k = 8
  · subst h8; exact kw_499
  by_cases h9 : k = 9
  · subst h9; exact kw_501
  by_cases h10 : k = 10
  · subst h10; exact kw_503
  by_cases h11 : k = 11
  · subst h11; exact kw_505
  by_cases h12 : k = 12
  · subst h12; exact kw_507
  omega
theorem kin_X2 : ∀ w ∈ u_ws RX2 TX2 2, w ∈ GW := by
  intro w hw
  obtain ⟨k, hk, rfl⟩ := List.mem_map.mp hw
  have hk := List.mem_range.mp hk
  by_cases h0 : k = 0
  · subst h0; exact kw_1380
  by_cases h1 : k = 1
  · subst h1; exact kw_1382
  omega
theorem kin_X4 : ∀ w ∈ u_ws RX4 TX4 9, w ∈ GW := by
  intro w hw
  obtain ⟨k, hk, rfl⟩ := List.mem_map.mp hw
  have hk := List.mem_range.mp hk
  by_cases h0 : k = 0
  · subst h0; exact kw_222
  by_cases h1 : k = 1
  · subst h1; exact kw_224
  by_cases h2 : k = 2
  · subst h2; exact kw_226
  by_cases h3 : k = 3
  · subst h3; exact kw_228
  by_cases h4 : k = 4
  · subst h4; exact kw_230
  by_cases h5 : k = 5
  · subst h5; exact kw_232
  by_cases h6 : k = 6
  · subst h6; exact kw_234
  by_cases h7 : k = 7
  · subst h7; exact kw_236
  by_cases h8 : k = 8
  · subst h8; exact kw_238
  omega
theorem kin_X5 : ∀ w ∈ u_ws RX5 TX5 7, w ∈ GW := by
  intro w hw
  obtain ⟨k, hk, rfl⟩ := List.mem_map.mp hw
  have hk := List.mem_range.mp hk
  by_cases h0 : k = 0
  · subst h0; exact kw_266
  by_cases h1 : k = 1
  · subst h1; exact kw_268
  by_cases h2 : k = 2
  · subst h2; exact kw_270
  by_cases h3 : k = 3
  · subst h3; exact kw_272
  by_cases h4 : k = 4
  · subst h4; exact kw_274
  by_cases h5 : k = 5
  · subst h5; exact kw_276
  by_cases h6 : k = 6
  · subst h6; exact kw_278
  omega
theorem kin_X6 : ∀ w ∈ u_ws RX6 TX6 16, w ∈ GW := by
  intro w hw
  obtain ⟨k, hk, rfl⟩ := List.mem_map.mp hw
  have hk := List.mem_range.mp hk
  by_cases h0 : k = 0
  · subst h0; exact kw_437
  by_cases h1 : k = 1
  · subst h1; exact kw_439
  by_cases h2 : k = 2
  · subst h2; exact kw_441
  by_cases h3 : k = 3
  · subst h3; exact kw_443
  by_cases h4 : k = 4
  · subst h4; exact kw_445
  by_cases h5 : k = 5
  · subst h5; exact kw_447
  by_cases h6 : k = 6
  · subst h6; exact kw_449
  by_cases h7 : k = 7
  · subst h7; exact kw_451
  by_cases h8 : k = 8
  · subst h8; exact kw_453
  by_cases h9 : k = 9
  · subst h9; exact kw_455
  by_cases h10 : k = 10
  · subst h10; exact kw_457
  by_cases h11 : k = 11
  · subst h11; exact kw_459
  by_cases h12 : k = 12
  · subst h12; exact kw_461
  by_cases h13 : k = 13
  · subst h13; exact kw_463
  by_cases h14 : k = 14
  · subst h14; exact kw_465
  by_cases h15 : k = 15
  · subst h15; exact kw_467
  omega
theorem kin_X7 : ∀ w ∈ u_ws RX7 TX7 2, w ∈ GW := by
  intro w hw
  obtain ⟨k, hk, rfl⟩ := List.mem_map.mp hw
  have hk := List.mem_range.mp hk
  by_cases h0 : k = 0
  · subst h0; exact kw_200
  by_cases h1 : k = 1
  · subst h1; exact kw_202
  omega
section FIELDSB
variable {p : Program} {l : Launch} {e : Env} {R : Room} {s : State} {m : MethodId} {args : Array Value} {below : List Frame} {meth : Method} {c : Code} {H : Heap} {locs : List Loc} {cells slots : Nat} {Q : State → Prop}
variable {ccx : ByteArray} {pc nL : Nat} {ls : Array Slot} {rest : List Value} {D : va_G} {tc : Nat → ClassId} {ro : Ro} {oa : Ky → Nat} {aa : Nat → Nat} {sh : Sh} {A : Nat → Prop} {H0 : Heap} {μ : Mm}
theorem gf_X0_21 {j0 : Nat} (C : Cx p s m args c RX0 ccx nL D tc ro A) (hW : Wd D (faB oa aa sh) (feB tc oa aa sh) A H0 μ H locs) (hj0 : sh 2 j0 = 1) (hdg : decode ccx pc = .ok (.getfield 21, 3)) (kk : W p l e R s m args below meth c H locs cells slots Q (F0 m (pc + 3) ls (.int (μ (13, j0) 3) :: rest))) : W p l e R s m args below meth c H locs cells slots Q (F0 m pc ls (.ref (oa (13, j0)) :: rest)) :=
  r_get (k := ((13, j0) : Ky)) (fs := fsSt oa sh j0 (μ (13, j0))) (T := TX6) (N := 16) (f := 3) C hW rfl (Nat.le_of_ble_eq_true rfl) kin_X6 kw_400 (Or.inl rfl) (faB_13 hj0) rfl rfl hdg kk
theorem gf_X0_31 {j0 : Nat} (C : Cx p s m args c RX0 ccx nL D tc ro A) (hW : Wd D (faB oa aa sh) (feB tc oa aa sh) A H0 μ H locs) (hj0 : sh 2 j0 = 1) (hdg : decode ccx pc = .ok (.getfield 31, 3)) (kk : W p l e R s m args below meth c H locs cells slots Q (F0 m (pc + 3) ls (.int (μ (13, j0) 1) :: rest))) : W p l e R s m args below meth c H locs cells slots Q (F0 m pc ls (.ref (oa (13, j0)) :: rest)) :=
  r_get (k := ((13, j0) : Ky)) (fs := fsSt oa sh j0 (μ (13, j0))) (T := TX6) (N := 16) (f := 1) C hW rfl (Nat.le_of_ble_eq_true rfl) kin_X6 kw_392 (Or.inl rfl) (faB_13 hj0) rfl rfl hdg kk
theorem gf_X0_38 {j0 : Nat} (C : Cx p s m args c RX0 ccx nL D tc ro A) (hW : Wd D (faB oa aa sh) (feB tc oa aa sh) A H0 μ H locs) (hj0 : sh 2 j0 = 1) (hdg : decode ccx pc = .ok (.getfield 38, 3)) (kk : W p l e R s m args below meth c H locs cells slots Q (F0 m (pc + 3) ls (.ref (oa (11, 15 + 5 * j0 + 2)) :: rest))) : W p l e R s m args below meth c H locs cells slots Q (F0 m pc ls (.ref (oa (13, j0)) :: rest)) :=
  r_get (k := ((13, j0) : Ky)) (fs := fsSt oa sh j0 (μ (13, j0))) (T := TX6) (N := 16) (f := 11) C hW rfl (Nat.le_of_ble_eq_true rfl) kin_X6 kw_426 (Or.inl rfl) (faB_13 hj0) rfl rfl hdg kk
theorem gf_X0_68 {j0 : Nat} (C : Cx p s m args c RX0 ccx nL D tc ro A) (hW : Wd D (faB oa aa sh) (feB tc oa aa sh) A H0 μ H locs) (hj0 : sh 2 j0 = 1) (hdg : decode ccx pc = .ok (.getfield 68, 3)) (kk : W p l e R s m args below meth c H locs cells slots Q (F0 m (pc + 3) ls (.int (μ (13, j0) 4) :: rest))) : W p l e R s m args below meth c H locs cells slots Q (F0 m pc ls (.ref (oa (13, j0)) :: rest)) :=
  r_get (k := ((13, j0) : Ky)) (fs := fsSt oa sh j0 (μ (13, j0))) (T := TX6) (N := 16) (f := 4) C hW rfl (Nat.le_of_ble_eq_true rfl) kin_X6 kw_407 (Or.inl rfl) (faB_13 hj0) rfl rfl hdg kk
theorem gf_X0_9  (C : Cx p s m args c RX0 ccx nL D tc ro A) (hW : Wd D (faB oa aa sh) (feB tc oa aa sh) A H0 μ H locs)  (hdg : decode ccx pc = .ok (.getfield 9, 3)) (kk : W p l e R s m args below meth c H locs cells slots Q (F0 m (pc + 3) ls (.ref (oa (3, 0)) :: rest))) : W p l e R s m args below meth c H locs cells slots Q (F0 m pc ls (.ref (oa (4, 0)) :: rest)) :=
  r_get (k := ((4, 0) : Ky)) (fs := [.ref (oa (3, 0))]) (T := TX0) (N := 1) (f := 0) C hW rfl (Nat.le_of_ble_eq_true rfl) kin_X0 kw_247 (Or.inl rfl) rfl rfl rfl hdg kk
theorem gf_X10_10  (C : Cx p s m args c RX10 ccx nL D tc ro A) (hW : Wd D (faB oa aa sh) (feB tc oa aa sh) A H0 μ H locs)  (hdg : decode ccx pc = .ok (.getfield 10, 3)) (kk : W p l e R s m args below meth c H locs cells slots Q (F0 m (pc + 3) ls (.ref (oa (2, 0)) :: rest))) : W p l e R s m args below meth c H locs cells slots Q (F0 m pc ls (.ref (oa (0, 0)) :: rest)) :=
  r_get (k := ((0, 0) : Ky)) (fs := fsBV oa sh (μ (0, 0))) (T := TX10) (N := 13) (f := 0) C hW rfl (Nat.le_of_ble_eq_true rfl) kin_X10 kw_470 (Or.inl rfl) rfl rfl rfl hdg kk
theorem gf_X10_114 {j0 : Nat} (C : Cx p s m args c RX10 ccx nL D tc ro A) (hW : Wd D (faB oa aa sh) (feB tc oa aa sh) A H0 μ H locs) (hj0 : sh 2 j0 = 1) (hdg : decode ccx pc = .ok (.getfield 114, 3)) (kk : W p l e R s m args below meth c H locs cells slots Q (F0 m (pc + 3) ls (.int (μ (13, j0) 6) :: rest))) : W p l e R s m args below meth c H locs cells slots Q (F0 m pc ls (.ref (oa (13, j0)) :: rest)) :=
  r_get (k := ((13, j0) : Ky)) (fs := fsSt oa sh j0 (μ (13, j0))) (T := TX6) (N := 16) (f := 6) C hW rfl (Nat.le_of_ble_eq_true rfl) kin_X6 kw_413 (Or.inl rfl) (faB_13 hj0) rfl rfl hdg kk
theorem gn_X10_137 {j0 : Nat} (C : Cx p s m args c RX10 ccx nL D tc ro A) (hW : Wd D (faB oa aa sh) (feB tc oa aa sh) A H0 μ H locs) (hj0 : sh 2 j0 = 1) (q : sh 3 j0 = 0) (hdg : decode ccx pc = .ok (.getfield 137, 3)) (kk : W p l e R s m args below meth c H locs cells slots Q (F0 m (pc + 3) ls (.null :: rest))) : W p l e R s m args below meth c H locs cells slots Q (F0 m pc ls (.ref (oa (13, j0)) :: rest)) :=
  r_get (k := ((13, j0) : Ky)) (fs := fsSt oa sh j0 (μ (13, j0))) (T := TX6) (N := 16) (f := 8) C hW rfl (Nat.le_of_ble_eq_true rfl) kin_X6 kw_418 (Or.inl rfl) (faB_13 hj0) rfl (by exact congrArg some (if_pos q)) hdg kk
theorem gf_X10_137 {j0 : Nat} (C : Cx p s m args c RX10 ccx nL D tc ro A) (hW : Wd D (faB oa aa sh) (feB tc oa aa sh) A H0 μ H locs) (hj0 : sh 2 j0 = 1) (q : ¬ sh 3 j0 = 0) (hdg : decode ccx pc = .ok (.getfield 137, 3)) (kk : W p l e R s m args below meth c H locs cells slots Q (F0 m (pc + 3) ls (.ref (oa (14, sh 3 j0 - 1)) :: rest))) : W p l e R s m args below meth c H locs cells slots Q (F0 m pc ls (.ref (oa (13, j0)) :: rest)) :=
  r_get (k := ((13, j0) : Ky)) (fs := fsSt oa sh j0 (μ (13, j0))) (T := TX6) (N := 16) (f := 8) C hW rfl (Nat.le_of_ble_eq_true rfl) kin_X6 kw_418 (Or.inl rfl) (faB_13 hj0) rfl (by exact congrArg some (if_neg q)) hdg kk
theorem gf_X10_144 {j0 : Nat} (C : Cx p s m args c RX10 ccx nL D tc ro A) (hW : Wd D (faB oa aa sh) (feB tc oa aa sh) A H0 μ H locs) (hj0 : sh 2 j0 = 1) (hdg : decode ccx pc = .ok (.getfield 144, 3)) (kk : W p l e R s m args below meth c H locs cells slots Q (F0 m (pc + 3) ls (.int (μ (13, j0) 3) :: rest))) : W p l e R s m args below meth c H locs cells slots Q (F0 m pc ls (.ref (oa (13, j0)) :: rest)) :=
  r_get (k := ((13, j0) : Ky)) (fs := fsSt oa sh j0 (μ (13, j0))) (T := TX6) (N := 16) (f := 3) C hW rfl (Nat.le_of_ble_eq_true rfl) kin_X6 kw_404 (Or.inl rfl) (faB_13 hj0) rfl rfl hdg kk
theorem gf_X10_151 {j0 : Nat} (C : Cx p s m args c RX10 ccx nL D tc ro A) (hW : Wd D (faB oa aa sh) (feB tc oa aa sh) A H0 μ H locs) (hj0 : sh 2 j0 = 1) (hdg : decode ccx pc = .ok (.getfield 151, 3)) (kk : W p l e R s m args below meth c H locs cells slots Q (F0 m (pc + 3) ls (.ref (oa (11, 15 + 5 * j0 + 1)) :: rest))) : W p l e R s m args below meth c H locs cells slots Q (F0 m pc ls (.ref (oa (13, j0)) :: rest)) :=
  r_get (k := ((13, j0) : Ky)) (fs := fsSt oa sh j0 (μ (13, j0))) (T := TX6) (N := 16) (f := 10) C hW rfl (Nat.le_of_ble_eq_true rfl) kin_X6 kw_422 (Or.inl rfl) (faB_13 hj0) rfl rfl hdg kk
theorem gf_X10_163 {j0 : Nat} (C : Cx p s m args c RX10 ccx nL D tc ro A) (hW : Wd D (faB oa aa sh) (feB tc oa aa sh) A H0 μ H locs) (hj0 : sh 2 j0 = 1) (hdg : decode ccx pc = .ok (.getfield 163, 3)) (kk : W p l e R s m args below meth c H locs cells slots Q (F0 m (pc + 3) ls (.ref (oa (11, 15 + 5 * j0 + 2)) :: rest))) : W p l e R s m args below meth c H locs cells slots Q (F0 m pc ls (.ref (oa (13, j0)) :: rest)) :=
  r_get (k := ((13, j0) : Ky)) (fs := fsSt oa sh j0 (μ (13, j0))) (T := TX6) (N := 16) (f := 11) C hW rfl (Nat.le_of_ble_eq_true rfl) kin_X6 kw_428 (Or.inl rfl) (faB_13 hj0) rfl rfl hdg kk
theorem gf_X10_19  (C : Cx p s m args c RX10 ccx nL D tc ro A) (hW : Wd D (faB oa aa sh) (feB tc oa aa sh) A H0 μ H locs)  (hdg : decode ccx pc = .ok (.getfield 19, 3)) (kk : W p l e R s m args below meth c H locs cells slots Q (F0 m (pc + 3) ls (.ref (oa (3, 0)) :: rest))) : W p l e R s m args below meth c H locs cells slots Q (F0 m pc ls (.ref (oa (0, 0)) :: rest)) :=
  r_get (k := ((0, 0) : Ky)) (fs := fsBV oa sh (μ (0, 0))) (T := TX10) (N := 13) (f := 1) C hW rfl (Nat.le_of_ble_eq_true rfl) kin_X10 kw_471 (Or.inl rfl) rfl rfl rfl hdg kk
theorem gf_X10_28  (C : Cx p s m args c RX10 ccx nL D tc ro A) (hW : Wd D (faB oa aa sh) (feB tc oa aa sh) A H0 μ H locs)  (hdg : decode ccx pc = .ok (.getfield 28, 3)) (kk : W p l e R s m args below meth c H locs cells slots Q (F0 m (pc + 3) ls (.ref (oa (4, 0)) :: rest))) : W p l e R s m args below meth c H locs cells slots Q (F0 m pc ls (.ref (oa (0, 0)) :: rest)) :=
  r_get (k := ((0, 0) : Ky)) (fs := fsBV oa sh (μ (0, 0))) (T := TX10) (N := 13) (f := 2) C hW rfl (Nat.le_of_ble_eq_true rfl) kin_X10 kw_472 (Or.inl rfl) rfl rfl rfl hdg kk
theorem gf_X10_293 {j0 : Nat} (C : Cx p s m args c RX10 ccx nL D tc ro A) (hW : Wd D (faB oa aa sh) (feB tc oa aa sh) A H0 μ H locs) (hj0 : sh 2 j0 = 1) (hdg : decode ccx pc = .ok (.getfield 293, 3)) (kk : W p l e R s m args below meth c H locs cells slots Q (F0 m (pc + 3) ls (.int (μ (13, j0) 1) :: rest))) : W p l e R s m args below meth c H locs cells slots Q (F0 m pc ls (.ref (oa (13, j0)) :: rest)) :=
  r_get (k := ((13, j0) : Ky)) (fs := fsSt oa sh j0 (μ (13, j0))) (T := TX6) (N := 16) (f := 1) C hW rfl (Nat.le_of_ble_eq_true rfl) kin_X6 kw_395 (Or.inl rfl) (faB_13 hj0) rfl rfl hdg kk
theorem gf_X10_303 {j0 : Nat} (C : Cx p s m args c RX10 ccx nL D tc ro A) (hW : Wd D (faB oa aa sh) (feB tc oa aa sh) A H0 μ H locs) (hj0 : sh 2 j0 = 1) (hdg : decode ccx pc = .ok (.getfield 303, 3)) (kk : W p l e R s m args below meth c H locs cells slots Q (F0 m (pc + 3) ls (.int (μ (13, j0) 5) :: rest))) : W p l e R s m args below meth c H locs cells slots Q (F0 m pc ls (.ref (oa (13, j0)) :: rest)) :=
  r_get (k := ((13, j0) : Ky)) (fs := fsSt oa sh j0 (μ (13, j0))) (T := TX6) (N := 16) (f := 5) C hW rfl (Nat.le_of_ble_eq_true rfl) kin_X6 kw_411 (Or.inl rfl) (faB_13 hj0) rfl rfl hdg kk
theorem gf_X10_35  (C : Cx p s m args c RX10 ccx nL D tc ro A) (hW : Wd D (faB oa aa sh) (feB tc oa aa sh) A H0 μ H locs)  (hdg : decode ccx pc = .ok (.getfield 35, 3)) (kk : W p l e R s m args below meth c H locs cells slots Q (F0 m (pc + 3) ls (.ref (oa (5, 0)) :: rest))) : W p l e R s m args below meth c H locs cells slots Q (F0 m pc ls (.ref (oa (0, 0)) :: rest)) :=
  r_get (k := ((0, 0) : Ky)) (fs := fsBV oa sh (μ (0, 0))) (T := TX10) (N := 13) (f := 3) C hW rfl (Nat.le_of_ble_eq_true rfl) kin_X10 kw_473 (Or.inl rfl) rfl rfl rfl hdg kk
theorem gf_X10_353 {j0 : Nat} (C : Cx p s m args c RX10 ccx nL D tc ro A) (hW : Wd D (faB oa aa sh) (feB tc oa aa sh) A H0 μ H locs) (hj0 : sh 2 j0 = 1) (hdg : decode ccx pc = .ok (.getfield 353, 3)) (kk : W p l e R s m args below meth c H locs cells slots Q (F0 m (pc + 3) ls (.int (μ (13, j0) 14) :: rest))) : W p l e R s m args below meth c H locs cells slots Q (F0 m pc ls (.ref (oa (13, j0)) :: rest)) :=
  r_get (k := ((13, j0) : Ky)) (fs := fsSt oa sh j0 (μ (13, j0))) (T := TX6) (N := 16) (f := 14) C hW rfl (Nat.le_of_ble_eq_true rfl) kin_X6 kw_435 (Or.inl rfl) (faB_13 hj0) rfl rfl hdg kk
theorem gf_X10_364  (C : Cx p s m args c RX10 ccx nL D tc ro A) (hW : Wd D (faB oa aa sh) (feB tc oa aa sh) A H0 μ H locs)  (hdg : decode ccx pc = .ok (.getfield 364, 3)) (kk : W p l e R s m args below meth c H locs cells slots Q (F0 m (pc + 3) ls (.int (μ (0, 0) 8) :: rest))) : W p l e R s m args below meth c H locs cells slots Q (F0 m pc ls (.ref (oa (0, 0)) :: rest)) :=
  r_get (k := ((0, 0) : Ky)) (fs := fsBV oa sh (μ (0, 0))) (T := TX10) (N := 13) (f := 8) C hW rfl (Nat.le_of_ble_eq_true rfl) kin_X10 kw_478 (Or.inl rfl) rfl rfl rfl hdg kk
theorem gf_X10_381 {j0 : Nat} (C : Cx p s m args c RX10 ccx nL D tc ro A) (hW : Wd D (faB oa aa sh) (feB tc oa aa sh) A H0 μ H locs) (hj0 : sh 2 j0 = 1) (hdg : decode ccx pc = .ok (.getfield 381, 3)) (kk : W p l e R s m args below meth c H locs cells slots Q (F0 m (pc + 3) ls (.int (μ (13, j0) 0) :: rest))) : W p l e R s m args below meth c H locs cells slots Q (F0 m pc ls (.ref (oa (13, j0)) :: rest)) :=
  r_get (k := ((13, j0) : Ky)) (fs := fsSt oa sh j0 (μ (13, j0))) (T := TX6) (N := 16) (f := 0) C hW rfl (Nat.le_of_ble_eq_true rfl) kin_X6 kw_389 (Or.inl rfl) (faB_13 hj0) rfl rfl hdg kk
theorem gf_X10_389 {j0 : Nat} (C : Cx p s m args c RX10 ccx nL D tc ro A) (hW : Wd D (faB oa aa sh) (feB tc oa aa sh) A H0 μ H locs) (hj0 : sh 2 j0 = 1) (hdg : decode ccx pc = .ok (.getfield 389, 3)) (kk : W p l e R s m args below meth c H locs cells slots Q (F0 m (pc + 3) ls (.int (μ (13, j0) 4) :: rest))) : W p l e R s m args below meth c H locs cells slots Q (F0 m pc ls (.ref (oa (13, j0)) :: rest)) :=
  r_get (k := ((13, j0) : Ky)) (fs := fsSt oa sh j0 (μ (13, j0))) (T := TX6) (N := 16) (f := 4) C hW rfl (Nat.le_of_ble_eq_true rfl) kin_X6 kw_409 (Or.inl rfl) (faB_13 hj0) rfl rfl hdg kk
theorem gf_X10_392 {j0 : Nat} (C : Cx p s m args c RX10 ccx nL D tc ro A) (hW : Wd D (faB oa aa sh) (feB tc oa aa sh) A H0 μ H locs) (hj0 : sh 2 j0 = 1) (hdg : decode ccx pc = .ok (.getfield 392, 3)) (kk : W p l e R s m args below meth c H locs cells slots Q (F0 m (pc + 3) ls (.int (μ (13, j0) 2) :: rest))) : W p l e R s m args below meth c H locs cells slots Q (F0 m pc ls (.ref (oa (13, j0)) :: rest)) :=
  r_get (k := ((13, j0) : Ky)) (fs := fsSt oa sh j0 (μ (13, j0))) (T := TX6) (N := 16) (f := 2) C hW rfl (Nat.le_of_ble_eq_true rfl) kin_X6 kw_399 (Or.inl rfl) (faB_13 hj0) rfl rfl hdg kk
theorem gf_X10_60  (C : Cx p s m args c RX10 ccx nL D tc ro A) (hW : Wd D (faB oa aa sh) (feB tc oa aa sh) A H0 μ H locs)  (hdg : decode ccx pc = .ok (.getfield 60, 3)) (kk : W p l e R s m args below meth c H locs cells slots Q (F0 m (pc + 3) ls (.ref (oa (13, sh 4 0)) :: rest))) : W p l e R s m args below meth c H locs cells slots Q (F0 m pc ls (.ref (oa (0, 0)) :: rest)) :=
  r_get (k := ((0, 0) : Ky)) (fs := fsBV oa sh (μ (0, 0))) (T := TX10) (N := 13) (f := 9) C hW rfl (Nat.le_of_ble_eq_true rfl) kin_X10 kw_479 (Or.inl rfl) rfl rfl rfl hdg kk
theorem gf_X10_64  (C : Cx p s m args c RX10 ccx nL D tc ro A) (hW : Wd D (faB oa aa sh) (feB tc oa aa sh) A H0 μ H locs)  (hdg : decode ccx pc = .ok (.getfield 64, 3)) (kk : W p l e R s m args below meth c H locs cells slots Q (F0 m (pc + 3) ls (.ref (oa (13, sh 4 1)) :: rest))) : W p l e R s m args below meth c H locs cells slots Q (F0 m pc ls (.ref (oa (0, 0)) :: rest)) :=
  r_get (k := ((0, 0) : Ky)) (fs := fsBV oa sh (μ (0, 0))) (T := TX10) (N := 13) (f := 10) C hW rfl (Nat.le_of_ble_eq_true rfl) kin_X10 kw_480 (Or.inl rfl) rfl rfl rfl hdg kk
theorem gf_X10_67  (C : Cx p s m args c RX10 ccx nL D tc ro A) (hW : Wd D (faB oa aa sh) (feB tc oa aa sh) A H0 μ H locs)  (hdg : decode ccx pc = .ok (.getfield 67, 3)) (kk : W p l e R s m args below meth c H locs cells slots Q (F0 m (pc + 3) ls (.int (μ (0, 0) 12) :: rest))) : W p l e R s m args below meth c H locs cells slots Q (F0 m pc ls (.ref (oa (0, 0)) :: rest)) :=
  r_get (k := ((0, 0) : Ky)) (fs := fsBV oa sh (μ (0, 0))) (T := TX10) (N := 13) (f := 12) C hW rfl (Nat.le_of_ble_eq_true rfl) kin_X10 kw_482 (Or.inl rfl) rfl rfl rfl hdg kk
theorem gf_X1_13 {cl0 : Nat} (C : Cx p s m args c RX1 ccx nL D tc ro A) (hW : Wd D (faB oa aa sh) (feB tc oa aa sh) A H0 μ H locs) (hc0 : cex sh cl0 = true) (hdg : decode ccx pc = .ok (.getfield 13, 3)) (kk : W p l e R s m args below meth c H locs cells slots Q (F0 m (pc + 3) ls (.ref (aa cl0) :: rest))) : W p l e R s m args below meth c H locs cells slots Q (F0 m pc ls (.ref (oa (11, cl0)) :: rest)) :=
  r_get (k := ((11, cl0) : Ky)) (fs := [.ref (aa cl0)]) (T := TX1) (N := 1) (f := 0) C hW rfl (Nat.le_of_ble_eq_true rfl) kin_X1 kw_193 (Or.inl rfl) (faB_11 hc0) rfl rfl hdg kk
theorem gf_X2_13 {i0 : Nat} (C : Cx p s m args c RX2 ccx nL D tc ro A) (hW : Wd D (faB oa aa sh) (feB tc oa aa sh) A H0 μ H locs) (hi0 : i0 < sh 4 2) (hdg : decode ccx pc = .ok (.getfield 13, 3)) (kk : W p l e R s m args below meth c H locs cells slots Q (F0 m (pc + 3) ls (.int (μ (14, i0) 1) :: rest))) : W p l e R s m args below meth c H locs cells slots Q (F0 m pc ls (.ref (oa (14, i0)) :: rest)) :=
  r_get (k := ((14, i0) : Ky)) (fs := fsLaw oa i0 (μ (14, i0))) (T := TX2) (N := 2) (f := 1) C hW rfl (Nat.le_of_ble_eq_true rfl) kin_X2 kw_1379 (Or.inl rfl) (faB_14 hi0) rfl rfl hdg kk
theorem gf_X2_7 {i0 : Nat} (C : Cx p s m args c RX2 ccx nL D tc ro A) (hW : Wd D (faB oa aa sh) (feB tc oa aa sh) A H0 μ H locs) (hi0 : i0 < sh 4 2) (hdg : decode ccx pc = .ok (.getfield 7, 3)) (kk : W p l e R s m args below meth c H locs cells slots Q (F0 m (pc + 3) ls (.ref (oa (15, i0)) :: rest))) : W p l e R s m args below meth c H locs cells slots Q (F0 m pc ls (.ref (oa (14, i0)) :: rest)) :=
  r_get (k := ((14, i0) : Ky)) (fs := fsLaw oa i0 (μ (14, i0))) (T := TX2) (N := 2) (f := 0) C hW rfl (Nat.le_of_ble_eq_true rfl) kin_X2 kw_1378 (Or.inl rfl) (faB_14 hi0) rfl rfl hdg kk
theorem gf_X4_148 {j0 : Nat} (C : Cx p s m args c RX4 ccx nL D tc ro A) (hW : Wd D (faB oa aa sh) (feB tc oa aa sh) A H0 μ H locs) (hj0 : sh 2 j0 = 1) (hdg : decode ccx pc = .ok (.getfield 148, 3)) (kk : W p l e R s m args below meth c H locs cells slots Q (F0 m (pc + 3) ls (.int (μ (13, j0) 4) :: rest))) : W p l e R s m args below meth c H locs cells slots Q (F0 m pc ls (.ref (oa (13, j0)) :: rest)) :=
  r_get (k := ((13, j0) : Ky)) (fs := fsSt oa sh j0 (μ (13, j0))) (T := TX6) (N := 16) (f := 4) C hW rfl (Nat.le_of_ble_eq_true rfl) kin_X6 kw_408 (Or.inl rfl) (faB_13 hj0) rfl rfl hdg kk
theorem gn_X4_155 {j0 : Nat} (C : Cx p s m args c RX4 ccx nL D tc ro A) (hW : Wd D (faB oa aa sh) (feB tc oa aa sh) A H0 μ H locs) (hj0 : sh 2 j0 = 1) (q : sh 3 j0 = 0) (hdg : decode ccx pc = .ok (.getfield 155, 3)) (kk : W p l e R s m args below meth c H locs cells slots Q (F0 m (pc + 3) ls (.null :: rest))) : W p l e R s m args below meth c H locs cells slots Q (F0 m pc ls (.ref (oa (13, j0)) :: rest)) :=
  r_get (k := ((13, j0) : Ky)) (fs := fsSt oa sh j0 (μ (13, j0))) (T := TX6) (N := 16) (f := 8) C hW rfl (Nat.le_of_ble_eq_true rfl) kin_X6 kw_419 (Or.inl rfl) (faB_13 hj0) rfl (by exact congrArg some (if_pos q)) hdg kk
theorem gf_X4_155 {j0 : Nat} (C : Cx p s m args c RX4 ccx nL D tc ro A) (hW : Wd D (faB oa aa sh) (feB tc oa aa sh) A H0 μ H locs) (hj0 : sh 2 j0 = 1) (q : ¬ sh 3 j0 = 0) (hdg : decode ccx pc = .ok (.getfield 155, 3)) (kk : W p l e R s m args below meth c H locs cells slots Q (F0 m (pc + 3) ls (.ref (oa (14, sh 3 j0 - 1)) :: rest))) : W p l e R s m args below meth c H locs cells slots Q (F0 m pc ls (.ref (oa (13, j0)) :: rest)) :=
  r_get (k := ((13, j0) : Ky)) (fs := fsSt oa sh j0 (μ (13, j0))) (T := TX6) (N := 16) (f := 8) C hW rfl (Nat.le_of_ble_eq_true rfl) kin_X6 kw_419 (Or.inl rfl) (faB_13 hj0) rfl (by exact congrArg some (if_neg q)) hdg kk
theorem gf_X4_166 {j0 : Nat} (C : Cx p s m args c RX4 ccx nL D tc ro A) (hW : Wd D (faB oa aa sh) (feB tc oa aa sh) A H0 μ H locs) (hj0 : sh 2 j0 = 1) (hdg : decode ccx pc = .ok (.getfield 166, 3)) (kk : W p l e R s m args below meth c H locs cells slots Q (F0 m (pc + 3) ls (.ref (oa (11, 15 + 5 * j0 + 1)) :: rest))) : W p l e R s m args below meth c H locs cells slots Q (F0 m pc ls (.ref (oa (13, j0)) :: rest)) :=
  r_get (k := ((13, j0) : Ky)) (fs := fsSt oa sh j0 (μ (13, j0))) (T := TX6) (N := 16) (f := 10) C hW rfl (Nat.le_of_ble_eq_true rfl) kin_X6 kw_424 (Or.inl rfl) (faB_13 hj0) rfl rfl hdg kk
theorem gf_X4_172 {j0 : Nat} (C : Cx p s m args c RX4 ccx nL D tc ro A) (hW : Wd D (faB oa aa sh) (feB tc oa aa sh) A H0 μ H locs) (hj0 : sh 2 j0 = 1) (hdg : decode ccx pc = .ok (.getfield 172, 3)) (kk : W p l e R s m args below meth c H locs cells slots Q (F0 m (pc + 3) ls (.ref (oa (11, 15 + 5 * j0 + 3)) :: rest))) : W p l e R s m args below meth c H locs cells slots Q (F0 m pc ls (.ref (oa (13, j0)) :: rest)) :=
  r_get (k := ((13, j0) : Ky)) (fs := fsSt oa sh j0 (μ (13, j0))) (T := TX6) (N := 16) (f := 12) C hW rfl (Nat.le_of_ble_eq_true rfl) kin_X6 kw_432 (Or.inl rfl) (faB_13 hj0) rfl rfl hdg kk
theorem gf_X4_18  (C : Cx p s m args c RX4 ccx nL D tc ro A) (hW : Wd D (faB oa aa sh) (feB tc oa aa sh) A H0 μ H locs)  (hdg : decode ccx pc = .ok (.getfield 18, 3)) (kk : W p l e R s m args below meth c H locs cells slots Q (F0 m (pc + 3) ls (.ref (oa (11, 1)) :: rest))) : W p l e R s m args below meth c H locs cells slots Q (F0 m pc ls (.ref (oa (3, 0)) :: rest)) :=
  r_get (k := ((3, 0) : Ky)) (fs := fsMind oa) (T := TX4) (N := 9) (f := 0) C hW rfl (Nat.le_of_ble_eq_true rfl) kin_X4 kw_213 (Or.inl rfl) rfl rfl rfl hdg kk
theorem gf_X4_197 {j0 : Nat} (C : Cx p s m args c RX4 ccx nL D tc ro A) (hW : Wd D (faB oa aa sh) (feB tc oa aa sh) A H0 μ H locs) (hj0 : sh 2 j0 = 1) (hdg : decode ccx pc = .ok (.getfield 197, 3)) (kk : W p l e R s m args below meth c H locs cells slots Q (F0 m (pc + 3) ls (.int (μ (13, j0) 0) :: rest))) : W p l e R s m args below meth c H locs cells slots Q (F0 m pc ls (.ref (oa (13, j0)) :: rest)) :=
  r_get (k := ((13, j0) : Ky)) (fs := fsSt oa sh j0 (μ (13, j0))) (T := TX6) (N := 16) (f := 0) C hW rfl (Nat.le_of_ble_eq_true rfl) kin_X6 kw_388 (Or.inl rfl) (faB_13 hj0) rfl rfl hdg kk
theorem gf_X4_22  (C : Cx p s m args c RX4 ccx nL D tc ro A) (hW : Wd D (faB oa aa sh) (feB tc oa aa sh) A H0 μ H locs)  (hdg : decode ccx pc = .ok (.getfield 22, 3)) (kk : W p l e R s m args below meth c H locs cells slots Q (F0 m (pc + 3) ls (.ref (oa (11, 2)) :: rest))) : W p l e R s m args below meth c H locs cells slots Q (F0 m pc ls (.ref (oa (3, 0)) :: rest)) :=
  r_get (k := ((3, 0) : Ky)) (fs := fsMind oa) (T := TX4) (N := 9) (f := 1) C hW rfl (Nat.le_of_ble_eq_true rfl) kin_X4 kw_214 (Or.inl rfl) rfl rfl rfl hdg kk
theorem gf_X4_25  (C : Cx p s m args c RX4 ccx nL D tc ro A) (hW : Wd D (faB oa aa sh) (feB tc oa aa sh) A H0 μ H locs)  (hdg : decode ccx pc = .ok (.getfield 25, 3)) (kk : W p l e R s m args below meth c H locs cells slots Q (F0 m (pc + 3) ls (.ref (oa (11, 3)) :: rest))) : W p l e R s m args below meth c H locs cells slots Q (F0 m pc ls (.ref (oa (3, 0)) :: rest)) :=
  r_get (k := ((3, 0) : Ky)) (fs := fsMind oa) (T := TX4) (N := 9) (f := 2) C hW rfl (Nat.le_of_ble_eq_true rfl) kin_X4 kw_215 (Or.inl rfl) rfl rfl rfl hdg kk
theorem gf_X4_28  (C : Cx p s m args c RX4 ccx nL D tc ro A) (hW : Wd D (faB oa aa sh) (feB tc oa aa sh) A H0 μ H locs)  (hdg : decode ccx pc = .ok (.getfield 28, 3)) (kk : W p l e R s m args below meth c H locs cells slots Q (F0 m (pc + 3) ls (.ref (oa (11, 4)) :: rest))) : W p l e R s m args below meth c H locs cells slots Q (F0 m pc ls (.ref (oa (3, 0)) :: rest)) :=
  r_get (k := ((3, 0) : Ky)) (fs := fsMind oa) (T := TX4) (N := 9) (f := 3) C hW rfl (Nat.le_of_ble_eq_true rfl) kin_X4 kw_216 (Or.inl rfl) rfl rfl rfl hdg kk
theorem gf_X4_31  (C : Cx p s m args c RX4 ccx nL D tc ro A) (hW : Wd D (faB oa aa sh) (feB tc oa aa sh) A H0 μ H locs)  (hdg : decode ccx pc = .ok (.getfield 31, 3)) (kk : W p l e R s m args below meth c H locs cells slots Q (F0 m (pc + 3) ls (.ref (oa (11, 5)) :: rest))) : W p l e R s m args below meth c H locs cells slots Q (F0 m pc ls (.ref (oa (3, 0)) :: rest)) :=
  r_get (k := ((3, 0) : Ky)) (fs := fsMind oa) (T := TX4) (N := 9) (f := 4) C hW rfl (Nat.le_of_ble_eq_true rfl) kin_X4 kw_217 (Or.inl rfl) rfl rfl rfl hdg kk
theorem gf_X4_34  (C : Cx p s m args c RX4 ccx nL D tc ro A) (hW : Wd D (faB oa aa sh) (feB tc oa aa sh) A H0 μ H locs)  (hdg : decode ccx pc = .ok (.getfield 34, 3)) (kk : W p l e R s m args below meth c H locs cells slots Q (F0 m (pc + 3) ls (.ref (oa (11, 6)) :: rest))) : W p l e R s m args below meth c H locs cells slots Q (F0 m pc ls (.ref (oa (3, 0)) :: rest)) :=
  r_get (k := ((3, 0) : Ky)) (fs := fsMind oa) (T := TX4) (N := 9) (f := 5) C hW rfl (Nat.le_of_ble_eq_true rfl) kin_X4 kw_218 (Or.inl rfl) rfl rfl rfl hdg kk
theorem gf_X4_37  (C : Cx p s m args c RX4 ccx nL D tc ro A) (hW : Wd D (faB oa aa sh) (feB tc oa aa sh) A H0 μ H locs)  (hdg : decode ccx pc = .ok (.getfield 37, 3)) (kk : W p l e R s m args below meth c H locs cells slots Q (F0 m (pc + 3) ls (.ref (oa (11, 7)) :: rest))) : W p l e R s m args below meth c H locs cells slots Q (F0 m pc ls (.ref (oa (3, 0)) :: rest)) :=
  r_get (k := ((3, 0) : Ky)) (fs := fsMind oa) (T := TX4) (N := 9) (f := 6) C hW rfl (Nat.le_of_ble_eq_true rfl) kin_X4 kw_219 (Or.inl rfl) rfl rfl rfl hdg kk
theorem gf_X4_42  (C : Cx p s m args c RX4 ccx nL D tc ro A) (hW : Wd D (faB oa aa sh) (feB tc oa aa sh) A H0 μ H locs)  (hdg : decode ccx pc = .ok (.getfield 42, 3)) (kk : W p l e R s m args below meth c H locs cells slots Q (F0 m (pc + 3) ls (.ref (oa (11, 8)) :: rest))) : W p l e R s m args below meth c H locs cells slots Q (F0 m pc ls (.ref (oa (3, 0)) :: rest)) :=
  r_get (k := ((3, 0) : Ky)) (fs := fsMind oa) (T := TX4) (N := 9) (f := 7) C hW rfl (Nat.le_of_ble_eq_true rfl) kin_X4 kw_220 (Or.inl rfl) rfl rfl rfl hdg kk
theorem gf_X4_45  (C : Cx p s m args c RX4 ccx nL D tc ro A) (hW : Wd D (faB oa aa sh) (feB tc oa aa sh) A H0 μ H locs)  (hdg : decode ccx pc = .ok (.getfield 45, 3)) (kk : W p l e R s m args below meth c H locs cells slots Q (F0 m (pc + 3) ls (.ref (oa (11, 9)) :: rest))) : W p l e R s m args below meth c H locs cells slots Q (F0 m pc ls (.ref (oa (3, 0)) :: rest)) :=
  r_get (k := ((3, 0) : Ky)) (fs := fsMind oa) (T := TX4) (N := 9) (f := 8) C hW rfl (Nat.le_of_ble_eq_true rfl) kin_X4 kw_221 (Or.inl rfl) rfl rfl rfl hdg kk
theorem gf_X4_52 {j0 : Nat} (C : Cx p s m args c RX4 ccx nL D tc ro A) (hW : Wd D (faB oa aa sh) (feB tc oa aa sh) A H0 μ H locs) (hj0 : sh 2 j0 = 1) (hdg : decode ccx pc = .ok (.getfield 52, 3)) (kk : W p l e R s m args below meth c H locs cells slots Q (F0 m (pc + 3) ls (.int (μ (13, j0) 2) :: rest))) : W p l e R s m args below meth c H locs cells slots Q (F0 m pc ls (.ref (oa (13, j0)) :: rest)) :=
  r_get (k := ((13, j0) : Ky)) (fs := fsSt oa sh j0 (μ (13, j0))) (T := TX6) (N := 16) (f := 2) C hW rfl (Nat.le_of_ble_eq_true rfl) kin_X6 kw_397 (Or.inl rfl) (faB_13 hj0) rfl rfl hdg kk
theorem gf_X4_78 {j0 : Nat} (C : Cx p s m args c RX4 ccx nL D tc ro A) (hW : Wd D (faB oa aa sh) (feB tc oa aa sh) A H0 μ H locs) (hj0 : sh 2 j0 = 1) (hdg : decode ccx pc = .ok (.getfield 78, 3)) (kk : W p l e R s m args below meth c H locs cells slots Q (F0 m (pc + 3) ls (.int (μ (13, j0) 1) :: rest))) : W p l e R s m args below meth c H locs cells slots Q (F0 m pc ls (.ref (oa (13, j0)) :: rest)) :=
  r_get (k := ((13, j0) : Ky)) (fs := fsSt oa sh j0 (μ (13, j0))) (T := TX6) (N := 16) (f := 1) C hW rfl (Nat.le_of_ble_eq_true rfl) kin_X6 kw_394 (Or.inl rfl) (faB_13 hj0) rfl rfl hdg kk
theorem gf_X4_81 {j0 : Nat} (C : Cx p s m args c RX4 ccx nL D tc ro A) (hW : Wd D (faB oa aa sh) (feB tc oa aa sh) A H0 μ H locs) (hj0 : sh 2 j0 = 1) (hdg : decode ccx pc = .ok (.getfield 81, 3)) (kk : W p l e R s m args below meth c H locs cells slots Q (F0 m (pc + 3) ls (.int (μ (13, j0) 3) :: rest))) : W p l e R s m args below meth c H locs cells slots Q (F0 m pc ls (.ref (oa (13, j0)) :: rest)) :=
  r_get (k := ((13, j0) : Ky)) (fs := fsSt oa sh j0 (μ (13, j0))) (T := TX6) (N := 16) (f := 3) C hW rfl (Nat.le_of_ble_eq_true rfl) kin_X6 kw_403 (Or.inl rfl) (faB_13 hj0) rfl rfl hdg kk
theorem gf_X4_84 {j0 : Nat} (C : Cx p s m args c RX4 ccx nL D tc ro A) (hW : Wd D (faB oa aa sh) (feB tc oa aa sh) A H0 μ H locs) (hj0 : sh 2 j0 = 1) (hdg : decode ccx pc = .ok (.getfield 84, 3)) (kk : W p l e R s m args below meth c H locs cells slots Q (F0 m (pc + 3) ls (.ref (oa (11, 15 + 5 * j0 + 2)) :: rest))) : W p l e R s m args below meth c H locs cells slots Q (F0 m pc ls (.ref (oa (13, j0)) :: rest)) :=
  r_get (k := ((13, j0) : Ky)) (fs := fsSt oa sh j0 (μ (13, j0))) (T := TX6) (N := 16) (f := 11) C hW rfl (Nat.le_of_ble_eq_true rfl) kin_X6 kw_427 (Or.inl rfl) (faB_13 hj0) rfl rfl hdg kk
theorem gf_X5_103 {j0 : Nat} (C : Cx p s m args c RX5 ccx nL D tc ro A) (hW : Wd D (faB oa aa sh) (feB tc oa aa sh) A H0 μ H locs) (hj0 : sh 2 j0 = 1) (hdg : decode ccx pc = .ok (.getfield 103, 3)) (kk : W p l e R s m args below meth c H locs cells slots Q (F0 m (pc + 3) ls (.int (μ (13, j0) 0) :: rest))) : W p l e R s m args below meth c H locs cells slots Q (F0 m pc ls (.ref (oa (13, j0)) :: rest)) :=
  r_get (k := ((13, j0) : Ky)) (fs := fsSt oa sh j0 (μ (13, j0))) (T := TX6) (N := 16) (f := 0) C hW rfl (Nat.le_of_ble_eq_true rfl) kin_X6 kw_387 (Or.inl rfl) (faB_13 hj0) rfl rfl hdg kk
theorem gf_X5_126 {j0 : Nat} (C : Cx p s m args c RX5 ccx nL D tc ro A) (hW : Wd D (faB oa aa sh) (feB tc oa aa sh) A H0 μ H locs) (hj0 : sh 2 j0 = 1) (hdg : decode ccx pc = .ok (.getfield 126, 3)) (kk : W p l e R s m args below meth c H locs cells slots Q (F0 m (pc + 3) ls (.ref (oa (11, 15 + 5 * j0 + 1)) :: rest))) : W p l e R s m args below meth c H locs cells slots Q (F0 m pc ls (.ref (oa (13, j0)) :: rest)) :=
  r_get (k := ((13, j0) : Ky)) (fs := fsSt oa sh j0 (μ (13, j0))) (T := TX6) (N := 16) (f := 10) C hW rfl (Nat.le_of_ble_eq_true rfl) kin_X6 kw_423 (Or.inl rfl) (faB_13 hj0) rfl rfl hdg kk
theorem gf_X5_16  (C : Cx p s m args c RX5 ccx nL D tc ro A) (hW : Wd D (faB oa aa sh) (feB tc oa aa sh) A H0 μ H locs)  (hdg : decode ccx pc = .ok (.getfield 16, 3)) (kk : W p l e R s m args below meth c H locs cells slots Q (F0 m (pc + 3) ls (.ref (oa (11, 10)) :: rest))) : W p l e R s m args below meth c H locs cells slots Q (F0 m pc ls (.ref (oa (5, 0)) :: rest)) :=
  r_get (k := ((5, 0) : Ky)) (fs := fsPuz oa (μ (5, 0))) (T := TX5) (N := 7) (f := 1) C hW rfl (Nat.le_of_ble_eq_true rfl) kin_X5 kw_260 (Or.inl rfl) rfl rfl rfl hdg kk
theorem gf_X5_22  (C : Cx p s m args c RX5 ccx nL D tc ro A) (hW : Wd D (faB oa aa sh) (feB tc oa aa sh) A H0 μ H locs)  (hdg : decode ccx pc = .ok (.getfield 22, 3)) (kk : W p l e R s m args below meth c H locs cells slots Q (F0 m (pc + 3) ls (.ref (oa (11, 11)) :: rest))) : W p l e R s m args below meth c H locs cells slots Q (F0 m pc ls (.ref (oa (5, 0)) :: rest)) :=
  r_get (k := ((5, 0) : Ky)) (fs := fsPuz oa (μ (5, 0))) (T := TX5) (N := 7) (f := 3) C hW rfl (Nat.le_of_ble_eq_true rfl) kin_X5 kw_262 (Or.inl rfl) rfl rfl rfl hdg kk
theorem gf_X5_25  (C : Cx p s m args c RX5 ccx nL D tc ro A) (hW : Wd D (faB oa aa sh) (feB tc oa aa sh) A H0 μ H locs)  (hdg : decode ccx pc = .ok (.getfield 25, 3)) (kk : W p l e R s m args below meth c H locs cells slots Q (F0 m (pc + 3) ls (.ref (oa (11, 12)) :: rest))) : W p l e R s m args below meth c H locs cells slots Q (F0 m pc ls (.ref (oa (5, 0)) :: rest)) :=
  r_get (k := ((5, 0) : Ky)) (fs := fsPuz oa (μ (5, 0))) (T := TX5) (N := 7) (f := 4) C hW rfl (Nat.le_of_ble_eq_true rfl) kin_X5 kw_263 (Or.inl rfl) rfl rfl rfl hdg kk
theorem gf_X5_28  (C : Cx p s m args c RX5 ccx nL D tc ro A) (hW : Wd D (faB oa aa sh) (feB tc oa aa sh) A H0 μ H locs)  (hdg : decode ccx pc = .ok (.getfield 28, 3)) (kk : W p l e R s m args below meth c H locs cells slots Q (F0 m (pc + 3) ls (.ref (oa (11, 13)) :: rest))) : W p l e R s m args below meth c H locs cells slots Q (F0 m pc ls (.ref (oa (5, 0)) :: rest)) :=
  r_get (k := ((5, 0) : Ky)) (fs := fsPuz oa (μ (5, 0))) (T := TX5) (N := 7) (f := 5) C hW rfl (Nat.le_of_ble_eq_true rfl) kin_X5 kw_264 (Or.inl rfl) rfl rfl rfl hdg kk
theorem gf_X5_31  (C : Cx p s m args c RX5 ccx nL D tc ro A) (hW : Wd D (faB oa aa sh) (feB tc oa aa sh) A H0 μ H locs)  (hdg : decode ccx pc = .ok (.getfield 31, 3)) (kk : W p l e R s m args below meth c H locs cells slots Q (F0 m (pc + 3) ls (.ref (oa (11, 14)) :: rest))) : W p l e R s m args below meth c H locs cells slots Q (F0 m pc ls (.ref (oa (5, 0)) :: rest)) :=
  r_get (k := ((5, 0) : Ky)) (fs := fsPuz oa (μ (5, 0))) (T := TX5) (N := 7) (f := 6) C hW rfl (Nat.le_of_ble_eq_true rfl) kin_X5 kw_265 (Or.inl rfl) rfl rfl rfl hdg kk
theorem gf_X5_34  (C : Cx p s m args c RX5 ccx nL D tc ro A) (hW : Wd D (faB oa aa sh) (feB tc oa aa sh) A H0 μ H locs)  (hdg : decode ccx pc = .ok (.getfield 34, 3)) (kk : W p l e R s m args below meth c H locs cells slots Q (F0 m (pc + 3) ls (.ref (oa (3, 0)) :: rest))) : W p l e R s m args below meth c H locs cells slots Q (F0 m pc ls (.ref (oa (5, 0)) :: rest)) :=
  r_get (k := ((5, 0) : Ky)) (fs := fsPuz oa (μ (5, 0))) (T := TX5) (N := 7) (f := 0) C hW rfl (Nat.le_of_ble_eq_true rfl) kin_X5 kw_259 (Or.inl rfl) rfl rfl rfl hdg kk
theorem gf_X5_42 {j0 : Nat} (C : Cx p s m args c RX5 ccx nL D tc ro A) (hW : Wd D (faB oa aa sh) (feB tc oa aa sh) A H0 μ H locs) (hj0 : sh 2 j0 = 1) (hdg : decode ccx pc = .ok (.getfield 42, 3)) (kk : W p l e R s m args below meth c H locs cells slots Q (F0 m (pc + 3) ls (.int (μ (13, j0) 1) :: rest))) : W p l e R s m args below meth c H locs cells slots Q (F0 m pc ls (.ref (oa (13, j0)) :: rest)) :=
  r_get (k := ((13, j0) : Ky)) (fs := fsSt oa sh j0 (μ (13, j0))) (T := TX6) (N := 16) (f := 1) C hW rfl (Nat.le_of_ble_eq_true rfl) kin_X6 kw_390 (Or.inl rfl) (faB_13 hj0) rfl rfl hdg kk
theorem gf_X5_56  (C : Cx p s m args c RX5 ccx nL D tc ro A) (hW : Wd D (faB oa aa sh) (feB tc oa aa sh) A H0 μ H locs)  (hdg : decode ccx pc = .ok (.getfield 56, 3)) (kk : W p l e R s m args below meth c H locs cells slots Q (F0 m (pc + 3) ls (.int (μ (5, 0) 2) :: rest))) : W p l e R s m args below meth c H locs cells slots Q (F0 m pc ls (.ref (oa (5, 0)) :: rest)) :=
  r_get (k := ((5, 0) : Ky)) (fs := fsPuz oa (μ (5, 0))) (T := TX5) (N := 7) (f := 2) C hW rfl (Nat.le_of_ble_eq_true rfl) kin_X5 kw_261 (Or.inl rfl) rfl rfl rfl hdg kk
theorem gf_X5_59 {j0 : Nat} (C : Cx p s m args c RX5 ccx nL D tc ro A) (hW : Wd D (faB oa aa sh) (feB tc oa aa sh) A H0 μ H locs) (hj0 : sh 2 j0 = 1) (hdg : decode ccx pc = .ok (.getfield 59, 3)) (kk : W p l e R s m args below meth c H locs cells slots Q (F0 m (pc + 3) ls (.int (μ (13, j0) 3) :: rest))) : W p l e R s m args below meth c H locs cells slots Q (F0 m pc ls (.ref (oa (13, j0)) :: rest)) :=
  r_get (k := ((13, j0) : Ky)) (fs := fsSt oa sh j0 (μ (13, j0))) (T := TX6) (N := 16) (f := 3) C hW rfl (Nat.le_of_ble_eq_true rfl) kin_X6 kw_402 (Or.inl rfl) (faB_13 hj0) rfl rfl hdg kk
theorem gf_X5_66 {j0 : Nat} (C : Cx p s m args c RX5 ccx nL D tc ro A) (hW : Wd D (faB oa aa sh) (feB tc oa aa sh) A H0 μ H locs) (hj0 : sh 2 j0 = 1) (hdg : decode ccx pc = .ok (.getfield 66, 3)) (kk : W p l e R s m args below meth c H locs cells slots Q (F0 m (pc + 3) ls (.int (μ (13, j0) 2) :: rest))) : W p l e R s m args below meth c H locs cells slots Q (F0 m pc ls (.ref (oa (13, j0)) :: rest)) :=
  r_get (k := ((13, j0) : Ky)) (fs := fsSt oa sh j0 (μ (13, j0))) (T := TX6) (N := 16) (f := 2) C hW rfl (Nat.le_of_ble_eq_true rfl) kin_X6 kw_398 (Or.inl rfl) (faB_13 hj0) rfl rfl hdg kk
theorem gf_X5_90 {j0 : Nat} (C : Cx p s m args c RX5 ccx nL D tc ro A) (hW : Wd D (faB oa aa sh) (feB tc oa aa sh) A H0 μ H locs) (hj0 : sh 2 j0 = 1) (hdg : decode ccx pc = .ok (.getfield 90, 3)) (kk : W p l e R s m args below meth c H locs cells slots Q (F0 m (pc + 3) ls (.ref (oa (11, 15 + 5 * j0 + 2)) :: rest))) : W p l e R s m args below meth c H locs cells slots Q (F0 m pc ls (.ref (oa (13, j0)) :: rest)) :=
  r_get (k := ((13, j0) : Ky)) (fs := fsSt oa sh j0 (μ (13, j0))) (T := TX6) (N := 16) (f := 11) C hW rfl (Nat.le_of_ble_eq_true rfl) kin_X6 kw_429 (Or.inl rfl) (faB_13 hj0) rfl rfl hdg kk
theorem gf_X6_15 {j0 : Nat} (C : Cx p s m args c RX6 ccx nL D tc ro A) (hW : Wd D (faB oa aa sh) (feB tc oa aa sh) A H0 μ H locs) (hj0 : sh 2 j0 = 1) (hdg : decode ccx pc = .ok (.getfield 15, 3)) (kk : W p l e R s m args below meth c H locs cells slots Q (F0 m (pc + 3) ls (.int (μ (13, j0) 2) :: rest))) : W p l e R s m args below meth c H locs cells slots Q (F0 m pc ls (.ref (oa (13, j0)) :: rest)) :=
  r_get (k := ((13, j0) : Ky)) (fs := fsSt oa sh j0 (μ (13, j0))) (T := TX6) (N := 16) (f := 2) C hW rfl (Nat.le_of_ble_eq_true rfl) kin_X6 kw_396 (Or.inl rfl) (faB_13 hj0) rfl rfl hdg kk
theorem gf_X6_18 {j0 : Nat} (C : Cx p s m args c RX6 ccx nL D tc ro A) (hW : Wd D (faB oa aa sh) (feB tc oa aa sh) A H0 μ H locs) (hj0 : sh 2 j0 = 1) (hdg : decode ccx pc = .ok (.getfield 18, 3)) (kk : W p l e R s m args below meth c H locs cells slots Q (F0 m (pc + 3) ls (.int (μ (13, j0) 5) :: rest))) : W p l e R s m args below meth c H locs cells slots Q (F0 m pc ls (.ref (oa (13, j0)) :: rest)) :=
  r_get (k := ((13, j0) : Ky)) (fs := fsSt oa sh j0 (μ (13, j0))) (T := TX6) (N := 16) (f := 5) C hW rfl (Nat.le_of_ble_eq_true rfl) kin_X6 kw_410 (Or.inl rfl) (faB_13 hj0) rfl rfl hdg kk
theorem gf_X6_26 {j0 : Nat} (C : Cx p s m args c RX6 ccx nL D tc ro A) (hW : Wd D (faB oa aa sh) (feB tc oa aa sh) A H0 μ H locs) (hj0 : sh 2 j0 = 1) (hdg : decode ccx pc = .ok (.getfield 26, 3)) (kk : W p l e R s m args below meth c H locs cells slots Q (F0 m (pc + 3) ls (.ref (oa (11, 15 + 5 * j0 + 0)) :: rest))) : W p l e R s m args below meth c H locs cells slots Q (F0 m pc ls (.ref (oa (13, j0)) :: rest)) :=
  r_get (k := ((13, j0) : Ky)) (fs := fsSt oa sh j0 (μ (13, j0))) (T := TX6) (N := 16) (f := 9) C hW rfl (Nat.le_of_ble_eq_true rfl) kin_X6 kw_420 (Or.inl rfl) (faB_13 hj0) rfl rfl hdg kk
theorem gf_X6_30 {j0 : Nat} (C : Cx p s m args c RX6 ccx nL D tc ro A) (hW : Wd D (faB oa aa sh) (feB tc oa aa sh) A H0 μ H locs) (hj0 : sh 2 j0 = 1) (hdg : decode ccx pc = .ok (.getfield 30, 3)) (kk : W p l e R s m args below meth c H locs cells slots Q (F0 m (pc + 3) ls (.ref (oa (11, 15 + 5 * j0 + 1)) :: rest))) : W p l e R s m args below meth c H locs cells slots Q (F0 m pc ls (.ref (oa (13, j0)) :: rest)) :=
  r_get (k := ((13, j0) : Ky)) (fs := fsSt oa sh j0 (μ (13, j0))) (T := TX6) (N := 16) (f := 10) C hW rfl (Nat.le_of_ble_eq_true rfl) kin_X6 kw_421 (Or.inl rfl) (faB_13 hj0) rfl rfl hdg kk
theorem gf_X6_33 {j0 : Nat} (C : Cx p s m args c RX6 ccx nL D tc ro A) (hW : Wd D (faB oa aa sh) (feB tc oa aa sh) A H0 μ H locs) (hj0 : sh 2 j0 = 1) (hdg : decode ccx pc = .ok (.getfield 33, 3)) (kk : W p l e R s m args below meth c H locs cells slots Q (F0 m (pc + 3) ls (.ref (oa (11, 15 + 5 * j0 + 2)) :: rest))) : W p l e R s m args below meth c H locs cells slots Q (F0 m pc ls (.ref (oa (13, j0)) :: rest)) :=
  r_get (k := ((13, j0) : Ky)) (fs := fsSt oa sh j0 (μ (13, j0))) (T := TX6) (N := 16) (f := 11) C hW rfl (Nat.le_of_ble_eq_true rfl) kin_X6 kw_425 (Or.inl rfl) (faB_13 hj0) rfl rfl hdg kk
theorem gf_X6_36 {j0 : Nat} (C : Cx p s m args c RX6 ccx nL D tc ro A) (hW : Wd D (faB oa aa sh) (feB tc oa aa sh) A H0 μ H locs) (hj0 : sh 2 j0 = 1) (hdg : decode ccx pc = .ok (.getfield 36, 3)) (kk : W p l e R s m args below meth c H locs cells slots Q (F0 m (pc + 3) ls (.ref (oa (11, 15 + 5 * j0 + 3)) :: rest))) : W p l e R s m args below meth c H locs cells slots Q (F0 m pc ls (.ref (oa (13, j0)) :: rest)) :=
  r_get (k := ((13, j0) : Ky)) (fs := fsSt oa sh j0 (μ (13, j0))) (T := TX6) (N := 16) (f := 12) C hW rfl (Nat.le_of_ble_eq_true rfl) kin_X6 kw_431 (Or.inl rfl) (faB_13 hj0) rfl rfl hdg kk
theorem gf_X6_39 {j0 : Nat} (C : Cx p s m args c RX6 ccx nL D tc ro A) (hW : Wd D (faB oa aa sh) (feB tc oa aa sh) A H0 μ H locs) (hj0 : sh 2 j0 = 1) (hdg : decode ccx pc = .ok (.getfield 39, 3)) (kk : W p l e R s m args below meth c H locs cells slots Q (F0 m (pc + 3) ls (.ref (oa (11, 15 + 5 * j0 + 4)) :: rest))) : W p l e R s m args below meth c H locs cells slots Q (F0 m pc ls (.ref (oa (13, j0)) :: rest)) :=
  r_get (k := ((13, j0) : Ky)) (fs := fsSt oa sh j0 (μ (13, j0))) (T := TX6) (N := 16) (f := 13) C hW rfl (Nat.le_of_ble_eq_true rfl) kin_X6 kw_433 (Or.inl rfl) (faB_13 hj0) rfl rfl hdg kk
theorem gf_X6_46 {j0 : Nat} (C : Cx p s m args c RX6 ccx nL D tc ro A) (hW : Wd D (faB oa aa sh) (feB tc oa aa sh) A H0 μ H locs) (hj0 : sh 2 j0 = 1) (hdg : decode ccx pc = .ok (.getfield 46, 3)) (kk : W p l e R s m args below meth c H locs cells slots Q (F0 m (pc + 3) ls (.int (μ (13, j0) 1) :: rest))) : W p l e R s m args below meth c H locs cells slots Q (F0 m pc ls (.ref (oa (13, j0)) :: rest)) :=
  r_get (k := ((13, j0) : Ky)) (fs := fsSt oa sh j0 (μ (13, j0))) (T := TX6) (N := 16) (f := 1) C hW rfl (Nat.le_of_ble_eq_true rfl) kin_X6 kw_391 (Or.inl rfl) (faB_13 hj0) rfl rfl hdg kk
theorem gf_X6_49 {j0 : Nat} (C : Cx p s m args c RX6 ccx nL D tc ro A) (hW : Wd D (faB oa aa sh) (feB tc oa aa sh) A H0 μ H locs) (hj0 : sh 2 j0 = 1) (hdg : decode ccx pc = .ok (.getfield 49, 3)) (kk : W p l e R s m args below meth c H locs cells slots Q (F0 m (pc + 3) ls (.int (μ (13, j0) 3) :: rest))) : W p l e R s m args below meth c H locs cells slots Q (F0 m pc ls (.ref (oa (13, j0)) :: rest)) :=
  r_get (k := ((13, j0) : Ky)) (fs := fsSt oa sh j0 (μ (13, j0))) (T := TX6) (N := 16) (f := 3) C hW rfl (Nat.le_of_ble_eq_true rfl) kin_X6 kw_401 (Or.inl rfl) (faB_13 hj0) rfl rfl hdg kk
theorem gf_X6_52 {j0 : Nat} (C : Cx p s m args c RX6 ccx nL D tc ro A) (hW : Wd D (faB oa aa sh) (feB tc oa aa sh) A H0 μ H locs) (hj0 : sh 2 j0 = 1) (hdg : decode ccx pc = .ok (.getfield 52, 3)) (kk : W p l e R s m args below meth c H locs cells slots Q (F0 m (pc + 3) ls (.int (μ (13, j0) 4) :: rest))) : W p l e R s m args below meth c H locs cells slots Q (F0 m pc ls (.ref (oa (13, j0)) :: rest)) :=
  r_get (k := ((13, j0) : Ky)) (fs := fsSt oa sh j0 (μ (13, j0))) (T := TX6) (N := 16) (f := 4) C hW rfl (Nat.le_of_ble_eq_true rfl) kin_X6 kw_406 (Or.inl rfl) (faB_13 hj0) rfl rfl hdg kk
theorem gf_X6_55 {j0 : Nat} (C : Cx p s m args c RX6 ccx nL D tc ro A) (hW : Wd D (faB oa aa sh) (feB tc oa aa sh) A H0 μ H locs) (hj0 : sh 2 j0 = 1) (hdg : decode ccx pc = .ok (.getfield 55, 3)) (kk : W p l e R s m args below meth c H locs cells slots Q (F0 m (pc + 3) ls (.int (μ (13, j0) 6) :: rest))) : W p l e R s m args below meth c H locs cells slots Q (F0 m pc ls (.ref (oa (13, j0)) :: rest)) :=
  r_get (k := ((13, j0) : Ky)) (fs := fsSt oa sh j0 (μ (13, j0))) (T := TX6) (N := 16) (f := 6) C hW rfl (Nat.le_of_ble_eq_true rfl) kin_X6 kw_412 (Or.inl rfl) (faB_13 hj0) rfl rfl hdg kk
theorem gf_X6_58 {j0 : Nat} (C : Cx p s m args c RX6 ccx nL D tc ro A) (hW : Wd D (faB oa aa sh) (feB tc oa aa sh) A H0 μ H locs) (hj0 : sh 2 j0 = 1) (hdg : decode ccx pc = .ok (.getfield 58, 3)) (kk : W p l e R s m args below meth c H locs cells slots Q (F0 m (pc + 3) ls (.int (μ (13, j0) 7) :: rest))) : W p l e R s m args below meth c H locs cells slots Q (F0 m pc ls (.ref (oa (13, j0)) :: rest)) :=
  r_get (k := ((13, j0) : Ky)) (fs := fsSt oa sh j0 (μ (13, j0))) (T := TX6) (N := 16) (f := 7) C hW rfl (Nat.le_of_ble_eq_true rfl) kin_X6 kw_414 (Or.inl rfl) (faB_13 hj0) rfl rfl hdg kk
theorem gn_X6_62 {j0 : Nat} (C : Cx p s m args c RX6 ccx nL D tc ro A) (hW : Wd D (faB oa aa sh) (feB tc oa aa sh) A H0 μ H locs) (hj0 : sh 2 j0 = 1) (q : sh 3 j0 = 0) (hdg : decode ccx pc = .ok (.getfield 62, 3)) (kk : W p l e R s m args below meth c H locs cells slots Q (F0 m (pc + 3) ls (.null :: rest))) : W p l e R s m args below meth c H locs cells slots Q (F0 m pc ls (.ref (oa (13, j0)) :: rest)) :=
  r_get (k := ((13, j0) : Ky)) (fs := fsSt oa sh j0 (μ (13, j0))) (T := TX6) (N := 16) (f := 8) C hW rfl (Nat.le_of_ble_eq_true rfl) kin_X6 kw_417 (Or.inl rfl) (faB_13 hj0) rfl (by exact congrArg some (if_pos q)) hdg kk
theorem gf_X6_62 {j0 : Nat} (C : Cx p s m args c RX6 ccx nL D tc ro A) (hW : Wd D (faB oa aa sh) (feB tc oa aa sh) A H0 μ H locs) (hj0 : sh 2 j0 = 1) (q : ¬ sh 3 j0 = 0) (hdg : decode ccx pc = .ok (.getfield 62, 3)) (kk : W p l e R s m args below meth c H locs cells slots Q (F0 m (pc + 3) ls (.ref (oa (14, sh 3 j0 - 1)) :: rest))) : W p l e R s m args below meth c H locs cells slots Q (F0 m pc ls (.ref (oa (13, j0)) :: rest)) :=
  r_get (k := ((13, j0) : Ky)) (fs := fsSt oa sh j0 (μ (13, j0))) (T := TX6) (N := 16) (f := 8) C hW rfl (Nat.le_of_ble_eq_true rfl) kin_X6 kw_417 (Or.inl rfl) (faB_13 hj0) rfl (by exact congrArg some (if_neg q)) hdg kk
theorem gf_X6_66 {j0 : Nat} (C : Cx p s m args c RX6 ccx nL D tc ro A) (hW : Wd D (faB oa aa sh) (feB tc oa aa sh) A H0 μ H locs) (hj0 : sh 2 j0 = 1) (hdg : decode ccx pc = .ok (.getfield 66, 3)) (kk : W p l e R s m args below meth c H locs cells slots Q (F0 m (pc + 3) ls (.int (μ (13, j0) 14) :: rest))) : W p l e R s m args below meth c H locs cells slots Q (F0 m pc ls (.ref (oa (13, j0)) :: rest)) :=
  r_get (k := ((13, j0) : Ky)) (fs := fsSt oa sh j0 (μ (13, j0))) (T := TX6) (N := 16) (f := 14) C hW rfl (Nat.le_of_ble_eq_true rfl) kin_X6 kw_434 (Or.inl rfl) (faB_13 hj0) rfl rfl hdg kk
theorem gf_X6_69 {j0 : Nat} (C : Cx p s m args c RX6 ccx nL D tc ro A) (hW : Wd D (faB oa aa sh) (feB tc oa aa sh) A H0 μ H locs) (hj0 : sh 2 j0 = 1) (hdg : decode ccx pc = .ok (.getfield 69, 3)) (kk : W p l e R s m args below meth c H locs cells slots Q (F0 m (pc + 3) ls (.int (μ (13, j0) 15) :: rest))) : W p l e R s m args below meth c H locs cells slots Q (F0 m pc ls (.ref (oa (13, j0)) :: rest)) :=
  r_get (k := ((13, j0) : Ky)) (fs := fsSt oa sh j0 (μ (13, j0))) (T := TX6) (N := 16) (f := 15) C hW rfl (Nat.le_of_ble_eq_true rfl) kin_X6 kw_436 (Or.inl rfl) (faB_13 hj0) rfl rfl hdg kk
theorem gf_X6_9 {j0 : Nat} (C : Cx p s m args c RX6 ccx nL D tc ro A) (hW : Wd D (faB oa aa sh) (feB tc oa aa sh) A H0 μ H locs) (hj0 : sh 2 j0 = 1) (hdg : decode ccx pc = .ok (.getfield 9, 3)) (kk : W p l e R s m args below meth c H locs cells slots Q (F0 m (pc + 3) ls (.int (μ (13, j0) 0) :: rest))) : W p l e R s m args below meth c H locs cells slots Q (F0 m pc ls (.ref (oa (13, j0)) :: rest)) :=
  r_get (k := ((13, j0) : Ky)) (fs := fsSt oa sh j0 (μ (13, j0))) (T := TX6) (N := 16) (f := 0) C hW rfl (Nat.le_of_ble_eq_true rfl) kin_X6 kw_385 (Or.inl rfl) (faB_13 hj0) rfl rfl hdg kk
theorem gf_X7_14  (C : Cx p s m args c RX7 ccx nL D tc ro A) (hW : Wd D (faB oa aa sh) (feB tc oa aa sh) A H0 μ H locs)  (hdg : decode ccx pc = .ok (.getfield 14, 3)) (kk : W p l e R s m args below meth c H locs cells slots Q (F0 m (pc + 3) ls (.ref (oa (11, 0)) :: rest))) : W p l e R s m args below meth c H locs cells slots Q (F0 m pc ls (.ref (oa (2, 0)) :: rest)) :=
  r_get (k := ((2, 0) : Ky)) (fs := fsTape oa (μ (2, 0))) (T := TX7) (N := 2) (f := 0) C hW rfl (Nat.le_of_ble_eq_true rfl) kin_X7 kw_198 (Or.inl rfl) rfl rfl rfl hdg kk
theorem gf_X7_18  (C : Cx p s m args c RX7 ccx nL D tc ro A) (hW : Wd D (faB oa aa sh) (feB tc oa aa sh) A H0 μ H locs)  (hdg : decode ccx pc = .ok (.getfield 18, 3)) (kk : W p l e R s m args below meth c H locs cells slots Q (F0 m (pc + 3) ls (.int (μ (2, 0) 1) :: rest))) : W p l e R s m args below meth c H locs cells slots Q (F0 m pc ls (.ref (oa (2, 0)) :: rest)) :=
  r_get (k := ((2, 0) : Ky)) (fs := fsTape oa (μ (2, 0))) (T := TX7) (N := 2) (f := 1) C hW rfl (Nat.le_of_ble_eq_true rfl) kin_X7 kw_199 (Or.inl rfl) rfl rfl rfl hdg kk
theorem fp_State_4 (tc : Nat → ClassId) (oa : Ky → Nat) (aa : Nat → Nat) (sh : Sh) (j0 : Nat) (r : Nat → Int32) (v : Int32) : feB tc oa aa sh (13, j0) (upd r 4 v) = .inr (6, (fsSt oa sh j0 r).set 4 (.int v)) := rfl
theorem pf_X0_68 {j0 : Nat} (C : Cx p s m args c RX0 ccx nL D tc ro A) (hW : Wd D (faB oa aa sh) (feB tc oa aa sh) A H0 μ H locs) (hj0 : sh 2 j0 = 1) {v : Int32} (hdg : decode ccx pc = .ok (.putfield 68, 3)) (kk : ∀ (H1 : Heap) (locs1 : List Loc), Wd D (faB oa aa sh) (feB tc oa aa sh) A H0 (mst μ (13, j0) 4 v) H1 locs1 → W p l e R s m args below meth c H1 locs1 cells slots Q (F0 m (pc + 3) ls rest)) : W p l e R s m args below meth c H locs cells slots Q (F0 m pc ls (.int v :: .ref (oa (13, j0)) :: rest)) :=
  r_put (k := ((13, j0) : Ky)) (fs := fsSt oa sh j0 (μ (13, j0))) (T := TX6) (N := 16) (f := 4) C hW rfl (Nat.le_of_ble_eq_true rfl) kin_X6 tyX6_ok nmX6 kw_407 (Or.inl rfl) rfl (ty := .int) (by decide +kernel) (faB_13 hj0) rfl (Nat.le_of_ble_eq_true rfl) rfl rfl (fp_State_4 tc oa aa sh _ _ v) hdg kk
theorem fp_State_5 (tc : Nat → ClassId) (oa : Ky → Nat) (aa : Nat → Nat) (sh : Sh) (j0 : Nat) (r : Nat → Int32) (v : Int32) : feB tc oa aa sh (13, j0) (upd r 5 v) = .inr (6, (fsSt oa sh j0 r).set 5 (.int v)) := rfl
theorem pf_X10_303 {j0 : Nat} (C : Cx p s m args c RX10 ccx nL D tc ro A) (hW : Wd D (faB oa aa sh) (feB tc oa aa sh) A H0 μ H locs) (hj0 : sh 2 j0 = 1) {v : Int32} (hdg : decode ccx pc = .ok (.putfield 303, 3)) (kk : ∀ (H1 : Heap) (locs1 : List Loc), Wd D (faB oa aa sh) (feB tc oa aa sh) A H0 (mst μ (13, j0) 5 v) H1 locs1 → W p l e R s m args below meth c H1 locs1 cells slots Q (F0 m (pc + 3) ls rest)) : W p l e R s m args below meth c H locs cells slots Q (F0 m pc ls (.int v :: .ref (oa (13, j0)) :: rest)) :=
  r_put (k := ((13, j0) : Ky)) (fs := fsSt oa sh j0 (μ (13, j0))) (T := TX6) (N := 16) (f := 5) C hW rfl (Nat.le_of_ble_eq_true rfl) kin_X6 tyX6_ok nmX6 kw_411 (Or.inl rfl) rfl (ty := .int) (by decide +kernel) (faB_13 hj0) rfl (Nat.le_of_ble_eq_true rfl) rfl rfl (fp_State_5 tc oa aa sh _ _ v) hdg kk
theorem fp_BV_8 (tc : Nat → ClassId) (oa : Ky → Nat) (aa : Nat → Nat) (sh : Sh) (r : Nat → Int32) (v : Int32) : feB tc oa aa sh (0, 0) (upd r 8 v) = .inr (10, (fsBV oa sh r).set 8 (.int v)) := rfl
theorem pf_X10_364  (C : Cx p s m args c RX10 ccx nL D tc ro A) (hW : Wd D (faB oa aa sh) (feB tc oa aa sh) A H0 μ H locs)  {v : Int32} (hdg : decode ccx pc = .ok (.putfield 364, 3)) (kk : ∀ (H1 : Heap) (locs1 : List Loc), Wd D (faB oa aa sh) (feB tc oa aa sh) A H0 (mst μ (0, 0) 8 v) H1 locs1 → W p l e R s m args below meth c H1 locs1 cells slots Q (F0 m (pc + 3) ls rest)) : W p l e R s m args below meth c H locs cells slots Q (F0 m pc ls (.int v :: .ref (oa (0, 0)) :: rest)) :=
  r_put (k := ((0, 0) : Ky)) (fs := fsBV oa sh (μ (0, 0))) (T := TX10) (N := 13) (f := 8) C hW rfl (Nat.le_of_ble_eq_true rfl) kin_X10 tyX10_ok nmX10 kw_478 (Or.inl rfl) rfl (ty := .int) (by decide +kernel) rfl rfl (Nat.le_of_ble_eq_true rfl) rfl rfl (fp_BV_8 tc oa aa sh _ v) hdg kk
theorem fp_Puz_2 (tc : Nat → ClassId) (oa : Ky → Nat) (aa : Nat → Nat) (sh : Sh) (r : Nat → Int32) (v : Int32) : feB tc oa aa sh (5, 0) (upd r 2 v) = .inr (5, (fsPuz oa r).set 2 (.int v)) := rfl
theorem pf_X5_56  (C : Cx p s m args c RX5 ccx nL D tc ro A) (hW : Wd D (faB oa aa sh) (feB tc oa aa sh) A H0 μ H locs)  {v : Int32} (hdg : decode ccx pc = .ok (.putfield 56, 3)) (kk : ∀ (H1 : Heap) (locs1 : List Loc), Wd D (faB oa aa sh) (feB tc oa aa sh) A H0 (mst μ (5, 0) 2 v) H1 locs1 → W p l e R s m args below meth c H1 locs1 cells slots Q (F0 m (pc + 3) ls rest)) : W p l e R s m args below meth c H locs cells slots Q (F0 m pc ls (.int v :: .ref (oa (5, 0)) :: rest)) :=
  r_put (k := ((5, 0) : Ky)) (fs := fsPuz oa (μ (5, 0))) (T := TX5) (N := 7) (f := 2) C hW rfl (Nat.le_of_ble_eq_true rfl) kin_X5 tyX5_ok nmX5 kw_261 (Or.inl rfl) rfl (ty := .int) (by decide +kernel) rfl rfl (Nat.le_of_ble_eq_true rfl) rfl rfl (fp_Puz_2 tc oa aa sh _ v) hdg kk
theorem fp_State_2 (tc : Nat → ClassId) (oa : Ky → Nat) (aa : Nat → Nat) (sh : Sh) (j0 : Nat) (r : Nat → Int32) (v : Int32) : feB tc oa aa sh (13, j0) (upd r 2 v) = .inr (6, (fsSt oa sh j0 r).set 2 (.int v)) := rfl
theorem pf_X6_15 {j0 : Nat} (C : Cx p s m args c RX6 ccx nL D tc ro A) (hW : Wd D (faB oa aa sh) (feB tc oa aa sh) A H0 μ H locs) (hj0 : sh 2 j0 = 1) {v : Int32} (hdg : decode ccx pc = .ok (.putfield 15, 3)) (kk : ∀ (H1 : Heap) (locs1 : List Loc), Wd D (faB oa aa sh) (feB tc oa aa sh) A H0 (mst μ (13, j0) 2 v) H1 locs1 → W p l e R s m args below meth c H1 locs1 cells slots Q (F0 m (pc + 3) ls rest)) : W p l e R s m args below meth c H locs cells slots Q (F0 m pc ls (.int v :: .ref (oa (13, j0)) :: rest)) :=
  r_put (k := ((13, j0) : Ky)) (fs := fsSt oa sh j0 (μ (13, j0))) (T := TX6) (N := 16) (f := 2) C hW rfl (Nat.le_of_ble_eq_true rfl) kin_X6 tyX6_ok nmX6 kw_396 (Or.inl rfl) rfl (ty := .int) (by decide +kernel) (faB_13 hj0) rfl (Nat.le_of_ble_eq_true rfl) rfl rfl (fp_State_2 tc oa aa sh _ _ v) hdg kk
theorem pf_X6_18 {j0 : Nat} (C : Cx p s m args c RX6 ccx nL D tc ro A) (hW : Wd D (faB oa aa sh) (feB tc oa aa sh) A H0 μ H locs) (hj0 : sh 2 j0 = 1) {v : Int32} (hdg : decode ccx pc = .ok (.putfield 18, 3)) (kk : ∀ (H1 : Heap) (locs1 : List Loc), Wd D (faB oa aa sh) (feB tc oa aa sh) A H0 (mst μ (13, j0) 5 v) H1 locs1 → W p l e R s m args below meth c H1 locs1 cells slots Q (F0 m (pc + 3) ls rest)) : W p l e R s m args below meth c H locs cells slots Q (F0 m pc ls (.int v :: .ref (oa (13, j0)) :: rest)) :=
  r_put (k := ((13, j0) : Ky)) (fs := fsSt oa sh j0 (μ (13, j0))) (T := TX6) (N := 16) (f := 5) C hW rfl (Nat.le_of_ble_eq_true rfl) kin_X6 tyX6_ok nmX6 kw_410 (Or.inl rfl) rfl (ty := .int) (by decide +kernel) (faB_13 hj0) rfl (Nat.le_of_ble_eq_true rfl) rfl rfl (fp_State_5 tc oa aa sh _ _ v) hdg kk
theorem fp_State_1 (tc : Nat → ClassId) (oa : Ky → Nat) (aa : Nat → Nat) (sh : Sh) (j0 : Nat) (r : Nat → Int32) (v : Int32) : feB tc oa aa sh (13, j0) (upd r 1 v) = .inr (6, (fsSt oa sh j0 r).set 1 (.int v)) := rfl
theorem pf_X6_46 {j0 : Nat} (C : Cx p s m args c RX6 ccx nL D tc ro A) (hW : Wd D (faB oa aa sh) (feB tc oa aa sh) A H0 μ H locs) (hj0 : sh 2 j0 = 1) {v : Int32} (hdg : decode ccx pc = .ok (.putfield 46, 3)) (kk : ∀ (H1 : Heap) (locs1 : List Loc), Wd D (faB oa aa sh) (feB tc oa aa sh) A H0 (mst μ (13, j0) 1 v) H1 locs1 → W p l e R s m args below meth c H1 locs1 cells slots Q (F0 m (pc + 3) ls rest)) : W p l e R s m args below meth c H locs cells slots Q (F0 m pc ls (.int v :: .ref (oa (13, j0)) :: rest)) :=
  r_put (k := ((13, j0) : Ky)) (fs := fsSt oa sh j0 (μ (13, j0))) (T := TX6) (N := 16) (f := 1) C hW rfl (Nat.le_of_ble_eq_true rfl) kin_X6 tyX6_ok nmX6 kw_391 (Or.inl rfl) rfl (ty := .int) (by decide +kernel) (faB_13 hj0) rfl (Nat.le_of_ble_eq_true rfl) rfl rfl (fp_State_1 tc oa aa sh _ _ v) hdg kk
theorem fp_State_3 (tc : Nat → ClassId) (oa : Ky → Nat) (aa : Nat → Nat) (sh : Sh) (j0 : Nat) (r : Nat → Int32) (v : Int32) : feB tc oa aa sh (13, j0) (upd r 3 v) = .inr (6, (fsSt oa sh j0 r).set 3 (.int v)) := rfl
theorem pf_X6_49 {j0 : Nat} (C : Cx p s m args c RX6 ccx nL D tc ro A) (hW : Wd D (faB oa aa sh) (feB tc oa aa sh) A H0 μ H locs) (hj0 : sh 2 j0 = 1) {v : Int32} (hdg : decode ccx pc = .ok (.putfield 49, 3)) (kk : ∀ (H1 : Heap) (locs1 : List Loc), Wd D (faB oa aa sh) (feB tc oa aa sh) A H0 (mst μ (13, j0) 3 v) H1 locs1 → W p l e R s m args below meth c H1 locs1 cells slots Q (F0 m (pc + 3) ls rest)) : W p l e R s m args below meth c H locs cells slots Q (F0 m pc ls (.int v :: .ref (oa (13, j0)) :: rest)) :=
  r_put (k := ((13, j0) : Ky)) (fs := fsSt oa sh j0 (μ (13, j0))) (T := TX6) (N := 16) (f := 3) C hW rfl (Nat.le_of_ble_eq_true rfl) kin_X6 tyX6_ok nmX6 kw_401 (Or.inl rfl) rfl (ty := .int) (by decide +kernel) (faB_13 hj0) rfl (Nat.le_of_ble_eq_true rfl) rfl rfl (fp_State_3 tc oa aa sh _ _ v) hdg kk
theorem pf_X6_52 {j0 : Nat} (C : Cx p s m args c RX6 ccx nL D tc ro A) (hW : Wd D (faB oa aa sh) (feB tc oa aa sh) A H0 μ H locs) (hj0 : sh 2 j0 = 1) {v : Int32} (hdg : decode ccx pc = .ok (.putfield 52, 3)) (kk : ∀ (H1 : Heap) (locs1 : List Loc), Wd D (faB oa aa sh) (feB tc oa aa sh) A H0 (mst μ (13, j0) 4 v) H1 locs1 → W p l e R s m args below meth c H1 locs1 cells slots Q (F0 m (pc + 3) ls rest)) : W p l e R s m args below meth c H locs cells slots Q (F0 m pc ls (.int v :: .ref (oa (13, j0)) :: rest)) :=
  r_put (k := ((13, j0) : Ky)) (fs := fsSt oa sh j0 (μ (13, j0))) (T := TX6) (N := 16) (f := 4) C hW rfl (Nat.le_of_ble_eq_true rfl) kin_X6 tyX6_ok nmX6 kw_406 (Or.inl rfl) rfl (ty := .int) (by decide +kernel) (faB_13 hj0) rfl (Nat.le_of_ble_eq_true rfl) rfl rfl (fp_State_4 tc oa aa sh _ _ v) hdg kk
theorem fp_State_6 (tc : Nat → ClassId) (oa : Ky → Nat) (aa : Nat → Nat) (sh : Sh) (j0 : Nat) (r : Nat → Int32) (v : Int32) : feB tc oa aa sh (13, j0) (upd r 6 v) = .inr (6, (fsSt oa sh j0 r).set 6 (.int v)) := rfl
theorem pf_X6_55 {j0 : Nat} (C : Cx p s m args c RX6 ccx nL D tc ro A) (hW : Wd D (faB oa aa sh) (feB tc oa aa sh) A H0 μ H locs) (hj0 : sh 2 j0 = 1) {v : Int32} (hdg : decode ccx pc = .ok (.putfield 55, 3)) (kk : ∀ (H1 : Heap) (locs1 : List Loc), Wd D (faB oa aa sh) (feB tc oa aa sh) A H0 (mst μ (13, j0) 6 v) H1 locs1 → W p l e R s m args below meth c H1 locs1 cells slots Q (F0 m (pc + 3) ls rest)) : W p l e R s m args below meth c H locs cells slots Q (F0 m pc ls (.int v :: .ref (oa (13, j0)) :: rest)) :=
  r_put (k := ((13, j0) : Ky)) (fs := fsSt oa sh j0 (μ (13, j0))) (T := TX6) (N := 16) (f := 6) C hW rfl (Nat.le_of_ble_eq_true rfl) kin_X6 tyX6_ok nmX6 kw_412 (Or.inl rfl) rfl (ty := .int) (by decide +kernel) (faB_13 hj0) rfl (Nat.le_of_ble_eq_true rfl) rfl rfl (fp_State_6 tc oa aa sh _ _ v) hdg kk
theorem fp_State_7 (tc : Nat → ClassId) (oa : Ky → Nat) (aa : Nat → Nat) (sh : Sh) (j0 : Nat) (r : Nat → Int32) (v : Int32) : feB tc oa aa sh (13, j0) (upd r 7 v) = .inr (6, (fsSt oa sh j0 r).set 7 (.int v)) := rfl
theorem pf_X6_58 {j0 : Nat} (C : Cx p s m args c RX6 ccx nL D tc ro A) (hW : Wd D (faB oa aa sh) (feB tc oa aa sh) A H0 μ H locs) (hj0 : sh 2 j0 = 1) {v : Int32} (hn : narrow .boolean (.int v) = .int v) (hf : fits .boolean (.int v) = true) (hdg : decode ccx pc = .ok (.putfield 58, 3)) (kk : ∀ (H1 : Heap) (locs1 : List Loc), Wd D (faB oa aa sh) (feB tc oa aa sh) A H0 (mst μ (13, j0) 7 v) H1 locs1 → W p l e R s m args below meth c H1 locs1 cells slots Q (F0 m (pc + 3) ls rest)) : W p l e R s m args below meth c H locs cells slots Q (F0 m pc ls (.int v :: .ref (oa (13, j0)) :: rest)) :=
  r_put (k := ((13, j0) : Ky)) (fs := fsSt oa sh j0 (μ (13, j0))) (T := TX6) (N := 16) (f := 7) C hW rfl (Nat.le_of_ble_eq_true rfl) kin_X6 tyX6_ok nmX6 kw_414 (Or.inl rfl) rfl (ty := .boolean) (by decide +kernel) (faB_13 hj0) rfl (Nat.le_of_ble_eq_true rfl) hn hf (fp_State_7 tc oa aa sh _ _ v) hdg kk
theorem fp_State_14 (tc : Nat → ClassId) (oa : Ky → Nat) (aa : Nat → Nat) (sh : Sh) (j0 : Nat) (r : Nat → Int32) (v : Int32) : feB tc oa aa sh (13, j0) (upd r 14 v) = .inr (6, (fsSt oa sh j0 r).set 14 (.int v)) := rfl
theorem pf_X6_66 {j0 : Nat} (C : Cx p s m args c RX6 ccx nL D tc ro A) (hW : Wd D (faB oa aa sh) (feB tc oa aa sh) A H0 μ H locs) (hj0 : sh 2 j0 = 1) {v : Int32} (hdg : decode ccx pc = .ok (.putfield 66, 3)) (kk : ∀ (H1 : Heap) (locs1 : List Loc), Wd D (faB oa aa sh) (feB tc oa aa sh) A H0 (mst μ (13, j0) 14 v) H1 locs1 → W p l e R s m args below meth c H1 locs1 cells slots Q (F0 m (pc + 3) ls rest)) : W p l e R s m args below meth c H locs cells slots Q (F0 m pc ls (.int v :: .ref (oa (13, j0)) :: rest)) :=
  r_put (k := ((13, j0) : Ky)) (fs := fsSt oa sh j0 (μ (13, j0))) (T := TX6) (N := 16) (f := 14) C hW rfl (Nat.le_of_ble_eq_true rfl) kin_X6 tyX6_ok nmX6 kw_434 (Or.inl rfl) rfl (ty := .int) (by decide +kernel) (faB_13 hj0) rfl (Nat.le_of_ble_eq_true rfl) rfl rfl (fp_State_14 tc oa aa sh _ _ v) hdg kk
theorem fp_State_15 (tc : Nat → ClassId) (oa : Ky → Nat) (aa : Nat → Nat) (sh : Sh) (j0 : Nat) (r : Nat → Int32) (v : Int32) : feB tc oa aa sh (13, j0) (upd r 15 v) = .inr (6, (fsSt oa sh j0 r).set 15 (.int v)) := rfl
theorem pf_X6_69 {j0 : Nat} (C : Cx p s m args c RX6 ccx nL D tc ro A) (hW : Wd D (faB oa aa sh) (feB tc oa aa sh) A H0 μ H locs) (hj0 : sh 2 j0 = 1) {v : Int32} (hdg : decode ccx pc = .ok (.putfield 69, 3)) (kk : ∀ (H1 : Heap) (locs1 : List Loc), Wd D (faB oa aa sh) (feB tc oa aa sh) A H0 (mst μ (13, j0) 15 v) H1 locs1 → W p l e R s m args below meth c H1 locs1 cells slots Q (F0 m (pc + 3) ls rest)) : W p l e R s m args below meth c H locs cells slots Q (F0 m pc ls (.int v :: .ref (oa (13, j0)) :: rest)) :=
  r_put (k := ((13, j0) : Ky)) (fs := fsSt oa sh j0 (μ (13, j0))) (T := TX6) (N := 16) (f := 15) C hW rfl (Nat.le_of_ble_eq_true rfl) kin_X6 tyX6_ok nmX6 kw_436 (Or.inl rfl) rfl (ty := .int) (by decide +kernel) (faB_13 hj0) rfl (Nat.le_of_ble_eq_true rfl) rfl rfl (fp_State_15 tc oa aa sh _ _ v) hdg kk
theorem fp_State_0 (tc : Nat → ClassId) (oa : Ky → Nat) (aa : Nat → Nat) (sh : Sh) (j0 : Nat) (r : Nat → Int32) (v : Int32) : feB tc oa aa sh (13, j0) (upd r 0 v) = .inr (6, (fsSt oa sh j0 r).set 0 (.int v)) := rfl
theorem pf_X6_9 {j0 : Nat} (C : Cx p s m args c RX6 ccx nL D tc ro A) (hW : Wd D (faB oa aa sh) (feB tc oa aa sh) A H0 μ H locs) (hj0 : sh 2 j0 = 1) {v : Int32} (hdg : decode ccx pc = .ok (.putfield 9, 3)) (kk : ∀ (H1 : Heap) (locs1 : List Loc), Wd D (faB oa aa sh) (feB tc oa aa sh) A H0 (mst μ (13, j0) 0 v) H1 locs1 → W p l e R s m args below meth c H1 locs1 cells slots Q (F0 m (pc + 3) ls rest)) : W p l e R s m args below meth c H locs cells slots Q (F0 m pc ls (.int v :: .ref (oa (13, j0)) :: rest)) :=
  r_put (k := ((13, j0) : Ky)) (fs := fsSt oa sh j0 (μ (13, j0))) (T := TX6) (N := 16) (f := 0) C hW rfl (Nat.le_of_ble_eq_true rfl) kin_X6 tyX6_ok nmX6 kw_385 (Or.inl rfl) rfl (ty := .int) (by decide +kernel) (faB_13 hj0) rfl (Nat.le_of_ble_eq_true rfl) rfl rfl (fp_State_0 tc oa aa sh _ _ v) hdg kk
theorem fp_Tape_1 (tc : Nat → ClassId) (oa : Ky → Nat) (aa : Nat → Nat) (sh : Sh) (r : Nat → Int32) (v : Int32) : feB tc oa aa sh (2, 0) (upd r 1 v) = .inr (7, (fsTape oa r).set 1 (.int v)) := rfl
theorem pf_X7_18  (C : Cx p s m args c RX7 ccx nL D tc ro A) (hW : Wd D (faB oa aa sh) (feB tc oa aa sh) A H0 μ H locs)  {v : Int32} (hdg : decode ccx pc = .ok (.putfield 18, 3)) (kk : ∀ (H1 : Heap) (locs1 : List Loc), Wd D (faB oa aa sh) (feB tc oa aa sh) A H0 (mst μ (2, 0) 1 v) H1 locs1 → W p l e R s m args below meth c H1 locs1 cells slots Q (F0 m (pc + 3) ls rest)) : W p l e R s m args below meth c H locs cells slots Q (F0 m pc ls (.int v :: .ref (oa (2, 0)) :: rest)) :=
  r_put (k := ((2, 0) : Ky)) (fs := fsTape oa (μ (2, 0))) (T := TX7) (N := 2) (f := 1) C hW rfl (Nat.le_of_ble_eq_true rfl) kin_X7 tyX7_ok nmX7 kw_199 (Or.inl rfl) rfl (ty := .int) (by decide +kernel) rfl rfl (Nat.le_of_ble_eq_true rfl) rfl rfl (fp_Tape_1 tc oa aa sh _ v) hdg kk
end FIELDSB
theorem lk_J7_13 : LkS RJ7 13 yJ7_rangeCheck_23922 cJ7_rangeCheck_23922 3 none 3 := ⟨⟨kw_597, kw_598, kw_149, kw_599⟩, by decide, by decide, by decide +kernel⟩
theorem lk_X0_101 : LkV RX0 101 RX4 yX4_saidIn cX4_saidIn 2 (some .int) 1 := ⟨⟨kw_976, kw_977, kw_978, kw_141, kw_979⟩, rfl, by decide, by decide, by decide +kernel⟩
theorem lk_X0_15 : LkV RX0 15 RX4 yX4_meet cX4_meet 6 none 3 := ⟨⟨kw_1551, kw_1519, kw_1520, kw_141, kw_1521⟩, rfl, by decide, by decide, by decide +kernel⟩
theorem lk_X0_27 : LkV RX0 27 RX4 yX4_mannerIn cX4_mannerIn 2 (some .int) 1 := ⟨⟨kw_1552, kw_1537, kw_1538, kw_141, kw_1539⟩, rfl, by decide, by decide, by decide +kernel⟩
theorem lk_X0_34 : LkV RX0 34 RX4 yX4_split cX4_split 6 none 2 := ⟨⟨kw_1553, kw_1285, kw_1286, kw_141, kw_1287⟩, rfl, by decide, by decide, by decide +kernel⟩
theorem lk_X0_42 : LkV RX0 42 RX4 yX4_sureBits cX4_sureBits 5 (some .int) 2 := ⟨⟨kw_980, kw_981, kw_982, kw_141, kw_983⟩, rfl, by decide, by decide, by decide +kernel⟩
theorem lk_X0_46 : LkV RX0 46 RX6 yX6_note cX6_note 7 none 5 := ⟨⟨kw_988, kw_989, kw_990, kw_147, kw_991⟩, rfl, by decide, by decide, by decide +kernel⟩
theorem lk_X0_50 : LkV RX0 50 RX4 yX4_look cX4_look 5 none 3 := ⟨⟨kw_1565, kw_1281, kw_1282, kw_141, kw_1283⟩, rfl, by decide, by decide, by decide +kernel⟩
theorem lk_X0_53 : LkV RX0 53 RX6 yX6_figure cX6_figure 4 (some .int) 2 := ⟨⟨kw_1566, kw_940, kw_941, kw_147, kw_942⟩, rfl, by decide, by decide, by decide +kernel⟩
theorem lk_X0_57 : LkV RX0 57 RX4 yX4_sayWhetherSure cX4_sayWhetherSure 4 none 2 := ⟨⟨kw_1578, kw_1579, kw_1580, kw_141, kw_1581⟩, rfl, by decide, by decide, by decide +kernel⟩
theorem lk_X0_60 : LkV RX0 60 RX0 yX0_heardByAll cX0_heardByAll 2 (some .int) 1 := ⟨⟨kw_967, kw_969, kw_5, kw_142, kw_970⟩, rfl, by decide, by decide, by decide +kernel⟩
theorem lk_X0_64 : LkV RX0 64 RX4 yX4_sayWhoIsSure cX4_sayWhoIsSure 5 none 2 := ⟨⟨kw_586, kw_587, kw_588, kw_141, kw_589⟩, rfl, by decide, by decide, by decide +kernel⟩
theorem lk_X0_71 : LkV RX0 71 RX4 yX4_sayNotice cX4_sayNotice 4 none 2 := ⟨⟨kw_1593, kw_1003, kw_1004, kw_141, kw_1005⟩, rfl, by decide, by decide, by decide +kernel⟩
theorem lk_X0_74 : LkV RX0 74 RX4 yX4_sayWhetherMany cX4_sayWhetherMany 7 none 4 := ⟨⟨kw_1621, kw_1296, kw_1297, kw_141, kw_1298⟩, rfl, by decide, by decide, by decide +kernel⟩
theorem lk_X0_78 : LkV RX0 78 RX6 yX6_many cX6_many 5 (some .int) 2 := ⟨⟨kw_1622, kw_1300, kw_1301, kw_147, kw_1302⟩, rfl, by decide, by decide, by decide +kernel⟩
theorem lk_X0_81 : LkV RX0 81 RX4 yX4_sayAnswer cX4_sayAnswer 9 none 5 := ⟨⟨kw_1634, kw_1635, kw_1636, kw_141, kw_1637⟩, rfl, by decide, by decide, by decide +kernel⟩
theorem lk_X0_85 : LkV RX0 85 RX6 yX6_draw cX6_draw 1 (some .int) 0 := ⟨⟨kw_1649, kw_1650, kw_1651, kw_147, kw_1652⟩, rfl, by decide, by decide, by decide +kernel⟩
theorem lk_X0_89 : LkV RX0 89 RX6 yX6_hasSight cX6_hasSight 3 (some .boolean) 2 := ⟨⟨kw_1654, kw_1422, kw_1423, kw_147, kw_1424⟩, rfl, by decide, by decide, by decide +kernel⟩
theorem lk_X0_93 : LkV RX0 93 RX0 yX0_treatOne cX0_treatOne 7 (some .int) 4 := ⟨⟨kw_1655, kw_1548, kw_1549, kw_142, kw_1550⟩, rfl, by decide, by decide, by decide +kernel⟩
theorem lk_X0_97 : LkV RX0 97 RX4 yX4_heed cX4_heed 6 (some .boolean) 2 := ⟨⟨kw_971, kw_972, kw_973, kw_141, kw_974⟩, rfl, by decide, by decide, by decide +kernel⟩
theorem lk_X10_141 : LkV RX10 141 RX10 yX10_needPerson cX10_needPerson 2 none 1 := ⟨⟨kw_1394, kw_1396, kw_21, kw_137, kw_1397⟩, rfl, by decide, by decide, by decide +kernel⟩
theorem lk_X10_147 : LkV RX10 147 RX6 yX6_figure cX6_figure 4 (some .int) 2 := ⟨⟨kw_1415, kw_940, kw_941, kw_147, kw_942⟩, rfl, by decide, by decide, by decide +kernel⟩
theorem lk_X10_155 : LkV RX10 155 RX1 yX1_at cX1_at 2 (some .int) 1 := ⟨⟨kw_1416, kw_931, kw_932, kw_139, kw_933⟩, rfl, by decide, by decide, by decide +kernel⟩
theorem lk_X10_160 : LkV RX10 160 RX6 yX6_seers cX6_seers 4 (some .int) 1 := ⟨⟨kw_1417, kw_1418, kw_1419, kw_147, kw_1420⟩, rfl, by decide, by decide, by decide +kernel⟩
theorem lk_X10_166 : LkV RX10 166 RX4 yX4_isSure cX4_isSure 5 (some .boolean) 4 := ⟨⟨kw_1426, kw_1007, kw_1008, kw_141, kw_1009⟩, rfl, by decide, by decide, by decide +kernel⟩
theorem lk_X10_170 : LkV RX10 170 RX4 yX4_holds cX4_holds 5 (some .int) 2 := ⟨⟨kw_1018, kw_1019, kw_1020, kw_141, kw_1021⟩, rfl, by decide, by decide, by decide +kernel⟩
theorem lk_X10_174 : LkV RX10 174 RX4 yX4_knownBits cX4_knownBits 5 (some .int) 2 := ⟨⟨kw_1427, kw_1428, kw_1429, kw_141, kw_1430⟩, rfl, by decide, by decide, by decide +kernel⟩
theorem lk_X10_182 : LkV RX10 182 RX10 yX10_needWorld cX10_needWorld 2 none 1 := ⟨⟨kw_1454, kw_1456, kw_22, kw_137, kw_1457⟩, rfl, by decide, by decide, by decide +kernel⟩
theorem lk_X10_185 : LkV RX10 185 RX6 yX6_stands cX6_stands 2 (some .boolean) 1 := ⟨⟨kw_1463, kw_1027, kw_1028, kw_147, kw_1029⟩, rfl, by decide, by decide, by decide +kernel⟩
theorem lk_X10_188 : LkV RX10 188 RX10 yX10_needLeft cX10_needLeft 2 none 1 := ⟨⟨kw_1472, kw_1474, kw_23, kw_137, kw_1475⟩, rfl, by decide, by decide, by decide +kernel⟩
theorem lk_X10_191 : LkV RX10 191 RX6 yX6_group cX6_group 3 (some .int) 2 := ⟨⟨kw_1492, kw_935, kw_936, kw_147, kw_937⟩, rfl, by decide, by decide, by decide +kernel⟩
theorem lk_X10_194 : LkV RX10 194 RX10 yX10_needTwo cX10_needTwo 3 none 2 := ⟨⟨kw_1507, kw_1509, kw_24, kw_137, kw_1510⟩, rfl, by decide, by decide, by decide +kernel⟩
theorem lk_X10_198 : LkV RX10 198 RX10 yX10_needSight cX10_needSight 3 none 2 := ⟨⟨kw_1512, kw_1514, kw_25, kw_137, kw_1515⟩, rfl, by decide, by decide, by decide +kernel⟩
theorem lk_X10_201 : LkV RX10 201 RX4 yX4_meet cX4_meet 6 none 3 := ⟨⟨kw_1518, kw_1519, kw_1520, kw_141, kw_1521⟩, rfl, by decide, by decide, by decide +kernel⟩
theorem lk_X10_205 : LkV RX10 205 RX4 yX4_mannerIn cX4_mannerIn 2 (some .int) 1 := ⟨⟨kw_1536, kw_1537, kw_1538, kw_141, kw_1539⟩, rfl, by decide, by decide, by decide +kernel⟩
theorem lk_X10_233 : LkV RX10 233 RX10 yX10_needNumber cX10_needNumber 4 none 3 := ⟨⟨kw_1610, kw_1612, kw_28, kw_137, kw_1613⟩, rfl, by decide, by decide, by decide +kernel⟩
theorem lk_X10_252 : LkV RX10 252 RX0 yX0_strollBy cX0_strollBy 7 (some .int) 2 := ⟨⟨kw_1645, kw_1646, kw_1647, kw_142, kw_1648⟩, rfl, by decide, by decide, by decide +kernel⟩
theorem lk_X10_255 : LkV RX10 255 RX4 yX4_possibleBits cX4_possibleBits 9 (some .int) 5 := ⟨⟨kw_1663, kw_985, kw_986, kw_141, kw_987⟩, rfl, by decide, by decide, by decide +kernel⟩
theorem lk_X10_259 : LkV RX10 259 RX4 yX4_onlyOne cX4_onlyOne 2 (some .int) 1 := ⟨⟨kw_1671, kw_954, kw_955, kw_141, kw_956⟩, rfl, by decide, by decide, by decide +kernel⟩
theorem lk_X10_262 : LkV RX10 262 RX4 yX4_knowsThat cX4_knowsThat 6 (some .boolean) 4 := ⟨⟨kw_1679, kw_1680, kw_1681, kw_141, kw_1682⟩, rfl, by decide, by decide, by decide +kernel⟩
theorem lk_X10_266 : LkV RX10 266 RX4 yX4_knownByAll cX4_knownByAll 6 (some .int) 2 := ⟨⟨kw_1690, kw_1691, kw_1692, kw_141, kw_1693⟩, rfl, by decide, by decide, by decide +kernel⟩
theorem lk_X10_269 : LkV RX10 269 RX10 yX10_needPersonOrNone cX10_needPersonOrNone 2 none 1 := ⟨⟨kw_1705, kw_1707, kw_30, kw_137, kw_1708⟩, rfl, by decide, by decide, by decide +kernel⟩
theorem lk_X10_272 : LkV RX10 272 RX4 yX4_daysUntilSure cX4_daysUntilSure 5 (some .int) 2 := ⟨⟨kw_1709, kw_1710, kw_1711, kw_141, kw_1712⟩, rfl, by decide, by decide, by decide +kernel⟩
theorem lk_X10_275 : LkV RX10 275 RX5 yX5_fewestBacks cX5_fewestBacks 6 (some .int) 2 := ⟨⟨kw_1724, kw_1725, kw_1726, kw_143, kw_1727⟩, rfl, by decide, by decide, by decide +kernel⟩
theorem lk_X10_278 : LkV RX10 278 RX4 yX4_whoGivesAway cX4_whoGivesAway 5 (some .int) 2 := ⟨⟨kw_1753, kw_1754, kw_1755, kw_141, kw_1756⟩, rfl, by decide, by decide, by decide +kernel⟩
theorem lk_X10_281 : LkV RX10 281 RX4 yX4_whoNeverGivesAway cX4_whoNeverGivesAway 5 (some .int) 2 := ⟨⟨kw_1773, kw_1774, kw_1775, kw_141, kw_1776⟩, rfl, by decide, by decide, by decide +kernel⟩
theorem lk_X10_284 : LkV RX10 284 RX5 yX5_firstQuestion cX5_firstQuestion 3 (some .int) 2 := ⟨⟨kw_1788, kw_1789, kw_1790, kw_143, kw_1791⟩, rfl, by decide, by decide, by decide +kernel⟩
theorem lk_X10_287 : LkV RX10 287 RX5 yX5_fewestQueries cX5_fewestQueries 3 (some .int) 2 := ⟨⟨kw_1806, kw_1807, kw_1808, kw_143, kw_1809⟩, rfl, by decide, by decide, by decide +kernel⟩
theorem lk_X10_290 : LkV RX10 290 RX4 yX4_spilledBy cX4_spilledBy 5 (some .int) 2 := ⟨⟨kw_998, kw_999, kw_1000, kw_141, kw_1001⟩, rfl, by decide, by decide, by decide +kernel⟩
theorem lk_X10_296 : LkV RX10 296 RX5 yX5_playGame cX5_playGame 7 (some .int) 3 := ⟨⟨kw_1830, kw_1831, kw_1832, kw_143, kw_1833⟩, rfl, by decide, by decide, by decide +kernel⟩
theorem lk_X10_300 : LkV RX10 300 RX5 yX5_stepsBetween cX5_stepsBetween 8 (some .int) 3 := ⟨⟨kw_1845, kw_1846, kw_1847, kw_143, kw_1848⟩, rfl, by decide, by decide, by decide +kernel⟩
theorem lk_X10_306 : LkV RX10 306 RX10 yX10_sureBehindStroll cX10_sureBehindStroll 3 (some .int) 2 := ⟨⟨kw_1856, kw_1858, kw_40, kw_137, kw_1859⟩, rfl, by decide, by decide, by decide +kernel⟩
theorem lk_X10_309 : LkS RX10 309 yJ6_bitCount_0f7a4 cJ6_bitCount_0f7a4 1 (some .int) 1 := ⟨⟨kw_1867, kw_958, kw_163, kw_959⟩, by decide, by decide, by decide +kernel⟩
theorem lk_X10_322 : LkV RX10 322 RX4 yX4_heldAt cX4_heldAt 6 (some .int) 3 := ⟨⟨kw_1876, kw_1877, kw_1878, kw_141, kw_1879⟩, rfl, by decide, by decide, by decide +kernel⟩
theorem lk_X10_325 : LkV RX10 325 RX4 yX4_guessIn cX4_guessIn 4 (some .int) 3 := ⟨⟨kw_1887, kw_1888, kw_1889, kw_141, kw_1890⟩, rfl, by decide, by decide, by decide +kernel⟩
theorem lk_X10_328 : LkV RX10 328 RX4 yX4_rightGuesses cX4_rightGuesses 5 (some .int) 2 := ⟨⟨kw_1906, kw_1907, kw_1908, kw_141, kw_1909⟩, rfl, by decide, by decide, by decide +kernel⟩
theorem lk_X10_331 : LkV RX10 331 RX5 yX5_tellsPairs cX5_tellsPairs 7 (some .boolean) 3 := ⟨⟨kw_1921, kw_1922, kw_1923, kw_143, kw_1924⟩, rfl, by decide, by decide, by decide +kernel⟩
theorem lk_X10_337 : LkV RX10 337 RX5 yX5_standInRow cX5_standInRow 9 (some .int) 4 := ⟨⟨kw_1932, kw_1933, kw_1934, kw_143, kw_1935⟩, rfl, by decide, by decide, by decide +kernel⟩
theorem lk_X10_341 : LkV RX10 341 RX5 yX5_tellsSayings cX5_tellsSayings 5 (some .boolean) 3 := ⟨⟨kw_1957, kw_1958, kw_1959, kw_143, kw_1960⟩, rfl, by decide, by decide, by decide +kernel⟩
theorem lk_X10_346 : LkV RX10 346 RX5 yX5_whoLied cX5_whoLied 10 (some .int) 5 := ⟨⟨kw_1963, kw_1964, kw_1965, kw_143, kw_1966⟩, rfl, by decide, by decide, by decide +kernel⟩
theorem lk_X10_350 : LkV RX10 350 RX5 yX5_marry cX5_marry 8 (some .int) 2 := ⟨⟨kw_1978, kw_1979, kw_1980, kw_143, kw_1981⟩, rfl, by decide, by decide, by decide +kernel⟩
theorem lk_X10_356 : LkV RX10 356 RX6 yX6_noted cX6_noted 4 (some .int) 2 := ⟨⟨kw_2004, kw_2005, kw_2006, kw_147, kw_2007⟩, rfl, by decide, by decide, by decide +kernel⟩
theorem lk_X10_359 : LkV RX10 359 RX4 yX4_manyPossible cX4_manyPossible 5 (some .int) 2 := ⟨⟨kw_1034, kw_1035, kw_1036, kw_141, kw_1037⟩, rfl, by decide, by decide, by decide +kernel⟩
theorem lk_X10_384 : LkV RX10 384 RX2 yX2_lines cX2_lines 1 (some .int) 0 := ⟨⟨kw_1062, kw_1063, kw_1064, kw_167, kw_1065⟩, rfl, by decide, by decide, by decide +kernel⟩
theorem lk_X10_395 : LkV RX10 395 RX4 yX4_manyLeft cX4_manyLeft 4 (some .int) 1 := ⟨⟨kw_1066, kw_1067, kw_1068, kw_141, kw_1069⟩, rfl, by decide, by decide, by decide +kernel⟩
theorem lk_X10_398 : LkV RX10 398 RX4 yX4_sureBits cX4_sureBits 5 (some .int) 2 := ⟨⟨kw_1070, kw_981, kw_982, kw_141, kw_983⟩, rfl, by decide, by decide, by decide +kernel⟩
theorem lk_X10_402 : LkV RX10 402 RX6 yX6_hasPerson cX6_hasPerson 2 (some .boolean) 1 := ⟨⟨kw_1398, kw_1399, kw_1400, kw_147, kw_1401⟩, rfl, by decide, by decide, by decide +kernel⟩
theorem lk_X10_410 : LkV RX10 410 RX6 yX6_hasNotice cX6_hasNotice 2 (some .boolean) 1 := ⟨⟨kw_1605, kw_1606, kw_1607, kw_147, kw_1608⟩, rfl, by decide, by decide, by decide +kernel⟩
theorem lk_X10_415 : LkV RX10 415 RX6 yX6_hasWorld cX6_hasWorld 2 (some .boolean) 1 := ⟨⟨kw_1458, kw_1459, kw_1460, kw_147, kw_1461⟩, rfl, by decide, by decide, by decide +kernel⟩
theorem lk_X10_424 : LkV RX10 424 RX6 yX6_hasSight cX6_hasSight 3 (some .boolean) 2 := ⟨⟨kw_1516, kw_1422, kw_1423, kw_147, kw_1424⟩, rfl, by decide, by decide, by decide +kernel⟩
theorem lk_X10_71 : LkV RX10 71 RX7 yX7_hasRoomFor cX7_hasRoomFor 2 (some .boolean) 1 := ⟨⟨kw_514, kw_515, kw_516, kw_138, kw_517⟩, rfl, by decide, by decide, by decide +kernel⟩
theorem lk_X10_75 : LkV RX10 75 RX7 yX7_put cX7_put 3 none 1 := ⟨⟨kw_518, kw_519, kw_520, kw_138, kw_521⟩, rfl, by decide, by decide, by decide +kernel⟩
theorem lk_X10_79 : LkV RX10 79 RX7 yX7_size cX7_size 1 (some .int) 0 := ⟨⟨kw_523, kw_524, kw_525, kw_138, kw_526⟩, rfl, by decide, by decide, by decide +kernel⟩
theorem lk_X10_83 : LkV RX10 83 RX7 yX7_cut cX7_cut 2 (some .boolean) 1 := ⟨⟨kw_531, kw_532, kw_533, kw_138, kw_534⟩, rfl, by decide, by decide, by decide +kernel⟩
theorem lk_X10_86 : LkV RX10 86 RX7 yX7_use cX7_use 2 (some .int) 0 := ⟨⟨kw_1080, kw_1081, kw_1082, kw_138, kw_1083⟩, rfl, by decide, by decide, by decide +kernel⟩
theorem lk_X10_89 : LkV RX10 89 RX6 yX6_become cX6_become 2 none 1 := ⟨⟨kw_551, kw_552, kw_553, kw_147, kw_554⟩, rfl, by decide, by decide, by decide +kernel⟩
theorem lk_X1_19 : LkV RX1 19 RX1 yX1_at cX1_at 2 (some .int) 1 := ⟨⟨kw_947, kw_931, kw_932, kw_139, kw_933⟩, rfl, by decide, by decide, by decide +kernel⟩
theorem lk_X1_23 : LkV RX1 23 RX1 yX1_put cX1_put 3 none 2 := ⟨⟨kw_948, kw_382, kw_383, kw_139, kw_384⟩, rfl, by decide, by decide, by decide +kernel⟩
theorem lk_X1_36 : LkS RX1 36 yJ7_fill_fda19 cJ7_fill_fda19 5 none 4 := ⟨⟨kw_594, kw_595, kw_149, kw_596⟩, by decide, by decide, by decide +kernel⟩
theorem lk_X1_40 : LkV RX1 40 RX1 yX1_grow cX1_grow 2 none 1 := ⟨⟨kw_562, kw_563, kw_564, kw_139, kw_565⟩, rfl, by decide, by decide, by decide +kernel⟩
theorem lk_X2_17 : LkV RX2 17 RX1 yX1_put cX1_put 3 none 2 := ⟨⟨kw_1527, kw_382, kw_383, kw_139, kw_384⟩, rfl, by decide, by decide, by decide +kernel⟩
theorem lk_X2_23 : LkV RX2 23 RX1 yX1_at cX1_at 2 (some .int) 1 := ⟨⟨kw_1528, kw_931, kw_932, kw_139, kw_933⟩, rfl, by decide, by decide, by decide +kernel⟩
theorem lk_X2_27 : LkS RX2 27 yX2_joined cX2_joined 3 (some .int) 3 := ⟨⟨kw_1529, kw_1530, kw_167, kw_1531⟩, by decide, by decide, by decide +kernel⟩
theorem lk_X4_103 : LkV RX4 103 RX1 yX1_fill cX1_fill 3 none 2 := ⟨⟨kw_590, kw_591, kw_592, kw_139, kw_593⟩, rfl, by decide, by decide, by decide +kernel⟩
theorem lk_X4_107 : LkV RX4 107 RX1 yX1_addBits cX1_addBits 3 none 2 := ⟨⟨kw_943, kw_944, kw_945, kw_139, kw_946⟩, rfl, by decide, by decide, by decide +kernel⟩
theorem lk_X4_110 : LkV RX4 110 RX1 yX1_put cX1_put 3 none 2 := ⟨⟨kw_975, kw_382, kw_383, kw_139, kw_384⟩, rfl, by decide, by decide, by decide +kernel⟩
theorem lk_X4_113 : LkV RX4 113 RX4 yX4_spread cX4_spread 5 (some .boolean) 2 := ⟨⟨kw_1694, kw_1696, kw_29, kw_141, kw_1697⟩, rfl, by decide, by decide, by decide +kernel⟩
theorem lk_X4_117 : LkV RX4 117 RX6 yX6_many cX6_many 5 (some .int) 2 := ⟨⟨kw_1299, kw_1300, kw_1301, kw_147, kw_1302⟩, rfl, by decide, by decide, by decide +kernel⟩
theorem lk_X4_120 : LkV RX4 120 RX1 yX1_become cX1_become 4 none 2 := ⟨⟨kw_1713, kw_556, kw_557, kw_139, kw_558⟩, rfl, by decide, by decide, by decide +kernel⟩
theorem lk_X4_124 : LkV RX4 124 RX4 yX4_sureBits cX4_sureBits 5 (some .int) 2 := ⟨⟨kw_1714, kw_981, kw_982, kw_141, kw_983⟩, rfl, by decide, by decide, by decide +kernel⟩
theorem lk_X4_128 : LkV RX4 128 RX4 yX4_sayWhoIsSure cX4_sayWhoIsSure 5 none 2 := ⟨⟨kw_1715, kw_587, kw_588, kw_141, kw_589⟩, rfl, by decide, by decide, by decide +kernel⟩
theorem lk_X4_132 : LkV RX4 132 RX4 yX4_heed cX4_heed 6 (some .boolean) 2 := ⟨⟨kw_1716, kw_972, kw_973, kw_141, kw_974⟩, rfl, by decide, by decide, by decide +kernel⟩
theorem lk_X4_136 : LkV RX4 136 RX4 yX4_sayNotice cX4_sayNotice 4 none 2 := ⟨⟨kw_1002, kw_1003, kw_1004, kw_141, kw_1005⟩, rfl, by decide, by decide, by decide +kernel⟩
theorem lk_X4_140 : LkV RX4 140 RX4 yX4_isSure cX4_isSure 5 (some .boolean) 4 := ⟨⟨kw_1006, kw_1007, kw_1008, kw_141, kw_1009⟩, rfl, by decide, by decide, by decide +kernel⟩
theorem lk_X4_144 : LkV RX4 144 RX4 yX4_sureIfHeard cX4_sureIfHeard 8 (some .boolean) 3 := ⟨⟨kw_1010, kw_1011, kw_1012, kw_141, kw_1013⟩, rfl, by decide, by decide, by decide +kernel⟩
theorem lk_X4_151 : LkV RX4 151 RX6 yX6_hasSight cX6_hasSight 3 (some .boolean) 2 := ⟨⟨kw_1522, kw_1422, kw_1423, kw_147, kw_1424⟩, rfl, by decide, by decide, by decide +kernel⟩
theorem lk_X4_159 : LkV RX4 159 RX2 yX2_total cX2_total 9 (some .int) 2 := ⟨⟨kw_1523, kw_1524, kw_1525, kw_167, kw_1526⟩, rfl, by decide, by decide, by decide +kernel⟩
theorem lk_X4_163 : LkV RX4 163 RX4 yX4_firstLike cX4_firstLike 3 (some .int) 1 := ⟨⟨kw_1532, kw_1534, kw_26, kw_141, kw_1535⟩, rfl, by decide, by decide, by decide +kernel⟩
theorem lk_X4_169 : LkV RX4 169 RX4 yX4_split cX4_split 6 none 2 := ⟨⟨kw_1284, kw_1285, kw_1286, kw_141, kw_1287⟩, rfl, by decide, by decide, by decide +kernel⟩
theorem lk_X4_175 : LkV RX4 175 RX4 yX4_weigh cX4_weigh 5 none 3 := ⟨⟨kw_1757, kw_1759, kw_34, kw_141, kw_1760⟩, rfl, by decide, by decide, by decide +kernel⟩
theorem lk_X4_179 : LkV RX4 179 RX4 yX4_weighed cX4_weighed 4 (some .int) 3 := ⟨⟨kw_1762, kw_1764, kw_35, kw_141, kw_1765⟩, rfl, by decide, by decide, by decide +kernel⟩
theorem lk_X4_182 : LkV RX4 182 RX4 yX4_makesSureSomewhere cX4_makesSureSomewhere 4 (some .boolean) 2 := ⟨⟨kw_1777, kw_1779, kw_36, kw_141, kw_1780⟩, rfl, by decide, by decide, by decide +kernel⟩
theorem lk_X4_185 : LkV RX4 185 RX4 yX4_meet cX4_meet 6 none 3 := ⟨⟨kw_1761, kw_1519, kw_1520, kw_141, kw_1521⟩, rfl, by decide, by decide, by decide +kernel⟩
theorem lk_X4_188 : LkV RX4 188 RX4 yX4_tally cX4_tally 5 none 2 := ⟨⟨kw_1891, kw_1893, kw_41, kw_141, kw_1894⟩, rfl, by decide, by decide, by decide +kernel⟩
theorem lk_X4_191 : LkV RX4 191 RX4 yX4_bestIn cX4_bestIn 7 (some .int) 3 := ⟨⟨kw_1895, kw_1897, kw_42, kw_141, kw_1898⟩, rfl, by decide, by decide, by decide +kernel⟩
theorem lk_X4_194 : LkV RX4 194 RX4 yX4_strikeWrong cX4_strikeWrong 4 none 2 := ⟨⟨kw_1910, kw_1912, kw_43, kw_141, kw_1913⟩, rfl, by decide, by decide, by decide +kernel⟩
theorem lk_X4_48 : LkV RX4 48 RX6 yX6_group cX6_group 3 (some .int) 2 := ⟨⟨kw_934, kw_935, kw_936, kw_147, kw_937⟩, rfl, by decide, by decide, by decide +kernel⟩
theorem lk_X4_56 : LkV RX4 56 RX1 yX1_at cX1_at 2 (some .int) 1 := ⟨⟨kw_930, kw_931, kw_932, kw_139, kw_933⟩, rfl, by decide, by decide, by decide +kernel⟩
theorem lk_X4_60 : LkV RX4 60 RX6 yX6_figure cX6_figure 4 (some .int) 2 := ⟨⟨kw_939, kw_940, kw_941, kw_147, kw_942⟩, rfl, by decide, by decide, by decide +kernel⟩
theorem lk_X4_63 : LkS RX4 63 yJ6_bitCount_0f7a4 cJ6_bitCount_0f7a4 1 (some .int) 1 := ⟨⟨kw_957, kw_958, kw_163, kw_959⟩, by decide, by decide, by decide +kernel⟩
theorem lk_X4_68 : LkS RX4 68 yJ6_numberOfTrailingZeros_0f7a4 cJ6_numberOfTrailingZeros_0f7a4 2 (some .int) 1 := ⟨⟨kw_963, kw_964, kw_163, kw_965⟩, by decide, by decide, by decide +kernel⟩
theorem lk_X4_71 : LkV RX4 71 RX4 yX4_possibleBits cX4_possibleBits 9 (some .int) 5 := ⟨⟨kw_984, kw_985, kw_986, kw_141, kw_987⟩, rfl, by decide, by decide, by decide +kernel⟩
theorem lk_X4_75 : LkV RX4 75 RX4 yX4_onlyOne cX4_onlyOne 2 (some .int) 1 := ⟨⟨kw_953, kw_954, kw_955, kw_141, kw_956⟩, rfl, by decide, by decide, by decide +kernel⟩
theorem lk_X4_87 : LkV RX4 87 RX6 yX6_stands cX6_stands 2 (some .boolean) 1 := ⟨⟨kw_1026, kw_1027, kw_1028, kw_147, kw_1029⟩, rfl, by decide, by decide, by decide +kernel⟩
theorem lk_X4_91 : LkV RX4 91 RX4 yX4_holdsWorld cX4_holdsWorld 4 (some .boolean) 3 := ⟨⟨kw_1022, kw_1024, kw_6, kw_141, kw_1025⟩, rfl, by decide, by decide, by decide +kernel⟩
theorem lk_X4_95 : LkV RX4 95 RX4 yX4_spot cX4_spot 6 none 4 := ⟨⟨kw_926, kw_928, kw_3, kw_141, kw_929⟩, rfl, by decide, by decide, by decide +kernel⟩
theorem lk_X4_99 : LkV RX4 99 RX4 yX4_spotted cX4_spotted 4 (some .int) 3 := ⟨⟨kw_949, kw_951, kw_4, kw_141, kw_952⟩, rfl, by decide, by decide, by decide +kernel⟩
theorem lk_X5_106 : LkV RX5 106 RX4 yX4_sayAnswer cX4_sayAnswer 9 none 5 := ⟨⟨kw_1797, kw_1635, kw_1636, kw_141, kw_1637⟩, rfl, by decide, by decide, by decide +kernel⟩
theorem lk_X5_110 : LkV RX5 110 RX4 yX4_sureIfHeard cX4_sureIfHeard 8 (some .boolean) 3 := ⟨⟨kw_1798, kw_1011, kw_1012, kw_141, kw_1013⟩, rfl, by decide, by decide, by decide +kernel⟩
theorem lk_X5_114 : LkV RX5 114 RX5 yX5_sureByTwo cX5_sureByTwo 6 (some .boolean) 2 := ⟨⟨kw_1810, kw_1812, kw_38, kw_143, kw_1813⟩, rfl, by decide, by decide, by decide +kernel⟩
theorem lk_X5_118 : LkV RX5 118 RX1 yX1_become cX1_become 4 none 2 := ⟨⟨kw_1814, kw_556, kw_557, kw_139, kw_558⟩, rfl, by decide, by decide, by decide +kernel⟩
theorem lk_X5_122 : LkV RX5 122 RX4 yX4_heed cX4_heed 6 (some .boolean) 2 := ⟨⟨kw_1815, kw_972, kw_973, kw_141, kw_974⟩, rfl, by decide, by decide, by decide +kernel⟩
theorem lk_X5_129 : LkV RX5 129 RX5 yX5_personAt cX5_personAt 3 (some .int) 2 := ⟨⟨kw_1925, kw_1927, kw_44, kw_143, kw_1928⟩, rfl, by decide, by decide, by decide +kernel⟩
theorem lk_X5_133 : LkV RX5 133 RX6 yX6_hasPerson cX6_hasPerson 2 (some .boolean) 1 := ⟨⟨kw_1930, kw_1399, kw_1400, kw_147, kw_1401⟩, rfl, by decide, by decide, by decide +kernel⟩
theorem lk_X5_136 : LkV RX5 136 RX7 yX7_byteAt cX7_byteAt 2 (some .int) 1 := ⟨⟨kw_1929, kw_1099, kw_1100, kw_138, kw_1101⟩, rfl, by decide, by decide, by decide +kernel⟩
theorem lk_X5_141 : LkV RX5 141 RX5 yX5_gatherPairs cX5_gatherPairs 7 none 3 := ⟨⟨kw_1936, kw_1938, kw_45, kw_143, kw_1939⟩, rfl, by decide, by decide, by decide +kernel⟩
theorem lk_X5_145 : LkV RX5 145 RX5 yX5_mayFollow cX5_mayFollow 3 (some .boolean) 2 := ⟨⟨kw_1942, kw_1944, kw_46, kw_143, kw_1945⟩, rfl, by decide, by decide, by decide +kernel⟩
theorem lk_X5_149 : LkV RX5 149 RX5 yX5_placeInRow cX5_placeInRow 7 (some .int) 2 := ⟨⟨kw_1946, kw_1948, kw_47, kw_143, kw_1949⟩, rfl, by decide, by decide, by decide +kernel⟩
theorem lk_X5_152 : LkV RX5 152 RX1 yX1_fill cX1_fill 3 none 2 := ⟨⟨kw_1940, kw_591, kw_592, kw_139, kw_593⟩, rfl, by decide, by decide, by decide +kernel⟩
theorem lk_X5_155 : LkV RX5 155 RX1 yX1_addBits cX1_addBits 3 none 2 := ⟨⟨kw_1941, kw_944, kw_945, kw_139, kw_946⟩, rfl, by decide, by decide, by decide +kernel⟩
theorem lk_X5_158 : LkV RX5 158 RX6 yX6_hasNotice cX6_hasNotice 2 (some .boolean) 1 := ⟨⟨kw_1961, kw_1606, kw_1607, kw_147, kw_1608⟩, rfl, by decide, by decide, by decide +kernel⟩
theorem lk_X5_161 : LkV RX5 161 RX5 yX5_liarsIn cX5_liarsIn 7 (some .int) 4 := ⟨⟨kw_1967, kw_1969, kw_48, kw_143, kw_1970⟩, rfl, by decide, by decide, by decide +kernel⟩
theorem lk_X5_165 : LkV RX5 165 RX5 yX5_gatherFriends cX5_gatherFriends 3 none 1 := ⟨⟨kw_1982, kw_1984, kw_49, kw_143, kw_1985⟩, rfl, by decide, by decide, by decide +kernel⟩
theorem lk_X5_169 : LkS RX5 169 yJ6_numberOfTrailingZeros_0f7a4 cJ6_numberOfTrailingZeros_0f7a4 2 (some .int) 1 := ⟨⟨kw_1987, kw_964, kw_163, kw_965⟩, by decide, by decide, by decide +kernel⟩
theorem lk_X5_172 : LkV RX5 172 RX5 yX5_mayPair cX5_mayPair 4 (some .boolean) 3 := ⟨⟨kw_1988, kw_1990, kw_50, kw_143, kw_1991⟩, rfl, by decide, by decide, by decide +kernel⟩
theorem lk_X5_181 : LkV RX5 181 RX5 yX5_partnerOf cX5_partnerOf 7 (some .int) 2 := ⟨⟨kw_1993, kw_1995, kw_51, kw_143, kw_1996⟩, rfl, by decide, by decide, by decide +kernel⟩
theorem lk_X5_184 : LkV RX5 184 RX4 yX4_knownBits cX4_knownBits 5 (some .int) 2 := ⟨⟨kw_1986, kw_1428, kw_1429, kw_141, kw_1430⟩, rfl, by decide, by decide, by decide +kernel⟩
theorem lk_X5_38 : LkV RX5 38 RX5 yX5_gatherDoubts cX5_gatherDoubts 5 none 2 := ⟨⟨kw_1728, kw_1730, kw_31, kw_143, kw_1731⟩, rfl, by decide, by decide, by decide +kernel⟩
theorem lk_X5_46 : LkS RX5 46 yJ6_bitCount_0f7a4 cJ6_bitCount_0f7a4 1 (some .int) 1 := ⟨⟨kw_1740, kw_958, kw_163, kw_959⟩, by decide, by decide, by decide +kernel⟩
theorem lk_X5_52 : LkV RX5 52 RX5 yX5_settles cX5_settles 3 (some .boolean) 1 := ⟨⟨kw_1741, kw_1743, kw_33, kw_143, kw_1744⟩, rfl, by decide, by decide, by decide +kernel⟩
theorem lk_X5_62 : LkV RX5 62 RX6 yX6_group cX6_group 3 (some .int) 2 := ⟨⟨kw_1732, kw_935, kw_936, kw_147, kw_937⟩, rfl, by decide, by decide, by decide +kernel⟩
theorem lk_X5_69 : LkV RX5 69 RX6 yX6_stands cX6_stands 2 (some .boolean) 1 := ⟨⟨kw_1733, kw_1027, kw_1028, kw_147, kw_1029⟩, rfl, by decide, by decide, by decide +kernel⟩
theorem lk_X5_72 : LkV RX5 72 RX6 yX6_figure cX6_figure 4 (some .int) 2 := ⟨⟨kw_1734, kw_940, kw_941, kw_147, kw_942⟩, rfl, by decide, by decide, by decide +kernel⟩
theorem lk_X5_75 : LkV RX5 75 RX5 yX5_unlikeBits cX5_unlikeBits 5 (some .int) 2 := ⟨⟨kw_1735, kw_1737, kw_32, kw_143, kw_1738⟩, rfl, by decide, by decide, by decide +kernel⟩
theorem lk_X5_79 : LkV RX5 79 RX1 yX1_put cX1_put 3 none 2 := ⟨⟨kw_1739, kw_382, kw_383, kw_139, kw_384⟩, rfl, by decide, by decide, by decide +kernel⟩
theorem lk_X5_83 : LkV RX5 83 RX1 yX1_at cX1_at 2 (some .int) 1 := ⟨⟨kw_1745, kw_931, kw_932, kw_139, kw_933⟩, rfl, by decide, by decide, by decide +kernel⟩
theorem lk_X5_86 : LkV RX5 86 RX5 yX5_bestMove cX5_bestMove 9 (some .int) 3 := ⟨⟨kw_1834, kw_1836, kw_39, kw_143, kw_1837⟩, rfl, by decide, by decide, by decide +kernel⟩
theorem lk_X5_93 : LkV RX5 93 RX4 yX4_isSure cX4_isSure 5 (some .boolean) 4 := ⟨⟨kw_1792, kw_1007, kw_1008, kw_141, kw_1009⟩, rfl, by decide, by decide, by decide +kernel⟩
theorem lk_X5_99 : LkV RX5 99 RX5 yX5_questionIn cX5_questionIn 7 (some .int) 3 := ⟨⟨kw_1793, kw_1795, kw_37, kw_143, kw_1796⟩, rfl, by decide, by decide, by decide +kernel⟩
theorem lk_X6_42 : LkV RX6 42 RX1 yX1_put cX1_put 3 none 2 := ⟨⟨kw_381, kw_382, kw_383, kw_139, kw_384⟩, rfl, by decide, by decide, by decide +kernel⟩
theorem lk_X6_76 : LkV RX6 76 RX6 yX6_hasPerson cX6_hasPerson 2 (some .boolean) 1 := ⟨⟨kw_1425, kw_1399, kw_1400, kw_147, kw_1401⟩, rfl, by decide, by decide, by decide +kernel⟩
theorem lk_X6_80 : LkV RX6 80 RX1 yX1_at cX1_at 2 (some .int) 1 := ⟨⟨kw_938, kw_931, kw_932, kw_139, kw_933⟩, rfl, by decide, by decide, by decide +kernel⟩
theorem lk_X6_84 : LkV RX6 84 RX6 yX6_hasSight cX6_hasSight 3 (some .boolean) 2 := ⟨⟨kw_1421, kw_1422, kw_1423, kw_147, kw_1424⟩, rfl, by decide, by decide, by decide +kernel⟩
theorem lk_X6_88 : LkV RX6 88 RX6 yX6_figure cX6_figure 4 (some .int) 2 := ⟨⟨kw_1303, kw_940, kw_941, kw_147, kw_942⟩, rfl, by decide, by decide, by decide +kernel⟩
theorem lk_X6_92 : LkV RX6 92 RX1 yX1_grow cX1_grow 2 none 1 := ⟨⟨kw_992, kw_563, kw_564, kw_139, kw_565⟩, rfl, by decide, by decide, by decide +kernel⟩
theorem lk_X6_95 : LkV RX6 95 RX1 yX1_fill cX1_fill 3 none 2 := ⟨⟨kw_1271, kw_591, kw_592, kw_139, kw_593⟩, rfl, by decide, by decide, by decide +kernel⟩
theorem lk_X7_22 : LkV RX7 22 RX1 yX1_put cX1_put 3 none 2 := ⟨⟨kw_522, kw_382, kw_383, kw_139, kw_384⟩, rfl, by decide, by decide, by decide +kernel⟩
theorem lk_X7_26 : LkV RX7 26 RX1 yX1_at cX1_at 2 (some .int) 1 := ⟨⟨kw_1102, kw_931, kw_932, kw_139, kw_933⟩, rfl, by decide, by decide, by decide +kernel⟩
