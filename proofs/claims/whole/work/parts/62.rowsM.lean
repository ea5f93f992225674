def faM (ad : Nat → Nat) : Fa := fun k => match k with
  | (0, 0) => some (ad 0)
  | (1, 0) => some (ad 1)
  | (2, 0) => some (ad 2)
  | (3, 0) => some (ad 3)
  | (4, 0) => some (ad 4)
  | (5, 0) => some (ad 5)
  | (8, 0) => some (ad 8)
  | (9, 0) => some (ad 9)
  | (10, 0) => some (ad 10)
  | (11, 0) => some (ad 11)
  | (18, 0) => some (ad 18)
  | (22, 0) => some (ad 22)
  | (23, 0) => some (ad 23)
  | (24, 0) => some (ad 24)
  | (25, 0) => some (ad 25)
  | (26, 0) => some (ad 26)
  | (27, 0) => some (ad 27)
  | (28, 0) => some (ad 28)
  | (29, 0) => some (ad 29)
  | (30, 0) => some (ad 30)
  | (31, 0) => some (ad 31)
  | (32, 0) => some (ad 32)
  | (33, 0) => some (ad 33)
  | (34, 0) => some (ad 34)
  | (35, 0) => some (ad 35)
  | (36, 0) => some (ad 36)
  | _ => none
def fsM (ad : Nat → Nat) (r : Nat → Int32) : List Value := [.int (r 0), .ref (ad 1), .ref (ad 2), .ref (ad 3), .ref (ad 4), .ref (ad 5), .int (r 6), .int (r 7), .ref (ad 8), .ref (ad 9), .ref (ad 10), .ref (ad 11), .int (r 12), .int (r 13), .int (r 14), .int (r 15), .int (r 16), .int (r 17), .ref (ad 18), .int (r 19), .int (r 20), .int (r 21), .ref (ad 22), .ref (ad 23), .ref (ad 24), .ref (ad 25), .ref (ad 26), .ref (ad 27), .ref (ad 28), .ref (ad 29), .ref (ad 30), .ref (ad 31), .ref (ad 32), .ref (ad 33), .ref (ad 34), .ref (ad 35), .ref (ad 36)]
def feM (tc : Nat → ClassId) (ad : Nat → Nat) : Fe := fun k r => match k.1 with
  | 0 => .inr (11, fsM ad r)
  | 1 => .inl (tc 0, 7114, .inl r)
  | 2 => .inl (tc 0, 6277, .inl r)
  | 3 => .inl (tc 0, 6277, .inl r)
  | 4 => .inl (tc 0, 5440, .inl r)
  | 5 => .inl (tc 0, 43520, .inl r)
  | 8 => .inl (tc 0, 512, .inl r)
  | 9 => .inl (tc 0, 512, .inl r)
  | 10 => .inl (tc 0, 4096, .inl r)
  | 11 => .inl (tc 1, 400, .inl r)
  | 18 => .inl (tc 0, 5, .inl r)
  | 22 => .inl (tc 0, 400, .inl r)
  | 23 => .inl (tc 0, 8, .inl r)
  | 24 => .inl (tc 0, 8, .inl r)
  | 25 => .inl (tc 2, 512, .inl r)
  | 26 => .inl (tc 2, 512, .inl r)
  | 27 => .inl (tc 0, 512, .inl r)
  | 28 => .inl (tc 0, 512, .inl r)
  | 29 => .inl (tc 0, 4096, .inl r)
  | 30 => .inl (tc 2, 512, .inl r)
  | 31 => .inl (tc 0, 512, .inl r)
  | 32 => .inl (tc 0, 2048, .inl r)
  | 33 => .inl (tc 0, 9, .inl r)
  | 34 => .inl (tc 0, 512, .inl r)
  | 35 => .inl (tc 0, 9, .inl r)
  | 36 => .inl (tc 0, 512, .inl r)
  | _ => .inl (tc 0, 0, .inl r)
theorem kin_X11 : ∀ w ∈ u_ws RX11 TX11 37, w ∈ GW := by
  intro w hw
  obtain ⟨k, hk, rfl⟩ := List.mem_map.mp hw
  have hk := List.mem_range.mp hk
  by_cases h0 : k = 0
  · subst h0; exact kw_2064
  by_cases h1 : k = 1
  · subst h1; exact kw_2066
  by_cases h2 : k = 2
  · subst h2; exact kw_2068
  by_cases h3 : k = 3
  · subst h3; exact kw_2070
  by_cases h4 : k = 4
  · subst h4; exact kw_2072
  by_cases h5 : k = 5
  · subst h5; exact kw_2074
  by_cases h6 : k = 6
  · subst h6; exact kw_2076
  by_cases h7 : k = 7
  · subst h7; exact kw_2078
  by_cases h8 : k = 8
  · subst h8; exact kw_2080
  by_cases h9 : k = 9
  · subst h9; exact kw_2082
  by_cases h10 : k = 10
  · subst h10; exact kw_2084
  by_cases h11 : k = 11
  · subst h11; exact kw_2086
  by_cases h12 : k = 12
  · subst h12; exact kw_2088
  by_cases h13 : k = 13
  · subst h13; exact kw_2090
  by_cases h14 : k = 14
  · subst h14; exact kw_2092
  by_cases h15 : k = 15
  · subst h15; exact kw_2094
  by_cases h16 : k = 16
  · subst h16; exact kw_2096
  by_cases h17 : k = 17
  · subst h17; exact kw_2098
  by_cases h18 : k = 18
  · subst h18; exact kw_2100
  by_cases h19 : k = 19
  · subst h19; exact kw_2102
  by_cases h20 : k = 20
  · subst h20; exact kw_2104
  by_cases h21 : k = 21
  · subst h21; exact kw_2106
  by_cases h22 : k = 22
  · subst h22; exact kw_2108
  by_cases h23 : k = 23
  · subst h23; exact kw_2110
  by_cases h24 : k = 24
  · subst h24; exact kw_2112
  by_cases h25 : k = 25
  · subst h25; exact kw_2114
  by_cases h26 : k = 26
  · subst h26; exact kw_2116
  by_cases h27 : k = 27
  · subst h27; exact kw_2118
  by_cases h28 : k = 28
  · subst h28; exact kw_2120
  by_cases h29 : k = 29
  · subst h29; exact kw_2122
  by_cases h30 : k = 30
  · subst h30; exact kw_2124
  by_cases h31 : k = 31
  · subst h31; exact kw_2126
  by_cases h32 : k = 32
  · subst h32; exact kw_2128
  by_cases h33 : k = 33
  · subst h33; exact kw_2130
  by_cases h34 : k = 34
  · subst h34; exact kw_2132
  by_cases h35 : k = 35
  · subst h35; exact kw_2134
  by_cases h36 : k = 36
  · subst h36; exact kw_2136
  omega
section FIELDS
variable {p : Program} {l : Launch} {e : Env} {R : Room} {s : State} {m : MethodId} {args : Array Value} {below : List Frame} {meth : Method} {c : Code} {H : Heap} {locs : List Loc} {cells slots : Nat} {Q : State → Prop}
variable {cc : ByteArray} {pc nL : Nat} {ls : Array Slot} {rest : List Value} {D : va_G} {tc : Nat → ClassId} {ro : Ro} {ad : Nat → Nat} {A : Nat → Prop} {H0 : Heap} {μ : Mm}
theorem gf_X11_3 (C : Cx p s m args c RX11 cc nL D tc ro A) (hW : Wd D (faM ad) (feM tc ad) A H0 μ H locs) (hdg : decode cc pc = .ok (.getfield 3, 3)) (kk : W p l e R s m args below meth c H locs cells slots Q (F0 m (pc + 3) ls (.int (μ (0, 0) 0) :: rest))) : W p l e R s m args below meth c H locs cells slots Q (F0 m pc ls (.ref (ad 0) :: rest)) :=
  r_get (k := (0, 0)) (fs := fsM ad (μ (0, 0))) (T := TX11) (N := 37) (f := 0) C hW rfl (Nat.le_of_ble_eq_true rfl) kin_X11 kw_2027 (Or.inl rfl) rfl rfl rfl hdg kk
theorem gf_X11_13 (C : Cx p s m args c RX11 cc nL D tc ro A) (hW : Wd D (faM ad) (feM tc ad) A H0 μ H locs) (hdg : decode cc pc = .ok (.getfield 13, 3)) (kk : W p l e R s m args below meth c H locs cells slots Q (F0 m (pc + 3) ls (.ref (ad 1) :: rest))) : W p l e R s m args below meth c H locs cells slots Q (F0 m pc ls (.ref (ad 0) :: rest)) :=
  r_get (k := (0, 0)) (fs := fsM ad (μ (0, 0))) (T := TX11) (N := 37) (f := 1) C hW rfl (Nat.le_of_ble_eq_true rfl) kin_X11 kw_2028 (Or.inl rfl) rfl rfl rfl hdg kk
theorem gf_X11_17 (C : Cx p s m args c RX11 cc nL D tc ro A) (hW : Wd D (faM ad) (feM tc ad) A H0 μ H locs) (hdg : decode cc pc = .ok (.getfield 17, 3)) (kk : W p l e R s m args below meth c H locs cells slots Q (F0 m (pc + 3) ls (.ref (ad 2) :: rest))) : W p l e R s m args below meth c H locs cells slots Q (F0 m pc ls (.ref (ad 0) :: rest)) :=
  r_get (k := (0, 0)) (fs := fsM ad (μ (0, 0))) (T := TX11) (N := 37) (f := 2) C hW rfl (Nat.le_of_ble_eq_true rfl) kin_X11 kw_2029 (Or.inl rfl) rfl rfl rfl hdg kk
theorem gf_X11_20 (C : Cx p s m args c RX11 cc nL D tc ro A) (hW : Wd D (faM ad) (feM tc ad) A H0 μ H locs) (hdg : decode cc pc = .ok (.getfield 20, 3)) (kk : W p l e R s m args below meth c H locs cells slots Q (F0 m (pc + 3) ls (.ref (ad 3) :: rest))) : W p l e R s m args below meth c H locs cells slots Q (F0 m pc ls (.ref (ad 0) :: rest)) :=
  r_get (k := (0, 0)) (fs := fsM ad (μ (0, 0))) (T := TX11) (N := 37) (f := 3) C hW rfl (Nat.le_of_ble_eq_true rfl) kin_X11 kw_2030 (Or.inl rfl) rfl rfl rfl hdg kk
theorem gf_X11_23 (C : Cx p s m args c RX11 cc nL D tc ro A) (hW : Wd D (faM ad) (feM tc ad) A H0 μ H locs) (hdg : decode cc pc = .ok (.getfield 23, 3)) (kk : W p l e R s m args below meth c H locs cells slots Q (F0 m (pc + 3) ls (.ref (ad 4) :: rest))) : W p l e R s m args below meth c H locs cells slots Q (F0 m pc ls (.ref (ad 0) :: rest)) :=
  r_get (k := (0, 0)) (fs := fsM ad (μ (0, 0))) (T := TX11) (N := 37) (f := 4) C hW rfl (Nat.le_of_ble_eq_true rfl) kin_X11 kw_2031 (Or.inl rfl) rfl rfl rfl hdg kk
theorem gf_X11_27 (C : Cx p s m args c RX11 cc nL D tc ro A) (hW : Wd D (faM ad) (feM tc ad) A H0 μ H locs) (hdg : decode cc pc = .ok (.getfield 27, 3)) (kk : W p l e R s m args below meth c H locs cells slots Q (F0 m (pc + 3) ls (.ref (ad 5) :: rest))) : W p l e R s m args below meth c H locs cells slots Q (F0 m pc ls (.ref (ad 0) :: rest)) :=
  r_get (k := (0, 0)) (fs := fsM ad (μ (0, 0))) (T := TX11) (N := 37) (f := 5) C hW rfl (Nat.le_of_ble_eq_true rfl) kin_X11 kw_2032 (Or.inl rfl) rfl rfl rfl hdg kk
theorem gf_X11_30 (C : Cx p s m args c RX11 cc nL D tc ro A) (hW : Wd D (faM ad) (feM tc ad) A H0 μ H locs) (hdg : decode cc pc = .ok (.getfield 30, 3)) (kk : W p l e R s m args below meth c H locs cells slots Q (F0 m (pc + 3) ls (.ref (ad 8) :: rest))) : W p l e R s m args below meth c H locs cells slots Q (F0 m pc ls (.ref (ad 0) :: rest)) :=
  r_get (k := (0, 0)) (fs := fsM ad (μ (0, 0))) (T := TX11) (N := 37) (f := 8) C hW rfl (Nat.le_of_ble_eq_true rfl) kin_X11 kw_2035 (Or.inl rfl) rfl rfl rfl hdg kk
theorem gf_X11_33 (C : Cx p s m args c RX11 cc nL D tc ro A) (hW : Wd D (faM ad) (feM tc ad) A H0 μ H locs) (hdg : decode cc pc = .ok (.getfield 33, 3)) (kk : W p l e R s m args below meth c H locs cells slots Q (F0 m (pc + 3) ls (.ref (ad 9) :: rest))) : W p l e R s m args below meth c H locs cells slots Q (F0 m pc ls (.ref (ad 0) :: rest)) :=
  r_get (k := (0, 0)) (fs := fsM ad (μ (0, 0))) (T := TX11) (N := 37) (f := 9) C hW rfl (Nat.le_of_ble_eq_true rfl) kin_X11 kw_2036 (Or.inl rfl) rfl rfl rfl hdg kk
theorem gf_X11_36 (C : Cx p s m args c RX11 cc nL D tc ro A) (hW : Wd D (faM ad) (feM tc ad) A H0 μ H locs) (hdg : decode cc pc = .ok (.getfield 36, 3)) (kk : W p l e R s m args below meth c H locs cells slots Q (F0 m (pc + 3) ls (.ref (ad 10) :: rest))) : W p l e R s m args below meth c H locs cells slots Q (F0 m pc ls (.ref (ad 0) :: rest)) :=
  r_get (k := (0, 0)) (fs := fsM ad (μ (0, 0))) (T := TX11) (N := 37) (f := 10) C hW rfl (Nat.le_of_ble_eq_true rfl) kin_X11 kw_2037 (Or.inl rfl) rfl rfl rfl hdg kk
theorem gf_X11_39 (C : Cx p s m args c RX11 cc nL D tc ro A) (hW : Wd D (faM ad) (feM tc ad) A H0 μ H locs) (hdg : decode cc pc = .ok (.getfield 39, 3)) (kk : W p l e R s m args below meth c H locs cells slots Q (F0 m (pc + 3) ls (.ref (ad 11) :: rest))) : W p l e R s m args below meth c H locs cells slots Q (F0 m pc ls (.ref (ad 0) :: rest)) :=
  r_get (k := (0, 0)) (fs := fsM ad (μ (0, 0))) (T := TX11) (N := 37) (f := 11) C hW rfl (Nat.le_of_ble_eq_true rfl) kin_X11 kw_2038 (Or.inl rfl) rfl rfl rfl hdg kk
theorem gf_X11_43 (C : Cx p s m args c RX11 cc nL D tc ro A) (hW : Wd D (faM ad) (feM tc ad) A H0 μ H locs) (hdg : decode cc pc = .ok (.getfield 43, 3)) (kk : W p l e R s m args below meth c H locs cells slots Q (F0 m (pc + 3) ls (.int (μ (0, 0) 17) :: rest))) : W p l e R s m args below meth c H locs cells slots Q (F0 m pc ls (.ref (ad 0) :: rest)) :=
  r_get (k := (0, 0)) (fs := fsM ad (μ (0, 0))) (T := TX11) (N := 37) (f := 17) C hW rfl (Nat.le_of_ble_eq_true rfl) kin_X11 kw_2044 (Or.inl rfl) rfl rfl rfl hdg kk
theorem gf_X11_46 (C : Cx p s m args c RX11 cc nL D tc ro A) (hW : Wd D (faM ad) (feM tc ad) A H0 μ H locs) (hdg : decode cc pc = .ok (.getfield 46, 3)) (kk : W p l e R s m args below meth c H locs cells slots Q (F0 m (pc + 3) ls (.ref (ad 18) :: rest))) : W p l e R s m args below meth c H locs cells slots Q (F0 m pc ls (.ref (ad 0) :: rest)) :=
  r_get (k := (0, 0)) (fs := fsM ad (μ (0, 0))) (T := TX11) (N := 37) (f := 18) C hW rfl (Nat.le_of_ble_eq_true rfl) kin_X11 kw_2045 (Or.inl rfl) rfl rfl rfl hdg kk
theorem gf_X11_49 (C : Cx p s m args c RX11 cc nL D tc ro A) (hW : Wd D (faM ad) (feM tc ad) A H0 μ H locs) (hdg : decode cc pc = .ok (.getfield 49, 3)) (kk : W p l e R s m args below meth c H locs cells slots Q (F0 m (pc + 3) ls (.ref (ad 22) :: rest))) : W p l e R s m args below meth c H locs cells slots Q (F0 m pc ls (.ref (ad 0) :: rest)) :=
  r_get (k := (0, 0)) (fs := fsM ad (μ (0, 0))) (T := TX11) (N := 37) (f := 22) C hW rfl (Nat.le_of_ble_eq_true rfl) kin_X11 kw_2049 (Or.inl rfl) rfl rfl rfl hdg kk
theorem gf_X11_52 (C : Cx p s m args c RX11 cc nL D tc ro A) (hW : Wd D (faM ad) (feM tc ad) A H0 μ H locs) (hdg : decode cc pc = .ok (.getfield 52, 3)) (kk : W p l e R s m args below meth c H locs cells slots Q (F0 m (pc + 3) ls (.ref (ad 23) :: rest))) : W p l e R s m args below meth c H locs cells slots Q (F0 m pc ls (.ref (ad 0) :: rest)) :=
  r_get (k := (0, 0)) (fs := fsM ad (μ (0, 0))) (T := TX11) (N := 37) (f := 23) C hW rfl (Nat.le_of_ble_eq_true rfl) kin_X11 kw_2050 (Or.inl rfl) rfl rfl rfl hdg kk
theorem gf_X11_55 (C : Cx p s m args c RX11 cc nL D tc ro A) (hW : Wd D (faM ad) (feM tc ad) A H0 μ H locs) (hdg : decode cc pc = .ok (.getfield 55, 3)) (kk : W p l e R s m args below meth c H locs cells slots Q (F0 m (pc + 3) ls (.ref (ad 24) :: rest))) : W p l e R s m args below meth c H locs cells slots Q (F0 m pc ls (.ref (ad 0) :: rest)) :=
  r_get (k := (0, 0)) (fs := fsM ad (μ (0, 0))) (T := TX11) (N := 37) (f := 24) C hW rfl (Nat.le_of_ble_eq_true rfl) kin_X11 kw_2051 (Or.inl rfl) rfl rfl rfl hdg kk
theorem gf_X11_58 (C : Cx p s m args c RX11 cc nL D tc ro A) (hW : Wd D (faM ad) (feM tc ad) A H0 μ H locs) (hdg : decode cc pc = .ok (.getfield 58, 3)) (kk : W p l e R s m args below meth c H locs cells slots Q (F0 m (pc + 3) ls (.ref (ad 25) :: rest))) : W p l e R s m args below meth c H locs cells slots Q (F0 m pc ls (.ref (ad 0) :: rest)) :=
  r_get (k := (0, 0)) (fs := fsM ad (μ (0, 0))) (T := TX11) (N := 37) (f := 25) C hW rfl (Nat.le_of_ble_eq_true rfl) kin_X11 kw_2052 (Or.inl rfl) rfl rfl rfl hdg kk
theorem gf_X11_62 (C : Cx p s m args c RX11 cc nL D tc ro A) (hW : Wd D (faM ad) (feM tc ad) A H0 μ H locs) (hdg : decode cc pc = .ok (.getfield 62, 3)) (kk : W p l e R s m args below meth c H locs cells slots Q (F0 m (pc + 3) ls (.ref (ad 26) :: rest))) : W p l e R s m args below meth c H locs cells slots Q (F0 m pc ls (.ref (ad 0) :: rest)) :=
  r_get (k := (0, 0)) (fs := fsM ad (μ (0, 0))) (T := TX11) (N := 37) (f := 26) C hW rfl (Nat.le_of_ble_eq_true rfl) kin_X11 kw_2053 (Or.inl rfl) rfl rfl rfl hdg kk
theorem gf_X11_65 (C : Cx p s m args c RX11 cc nL D tc ro A) (hW : Wd D (faM ad) (feM tc ad) A H0 μ H locs) (hdg : decode cc pc = .ok (.getfield 65, 3)) (kk : W p l e R s m args below meth c H locs cells slots Q (F0 m (pc + 3) ls (.ref (ad 27) :: rest))) : W p l e R s m args below meth c H locs cells slots Q (F0 m pc ls (.ref (ad 0) :: rest)) :=
  r_get (k := (0, 0)) (fs := fsM ad (μ (0, 0))) (T := TX11) (N := 37) (f := 27) C hW rfl (Nat.le_of_ble_eq_true rfl) kin_X11 kw_2054 (Or.inl rfl) rfl rfl rfl hdg kk
theorem gf_X11_68 (C : Cx p s m args c RX11 cc nL D tc ro A) (hW : Wd D (faM ad) (feM tc ad) A H0 μ H locs) (hdg : decode cc pc = .ok (.getfield 68, 3)) (kk : W p l e R s m args below meth c H locs cells slots Q (F0 m (pc + 3) ls (.ref (ad 28) :: rest))) : W p l e R s m args below meth c H locs cells slots Q (F0 m pc ls (.ref (ad 0) :: rest)) :=
  r_get (k := (0, 0)) (fs := fsM ad (μ (0, 0))) (T := TX11) (N := 37) (f := 28) C hW rfl (Nat.le_of_ble_eq_true rfl) kin_X11 kw_2055 (Or.inl rfl) rfl rfl rfl hdg kk
theorem gf_X11_71 (C : Cx p s m args c RX11 cc nL D tc ro A) (hW : Wd D (faM ad) (feM tc ad) A H0 μ H locs) (hdg : decode cc pc = .ok (.getfield 71, 3)) (kk : W p l e R s m args below meth c H locs cells slots Q (F0 m (pc + 3) ls (.ref (ad 29) :: rest))) : W p l e R s m args below meth c H locs cells slots Q (F0 m pc ls (.ref (ad 0) :: rest)) :=
  r_get (k := (0, 0)) (fs := fsM ad (μ (0, 0))) (T := TX11) (N := 37) (f := 29) C hW rfl (Nat.le_of_ble_eq_true rfl) kin_X11 kw_2056 (Or.inl rfl) rfl rfl rfl hdg kk
theorem gf_X11_74 (C : Cx p s m args c RX11 cc nL D tc ro A) (hW : Wd D (faM ad) (feM tc ad) A H0 μ H locs) (hdg : decode cc pc = .ok (.getfield 74, 3)) (kk : W p l e R s m args below meth c H locs cells slots Q (F0 m (pc + 3) ls (.ref (ad 30) :: rest))) : W p l e R s m args below meth c H locs cells slots Q (F0 m pc ls (.ref (ad 0) :: rest)) :=
  r_get (k := (0, 0)) (fs := fsM ad (μ (0, 0))) (T := TX11) (N := 37) (f := 30) C hW rfl (Nat.le_of_ble_eq_true rfl) kin_X11 kw_2057 (Or.inl rfl) rfl rfl rfl hdg kk
theorem gf_X11_77 (C : Cx p s m args c RX11 cc nL D tc ro A) (hW : Wd D (faM ad) (feM tc ad) A H0 μ H locs) (hdg : decode cc pc = .ok (.getfield 77, 3)) (kk : W p l e R s m args below meth c H locs cells slots Q (F0 m (pc + 3) ls (.ref (ad 31) :: rest))) : W p l e R s m args below meth c H locs cells slots Q (F0 m pc ls (.ref (ad 0) :: rest)) :=
  r_get (k := (0, 0)) (fs := fsM ad (μ (0, 0))) (T := TX11) (N := 37) (f := 31) C hW rfl (Nat.le_of_ble_eq_true rfl) kin_X11 kw_2058 (Or.inl rfl) rfl rfl rfl hdg kk
theorem gf_X11_80 (C : Cx p s m args c RX11 cc nL D tc ro A) (hW : Wd D (faM ad) (feM tc ad) A H0 μ H locs) (hdg : decode cc pc = .ok (.getfield 80, 3)) (kk : W p l e R s m args below meth c H locs cells slots Q (F0 m (pc + 3) ls (.ref (ad 32) :: rest))) : W p l e R s m args below meth c H locs cells slots Q (F0 m pc ls (.ref (ad 0) :: rest)) :=
  r_get (k := (0, 0)) (fs := fsM ad (μ (0, 0))) (T := TX11) (N := 37) (f := 32) C hW rfl (Nat.le_of_ble_eq_true rfl) kin_X11 kw_2059 (Or.inl rfl) rfl rfl rfl hdg kk
theorem gf_X11_83 (C : Cx p s m args c RX11 cc nL D tc ro A) (hW : Wd D (faM ad) (feM tc ad) A H0 μ H locs) (hdg : decode cc pc = .ok (.getfield 83, 3)) (kk : W p l e R s m args below meth c H locs cells slots Q (F0 m (pc + 3) ls (.ref (ad 33) :: rest))) : W p l e R s m args below meth c H locs cells slots Q (F0 m pc ls (.ref (ad 0) :: rest)) :=
  r_get (k := (0, 0)) (fs := fsM ad (μ (0, 0))) (T := TX11) (N := 37) (f := 33) C hW rfl (Nat.le_of_ble_eq_true rfl) kin_X11 kw_2060 (Or.inl rfl) rfl rfl rfl hdg kk
theorem gf_X11_86 (C : Cx p s m args c RX11 cc nL D tc ro A) (hW : Wd D (faM ad) (feM tc ad) A H0 μ H locs) (hdg : decode cc pc = .ok (.getfield 86, 3)) (kk : W p l e R s m args below meth c H locs cells slots Q (F0 m (pc + 3) ls (.ref (ad 34) :: rest))) : W p l e R s m args below meth c H locs cells slots Q (F0 m pc ls (.ref (ad 0) :: rest)) :=
  r_get (k := (0, 0)) (fs := fsM ad (μ (0, 0))) (T := TX11) (N := 37) (f := 34) C hW rfl (Nat.le_of_ble_eq_true rfl) kin_X11 kw_2061 (Or.inl rfl) rfl rfl rfl hdg kk
theorem gf_X11_89 (C : Cx p s m args c RX11 cc nL D tc ro A) (hW : Wd D (faM ad) (feM tc ad) A H0 μ H locs) (hdg : decode cc pc = .ok (.getfield 89, 3)) (kk : W p l e R s m args below meth c H locs cells slots Q (F0 m (pc + 3) ls (.ref (ad 35) :: rest))) : W p l e R s m args below meth c H locs cells slots Q (F0 m pc ls (.ref (ad 0) :: rest)) :=
  r_get (k := (0, 0)) (fs := fsM ad (μ (0, 0))) (T := TX11) (N := 37) (f := 35) C hW rfl (Nat.le_of_ble_eq_true rfl) kin_X11 kw_2062 (Or.inl rfl) rfl rfl rfl hdg kk
theorem gf_X11_92 (C : Cx p s m args c RX11 cc nL D tc ro A) (hW : Wd D (faM ad) (feM tc ad) A H0 μ H locs) (hdg : decode cc pc = .ok (.getfield 92, 3)) (kk : W p l e R s m args below meth c H locs cells slots Q (F0 m (pc + 3) ls (.ref (ad 36) :: rest))) : W p l e R s m args below meth c H locs cells slots Q (F0 m pc ls (.ref (ad 0) :: rest)) :=
  r_get (k := (0, 0)) (fs := fsM ad (μ (0, 0))) (T := TX11) (N := 37) (f := 36) C hW rfl (Nat.le_of_ble_eq_true rfl) kin_X11 kw_2063 (Or.inl rfl) rfl rfl rfl hdg kk
theorem gf_X11_95 (C : Cx p s m args c RX11 cc nL D tc ro A) (hW : Wd D (faM ad) (feM tc ad) A H0 μ H locs) (hdg : decode cc pc = .ok (.getfield 95, 3)) (kk : W p l e R s m args below meth c H locs cells slots Q (F0 m (pc + 3) ls (.int (μ (0, 0) 6) :: rest))) : W p l e R s m args below meth c H locs cells slots Q (F0 m pc ls (.ref (ad 0) :: rest)) :=
  r_get (k := (0, 0)) (fs := fsM ad (μ (0, 0))) (T := TX11) (N := 37) (f := 6) C hW rfl (Nat.le_of_ble_eq_true rfl) kin_X11 kw_2033 (Or.inl rfl) rfl rfl rfl hdg kk
theorem gf_X11_99 (C : Cx p s m args c RX11 cc nL D tc ro A) (hW : Wd D (faM ad) (feM tc ad) A H0 μ H locs) (hdg : decode cc pc = .ok (.getfield 99, 3)) (kk : W p l e R s m args below meth c H locs cells slots Q (F0 m (pc + 3) ls (.int (μ (0, 0) 7) :: rest))) : W p l e R s m args below meth c H locs cells slots Q (F0 m pc ls (.ref (ad 0) :: rest)) :=
  r_get (k := (0, 0)) (fs := fsM ad (μ (0, 0))) (T := TX11) (N := 37) (f := 7) C hW rfl (Nat.le_of_ble_eq_true rfl) kin_X11 kw_2034 (Or.inl rfl) rfl rfl rfl hdg kk
theorem gf_X11_156 (C : Cx p s m args c RX11 cc nL D tc ro A) (hW : Wd D (faM ad) (feM tc ad) A H0 μ H locs) (hdg : decode cc pc = .ok (.getfield 156, 3)) (kk : W p l e R s m args below meth c H locs cells slots Q (F0 m (pc + 3) ls (.int (μ (0, 0) 12) :: rest))) : W p l e R s m args below meth c H locs cells slots Q (F0 m pc ls (.ref (ad 0) :: rest)) :=
  r_get (k := (0, 0)) (fs := fsM ad (μ (0, 0))) (T := TX11) (N := 37) (f := 12) C hW rfl (Nat.le_of_ble_eq_true rfl) kin_X11 kw_2039 (Or.inl rfl) rfl rfl rfl hdg kk
theorem gf_X11_159 (C : Cx p s m args c RX11 cc nL D tc ro A) (hW : Wd D (faM ad) (feM tc ad) A H0 μ H locs) (hdg : decode cc pc = .ok (.getfield 159, 3)) (kk : W p l e R s m args below meth c H locs cells slots Q (F0 m (pc + 3) ls (.int (μ (0, 0) 13) :: rest))) : W p l e R s m args below meth c H locs cells slots Q (F0 m pc ls (.ref (ad 0) :: rest)) :=
  r_get (k := (0, 0)) (fs := fsM ad (μ (0, 0))) (T := TX11) (N := 37) (f := 13) C hW rfl (Nat.le_of_ble_eq_true rfl) kin_X11 kw_2040 (Or.inl rfl) rfl rfl rfl hdg kk
theorem gf_X11_162 (C : Cx p s m args c RX11 cc nL D tc ro A) (hW : Wd D (faM ad) (feM tc ad) A H0 μ H locs) (hdg : decode cc pc = .ok (.getfield 162, 3)) (kk : W p l e R s m args below meth c H locs cells slots Q (F0 m (pc + 3) ls (.int (μ (0, 0) 14) :: rest))) : W p l e R s m args below meth c H locs cells slots Q (F0 m pc ls (.ref (ad 0) :: rest)) :=
  r_get (k := (0, 0)) (fs := fsM ad (μ (0, 0))) (T := TX11) (N := 37) (f := 14) C hW rfl (Nat.le_of_ble_eq_true rfl) kin_X11 kw_2041 (Or.inl rfl) rfl rfl rfl hdg kk
theorem gf_X11_168 (C : Cx p s m args c RX11 cc nL D tc ro A) (hW : Wd D (faM ad) (feM tc ad) A H0 μ H locs) (hdg : decode cc pc = .ok (.getfield 168, 3)) (kk : W p l e R s m args below meth c H locs cells slots Q (F0 m (pc + 3) ls (.int (μ (0, 0) 15) :: rest))) : W p l e R s m args below meth c H locs cells slots Q (F0 m pc ls (.ref (ad 0) :: rest)) :=
  r_get (k := (0, 0)) (fs := fsM ad (μ (0, 0))) (T := TX11) (N := 37) (f := 15) C hW rfl (Nat.le_of_ble_eq_true rfl) kin_X11 kw_2042 (Or.inl rfl) rfl rfl rfl hdg kk
theorem gf_X11_200 (C : Cx p s m args c RX11 cc nL D tc ro A) (hW : Wd D (faM ad) (feM tc ad) A H0 μ H locs) (hdg : decode cc pc = .ok (.getfield 200, 3)) (kk : W p l e R s m args below meth c H locs cells slots Q (F0 m (pc + 3) ls (.int (μ (0, 0) 19) :: rest))) : W p l e R s m args below meth c H locs cells slots Q (F0 m pc ls (.ref (ad 0) :: rest)) :=
  r_get (k := (0, 0)) (fs := fsM ad (μ (0, 0))) (T := TX11) (N := 37) (f := 19) C hW rfl (Nat.le_of_ble_eq_true rfl) kin_X11 kw_2046 (Or.inl rfl) rfl rfl rfl hdg kk
theorem gf_X11_203 (C : Cx p s m args c RX11 cc nL D tc ro A) (hW : Wd D (faM ad) (feM tc ad) A H0 μ H locs) (hdg : decode cc pc = .ok (.getfield 203, 3)) (kk : W p l e R s m args below meth c H locs cells slots Q (F0 m (pc + 3) ls (.int (μ (0, 0) 20) :: rest))) : W p l e R s m args below meth c H locs cells slots Q (F0 m pc ls (.ref (ad 0) :: rest)) :=
  r_get (k := (0, 0)) (fs := fsM ad (μ (0, 0))) (T := TX11) (N := 37) (f := 20) C hW rfl (Nat.le_of_ble_eq_true rfl) kin_X11 kw_2047 (Or.inl rfl) rfl rfl rfl hdg kk
theorem gf_X11_253 (C : Cx p s m args c RX11 cc nL D tc ro A) (hW : Wd D (faM ad) (feM tc ad) A H0 μ H locs) (hdg : decode cc pc = .ok (.getfield 253, 3)) (kk : W p l e R s m args below meth c H locs cells slots Q (F0 m (pc + 3) ls (.int (μ (0, 0) 21) :: rest))) : W p l e R s m args below meth c H locs cells slots Q (F0 m pc ls (.ref (ad 0) :: rest)) :=
  r_get (k := (0, 0)) (fs := fsM ad (μ (0, 0))) (T := TX11) (N := 37) (f := 21) C hW rfl (Nat.le_of_ble_eq_true rfl) kin_X11 kw_2048 (Or.inl rfl) rfl rfl rfl hdg kk
theorem gf_X11_273 (C : Cx p s m args c RX11 cc nL D tc ro A) (hW : Wd D (faM ad) (feM tc ad) A H0 μ H locs) (hdg : decode cc pc = .ok (.getfield 273, 3)) (kk : W p l e R s m args below meth c H locs cells slots Q (F0 m (pc + 3) ls (.int (μ (0, 0) 16) :: rest))) : W p l e R s m args below meth c H locs cells slots Q (F0 m pc ls (.ref (ad 0) :: rest)) :=
  r_get (k := (0, 0)) (fs := fsM ad (μ (0, 0))) (T := TX11) (N := 37) (f := 16) C hW rfl (Nat.le_of_ble_eq_true rfl) kin_X11 kw_2043 (Or.inl rfl) rfl rfl rfl hdg kk
theorem fp_X11_0 (tc : Nat → ClassId) (ad : Nat → Nat) (r : Nat → Int32) (v : Int32) : feM tc ad (0, 0) (upd r 0 v) = .inr (11, (fsM ad r).set 0 (.int v)) := rfl
theorem pf_X11_3 (C : Cx p s m args c RX11 cc nL D tc ro A) (hW : Wd D (faM ad) (feM tc ad) A H0 μ H locs) {v : Int32} (hdg : decode cc pc = .ok (.putfield 3, 3)) (kk : ∀ (H1 : Heap) (locs1 : List Loc), Wd D (faM ad) (feM tc ad) A H0 (mst μ (0, 0) 0 v) H1 locs1 → W p l e R s m args below meth c H1 locs1 cells slots Q (F0 m (pc + 3) ls rest)) : W p l e R s m args below meth c H locs cells slots Q (F0 m pc ls (.int v :: .ref (ad 0) :: rest)) :=
  r_put (k := (0, 0)) (fs := fsM ad (μ (0, 0))) (T := TX11) (N := 37) (f := 0) C hW rfl (Nat.le_of_ble_eq_true rfl) kin_X11 tyX11_ok nmX11 kw_2027 (Or.inl rfl) rfl (ty := .int) (by decide +kernel) rfl rfl (Nat.le_of_ble_eq_true rfl) rfl rfl (fp_X11_0 tc ad _ v) hdg kk
theorem fp_X11_17 (tc : Nat → ClassId) (ad : Nat → Nat) (r : Nat → Int32) (v : Int32) : feM tc ad (0, 0) (upd r 17 v) = .inr (11, (fsM ad r).set 17 (.int v)) := rfl
theorem pf_X11_43 (C : Cx p s m args c RX11 cc nL D tc ro A) (hW : Wd D (faM ad) (feM tc ad) A H0 μ H locs) {v : Int32} (hdg : decode cc pc = .ok (.putfield 43, 3)) (kk : ∀ (H1 : Heap) (locs1 : List Loc), Wd D (faM ad) (feM tc ad) A H0 (mst μ (0, 0) 17 v) H1 locs1 → W p l e R s m args below meth c H1 locs1 cells slots Q (F0 m (pc + 3) ls rest)) : W p l e R s m args below meth c H locs cells slots Q (F0 m pc ls (.int v :: .ref (ad 0) :: rest)) :=
  r_put (k := (0, 0)) (fs := fsM ad (μ (0, 0))) (T := TX11) (N := 37) (f := 17) C hW rfl (Nat.le_of_ble_eq_true rfl) kin_X11 tyX11_ok nmX11 kw_2044 (Or.inl rfl) rfl (ty := .int) (by decide +kernel) rfl rfl (Nat.le_of_ble_eq_true rfl) rfl rfl (fp_X11_17 tc ad _ v) hdg kk
theorem fp_X11_6 (tc : Nat → ClassId) (ad : Nat → Nat) (r : Nat → Int32) (v : Int32) : feM tc ad (0, 0) (upd r 6 v) = .inr (11, (fsM ad r).set 6 (.int v)) := rfl
theorem pf_X11_95 (C : Cx p s m args c RX11 cc nL D tc ro A) (hW : Wd D (faM ad) (feM tc ad) A H0 μ H locs) {v : Int32} (hn : narrow .boolean (.int v) = .int v) (hf : fits .boolean (.int v) = true) (hdg : decode cc pc = .ok (.putfield 95, 3)) (kk : ∀ (H1 : Heap) (locs1 : List Loc), Wd D (faM ad) (feM tc ad) A H0 (mst μ (0, 0) 6 v) H1 locs1 → W p l e R s m args below meth c H1 locs1 cells slots Q (F0 m (pc + 3) ls rest)) : W p l e R s m args below meth c H locs cells slots Q (F0 m pc ls (.int v :: .ref (ad 0) :: rest)) :=
  r_put (k := (0, 0)) (fs := fsM ad (μ (0, 0))) (T := TX11) (N := 37) (f := 6) C hW rfl (Nat.le_of_ble_eq_true rfl) kin_X11 tyX11_ok nmX11 kw_2033 (Or.inl rfl) rfl (ty := .boolean) (by decide +kernel) rfl rfl (Nat.le_of_ble_eq_true rfl) hn hf (fp_X11_6 tc ad _ v) hdg kk
theorem fp_X11_7 (tc : Nat → ClassId) (ad : Nat → Nat) (r : Nat → Int32) (v : Int32) : feM tc ad (0, 0) (upd r 7 v) = .inr (11, (fsM ad r).set 7 (.int v)) := rfl
theorem pf_X11_99 (C : Cx p s m args c RX11 cc nL D tc ro A) (hW : Wd D (faM ad) (feM tc ad) A H0 μ H locs) {v : Int32} (hdg : decode cc pc = .ok (.putfield 99, 3)) (kk : ∀ (H1 : Heap) (locs1 : List Loc), Wd D (faM ad) (feM tc ad) A H0 (mst μ (0, 0) 7 v) H1 locs1 → W p l e R s m args below meth c H1 locs1 cells slots Q (F0 m (pc + 3) ls rest)) : W p l e R s m args below meth c H locs cells slots Q (F0 m pc ls (.int v :: .ref (ad 0) :: rest)) :=
  r_put (k := (0, 0)) (fs := fsM ad (μ (0, 0))) (T := TX11) (N := 37) (f := 7) C hW rfl (Nat.le_of_ble_eq_true rfl) kin_X11 tyX11_ok nmX11 kw_2034 (Or.inl rfl) rfl (ty := .int) (by decide +kernel) rfl rfl (Nat.le_of_ble_eq_true rfl) rfl rfl (fp_X11_7 tc ad _ v) hdg kk
theorem fp_X11_12 (tc : Nat → ClassId) (ad : Nat → Nat) (r : Nat → Int32) (v : Int32) : feM tc ad (0, 0) (upd r 12 v) = .inr (11, (fsM ad r).set 12 (.int v)) := rfl
theorem pf_X11_156 (C : Cx p s m args c RX11 cc nL D tc ro A) (hW : Wd D (faM ad) (feM tc ad) A H0 μ H locs) {v : Int32} (hdg : decode cc pc = .ok (.putfield 156, 3)) (kk : ∀ (H1 : Heap) (locs1 : List Loc), Wd D (faM ad) (feM tc ad) A H0 (mst μ (0, 0) 12 v) H1 locs1 → W p l e R s m args below meth c H1 locs1 cells slots Q (F0 m (pc + 3) ls rest)) : W p l e R s m args below meth c H locs cells slots Q (F0 m pc ls (.int v :: .ref (ad 0) :: rest)) :=
  r_put (k := (0, 0)) (fs := fsM ad (μ (0, 0))) (T := TX11) (N := 37) (f := 12) C hW rfl (Nat.le_of_ble_eq_true rfl) kin_X11 tyX11_ok nmX11 kw_2039 (Or.inl rfl) rfl (ty := .int) (by decide +kernel) rfl rfl (Nat.le_of_ble_eq_true rfl) rfl rfl (fp_X11_12 tc ad _ v) hdg kk
theorem fp_X11_13 (tc : Nat → ClassId) (ad : Nat → Nat) (r : Nat → Int32) (v : Int32) : feM tc ad (0, 0) (upd r 13 v) = .inr (11, (fsM ad r).set 13 (.int v)) := rfl
theorem pf_X11_159 (C : Cx p s m args c RX11 cc nL D tc ro A) (hW : Wd D (faM ad) (feM tc ad) A H0 μ H locs) {v : Int32} (hdg : decode cc pc = .ok (.putfield 159, 3)) (kk : ∀ (H1 : Heap) (locs1 : List Loc), Wd D (faM ad) (feM tc ad) A H0 (mst μ (0, 0) 13 v) H1 locs1 → W p l e R s m args below meth c H1 locs1 cells slots Q (F0 m (pc + 3) ls rest)) : W p l e R s m args below meth c H locs cells slots Q (F0 m pc ls (.int v :: .ref (ad 0) :: rest)) :=
  r_put (k := (0, 0)) (fs := fsM ad (μ (0, 0))) (T := TX11) (N := 37) (f := 13) C hW rfl (Nat.le_of_ble_eq_true rfl) kin_X11 tyX11_ok nmX11 kw_2040 (Or.inl rfl) rfl (ty := .int) (by decide +kernel) rfl rfl (Nat.le_of_ble_eq_true rfl) rfl rfl (fp_X11_13 tc ad _ v) hdg kk
theorem fp_X11_14 (tc : Nat → ClassId) (ad : Nat → Nat) (r : Nat → Int32) (v : Int32) : feM tc ad (0, 0) (upd r 14 v) = .inr (11, (fsM ad r).set 14 (.int v)) := rfl
theorem pf_X11_162 (C : Cx p s m args c RX11 cc nL D tc ro A) (hW : Wd D (faM ad) (feM tc ad) A H0 μ H locs) {v : Int32} (hdg : decode cc pc = .ok (.putfield 162, 3)) (kk : ∀ (H1 : Heap) (locs1 : List Loc), Wd D (faM ad) (feM tc ad) A H0 (mst μ (0, 0) 14 v) H1 locs1 → W p l e R s m args below meth c H1 locs1 cells slots Q (F0 m (pc + 3) ls rest)) : W p l e R s m args below meth c H locs cells slots Q (F0 m pc ls (.int v :: .ref (ad 0) :: rest)) :=
  r_put (k := (0, 0)) (fs := fsM ad (μ (0, 0))) (T := TX11) (N := 37) (f := 14) C hW rfl (Nat.le_of_ble_eq_true rfl) kin_X11 tyX11_ok nmX11 kw_2041 (Or.inl rfl) rfl (ty := .int) (by decide +kernel) rfl rfl (Nat.le_of_ble_eq_true rfl) rfl rfl (fp_X11_14 tc ad _ v) hdg kk
theorem fp_X11_15 (tc : Nat → ClassId) (ad : Nat → Nat) (r : Nat → Int32) (v : Int32) : feM tc ad (0, 0) (upd r 15 v) = .inr (11, (fsM ad r).set 15 (.int v)) := rfl
theorem pf_X11_168 (C : Cx p s m args c RX11 cc nL D tc ro A) (hW : Wd D (faM ad) (feM tc ad) A H0 μ H locs) {v : Int32} (hdg : decode cc pc = .ok (.putfield 168, 3)) (kk : ∀ (H1 : Heap) (locs1 : List Loc), Wd D (faM ad) (feM tc ad) A H0 (mst μ (0, 0) 15 v) H1 locs1 → W p l e R s m args below meth c H1 locs1 cells slots Q (F0 m (pc + 3) ls rest)) : W p l e R s m args below meth c H locs cells slots Q (F0 m pc ls (.int v :: .ref (ad 0) :: rest)) :=
  r_put (k := (0, 0)) (fs := fsM ad (μ (0, 0))) (T := TX11) (N := 37) (f := 15) C hW rfl (Nat.le_of_ble_eq_true rfl) kin_X11 tyX11_ok nmX11 kw_2042 (Or.inl rfl) rfl (ty := .int) (by decide +kernel) rfl rfl (Nat.le_of_ble_eq_true rfl) rfl rfl (fp_X11_15 tc ad _ v) hdg kk
theorem fp_X11_19 (tc : Nat → ClassId) (ad : Nat → Nat) (r : Nat → Int32) (v : Int32) : feM tc ad (0, 0) (upd r 19 v) = .inr (11, (fsM ad r).set 19 (.int v)) := rfl
theorem pf_X11_200 (C : Cx p s m args c RX11 cc nL D tc ro A) (hW : Wd D (faM ad) (feM tc ad) A H0 μ H locs) {v : Int32} (hdg : decode cc pc = .ok (.putfield 200, 3)) (kk : ∀ (H1 : Heap) (locs1 : List Loc), Wd D (faM ad) (feM tc ad) A H0 (mst μ (0, 0) 19 v) H1 locs1 → W p l e R s m args below meth c H1 locs1 cells slots Q (F0 m (pc + 3) ls rest)) : W p l e R s m args below meth c H locs cells slots Q (F0 m pc ls (.int v :: .ref (ad 0) :: rest)) :=
  r_put (k := (0, 0)) (fs := fsM ad (μ (0, 0))) (T := TX11) (N := 37) (f := 19) C hW rfl (Nat.le_of_ble_eq_true rfl) kin_X11 tyX11_ok nmX11 kw_2046 (Or.inl rfl) rfl (ty := .int) (by decide +kernel) rfl rfl (Nat.le_of_ble_eq_true rfl) rfl rfl (fp_X11_19 tc ad _ v) hdg kk
theorem fp_X11_20 (tc : Nat → ClassId) (ad : Nat → Nat) (r : Nat → Int32) (v : Int32) : feM tc ad (0, 0) (upd r 20 v) = .inr (11, (fsM ad r).set 20 (.int v)) := rfl
theorem pf_X11_203 (C : Cx p s m args c RX11 cc nL D tc ro A) (hW : Wd D (faM ad) (feM tc ad) A H0 μ H locs) {v : Int32} (hdg : decode cc pc = .ok (.putfield 203, 3)) (kk : ∀ (H1 : Heap) (locs1 : List Loc), Wd D (faM ad) (feM tc ad) A H0 (mst μ (0, 0) 20 v) H1 locs1 → W p l e R s m args below meth c H1 locs1 cells slots Q (F0 m (pc + 3) ls rest)) : W p l e R s m args below meth c H locs cells slots Q (F0 m pc ls (.int v :: .ref (ad 0) :: rest)) :=
  r_put (k := (0, 0)) (fs := fsM ad (μ (0, 0))) (T := TX11) (N := 37) (f := 20) C hW rfl (Nat.le_of_ble_eq_true rfl) kin_X11 tyX11_ok nmX11 kw_2047 (Or.inl rfl) rfl (ty := .int) (by decide +kernel) rfl rfl (Nat.le_of_ble_eq_true rfl) rfl rfl (fp_X11_20 tc ad _ v) hdg kk
theorem fp_X11_21 (tc : Nat → ClassId) (ad : Nat → Nat) (r : Nat → Int32) (v : Int32) : feM tc ad (0, 0) (upd r 21 v) = .inr (11, (fsM ad r).set 21 (.int v)) := rfl
theorem pf_X11_253 (C : Cx p s m args c RX11 cc nL D tc ro A) (hW : Wd D (faM ad) (feM tc ad) A H0 μ H locs) {v : Int32} (hdg : decode cc pc = .ok (.putfield 253, 3)) (kk : ∀ (H1 : Heap) (locs1 : List Loc), Wd D (faM ad) (feM tc ad) A H0 (mst μ (0, 0) 21 v) H1 locs1 → W p l e R s m args below meth c H1 locs1 cells slots Q (F0 m (pc + 3) ls rest)) : W p l e R s m args below meth c H locs cells slots Q (F0 m pc ls (.int v :: .ref (ad 0) :: rest)) :=
  r_put (k := (0, 0)) (fs := fsM ad (μ (0, 0))) (T := TX11) (N := 37) (f := 21) C hW rfl (Nat.le_of_ble_eq_true rfl) kin_X11 tyX11_ok nmX11 kw_2048 (Or.inl rfl) rfl (ty := .int) (by decide +kernel) rfl rfl (Nat.le_of_ble_eq_true rfl) rfl rfl (fp_X11_21 tc ad _ v) hdg kk
theorem fp_X11_16 (tc : Nat → ClassId) (ad : Nat → Nat) (r : Nat → Int32) (v : Int32) : feM tc ad (0, 0) (upd r 16 v) = .inr (11, (fsM ad r).set 16 (.int v)) := rfl
theorem pf_X11_273 (C : Cx p s m args c RX11 cc nL D tc ro A) (hW : Wd D (faM ad) (feM tc ad) A H0 μ H locs) {v : Int32} (hdg : decode cc pc = .ok (.putfield 273, 3)) (kk : ∀ (H1 : Heap) (locs1 : List Loc), Wd D (faM ad) (feM tc ad) A H0 (mst μ (0, 0) 16 v) H1 locs1 → W p l e R s m args below meth c H1 locs1 cells slots Q (F0 m (pc + 3) ls rest)) : W p l e R s m args below meth c H locs cells slots Q (F0 m pc ls (.int v :: .ref (ad 0) :: rest)) :=
  r_put (k := (0, 0)) (fs := fsM ad (μ (0, 0))) (T := TX11) (N := 37) (f := 16) C hW rfl (Nat.le_of_ble_eq_true rfl) kin_X11 tyX11_ok nmX11 kw_2043 (Or.inl rfl) rfl (ty := .int) (by decide +kernel) rfl rfl (Nat.le_of_ble_eq_true rfl) rfl rfl (fp_X11_16 tc ad _ v) hdg kk
end FIELDS
theorem lk_X11_103 : LkS RX11 103 yX11_has cX11_has 2 (some .boolean) 2 := ⟨⟨kw_2368, kw_2369, kw_148, kw_2370⟩, by decide, by decide, by decide +kernel⟩
theorem lk_X11_107 : LkV RX11 107 RX11 yX11_people cX11_people 1 (some .int) 0 := ⟨⟨kw_2211, kw_2213, kw_62, kw_148, kw_2214⟩, rfl, by decide, by decide, by decide +kernel⟩
theorem lk_X11_111 : LkS RX11 111 yX11_in cX11_in 3 (some .boolean) 3 := ⟨⟨kw_2361, kw_2362, kw_148, kw_2363⟩, by decide, by decide, by decide +kernel⟩
theorem lk_X11_115 : LkV RX11 115 RX11 yX11_worlds cX11_worlds 1 (some .int) 0 := ⟨⟨kw_2224, kw_2226, kw_65, kw_148, kw_2227⟩, rfl, by decide, by decide, by decide +kernel⟩
theorem lk_X11_118 : LkV RX11 118 RX11 yX11_values cX11_values 1 (some .int) 0 := ⟨⟨kw_2228, kw_2230, kw_66, kw_148, kw_2231⟩, rfl, by decide, by decide, by decide +kernel⟩
theorem lk_X11_121 : LkV RX11 121 RX11 yX11_here cX11_here 1 (some .int) 0 := ⟨⟨kw_2258, kw_2260, kw_72, kw_148, kw_2261⟩, rfl, by decide, by decide, by decide +kernel⟩
theorem lk_X11_124 : LkV RX11 124 RX11 yX11_noticeIn cX11_noticeIn 5 (some .int) 2 := ⟨⟨kw_2250, kw_2252, kw_70, kw_148, kw_2253⟩, rfl, by decide, by decide, by decide +kernel⟩
theorem lk_X11_128 : LkV RX11 128 RX11 yX11_isLeft cX11_isLeft 2 (some .boolean) 1 := ⟨⟨kw_2290, kw_2292, kw_80, kw_148, kw_2293⟩, rfl, by decide, by decide, by decide +kernel⟩
theorem lk_X11_132 : LkV RX11 132 RX11 yX11_label cX11_label 3 (some .int) 2 := ⟨⟨kw_2294, kw_2296, kw_81, kw_148, kw_2297⟩, rfl, by decide, by decide, by decide +kernel⟩
theorem lk_X11_135 : LkV RX11 135 RX11 yX11_lays cX11_lays 4 none 2 := ⟨⟨kw_2392, kw_2394, kw_99, kw_148, kw_2395⟩, rfl, by decide, by decide, by decide +kernel⟩
theorem lk_X11_139 : LkV RX11 139 RX11 yX11_possibleOf cX11_possibleOf 4 (some .int) 3 := ⟨⟨kw_2388, kw_2390, kw_98, kw_148, kw_2391⟩, rfl, by decide, by decide, by decide +kernel⟩
theorem lk_X11_143 : LkS RX11 143 yX11_isOne cX11_isOne 1 (some .boolean) 1 := ⟨⟨kw_2396, kw_2397, kw_148, kw_2398⟩, by decide, by decide, by decide +kernel⟩
theorem lk_X11_146 : LkV RX11 146 RX11 yX11_isSure cX11_isSure 3 (some .boolean) 2 := ⟨⟨kw_2384, kw_2386, kw_97, kw_148, kw_2387⟩, rfl, by decide, by decide, by decide +kernel⟩
theorem lk_X11_149 : LkV RX11 149 RX11 yX11_noticesCome cX11_noticesCome 3 none 1 := ⟨⟨kw_2282, kw_2284, kw_78, kw_148, kw_2285⟩, rfl, by decide, by decide, by decide +kernel⟩
theorem lk_X11_153 : LkV RX11 153 RX11 yX11_parts cX11_parts 5 none 1 := ⟨⟨kw_2286, kw_2288, kw_79, kw_148, kw_2289⟩, rfl, by decide, by decide, by decide +kernel⟩
theorem lk_X11_165 : LkV RX11 165 RX11 yX11_isAt cX11_isAt 3 (some .boolean) 2 := ⟨⟨kw_2180, kw_2182, kw_55, kw_148, kw_2183⟩, rfl, by decide, by decide, by decide +kernel⟩
theorem lk_X11_171 : LkV RX11 171 RX11 yX11_blanks cX11_blanks 1 none 0 := ⟨⟨kw_2176, kw_2178, kw_54, kw_148, kw_2179⟩, rfl, by decide, by decide, by decide +kernel⟩
theorem lk_X11_174 : LkV RX11 174 RJ0 yJ0_length_8abf5 cJ0_length_8abf5 1 (some .int) 0 := ⟨⟨kw_2201, kw_745, kw_746, kw_151, kw_747⟩, rfl, by decide, by decide, by decide +kernel⟩
theorem lk_X11_179 : LkV RX11 179 RJ0 yJ0_charAt_5068e cJ0_charAt_5068e 2 (some .char) 1 := ⟨⟨kw_2202, kw_1124, kw_1125, kw_151, kw_1126⟩, rfl, by decide, by decide, by decide +kernel⟩
theorem lk_X11_183 : LkV RX11 183 RX11 yX11_letters cX11_letters 1 none 0 := ⟨⟨kw_2188, kw_2190, kw_57, kw_148, kw_2191⟩, rfl, by decide, by decide, by decide +kernel⟩
theorem lk_X11_186 : LkV RX11 186 RX11 yX11_isWord cX11_isWord 4 (some .boolean) 1 := ⟨⟨kw_2197, kw_2199, kw_59, kw_148, kw_2200⟩, rfl, by decide, by decide, by decide +kernel⟩
theorem lk_X11_190 : LkV RX11 190 RX11 yX11_number cX11_number 4 (some .int) 2 := ⟨⟨kw_2215, kw_2217, kw_63, kw_148, kw_2218⟩, rfl, by decide, by decide, by decide +kernel⟩
theorem lk_X11_193 : LkV RX11 193 RX11 yX11_isEarly cX11_isEarly 1 (some .boolean) 0 := ⟨⟨kw_2207, kw_2209, kw_61, kw_148, kw_2210⟩, rfl, by decide, by decide, by decide +kernel⟩
theorem lk_X11_197 : LkV RX11 197 RX11 yX11_personTold cX11_personTold 1 (some .int) 0 := ⟨⟨kw_2274, kw_2276, kw_76, kw_148, kw_2277⟩, rfl, by decide, by decide, by decide +kernel⟩
theorem lk_X11_206 : LkV RX11 206 RX11 yX11_drops cX11_drops 2 none 0 := ⟨⟨kw_2262, kw_2264, kw_73, kw_148, kw_2265⟩, rfl, by decide, by decide, by decide +kernel⟩
theorem lk_X11_211 : LkV RX11 211 RX11 yX11_after cX11_after 4 (some .int) 3 := ⟨⟨kw_2242, kw_2244, kw_68, kw_148, kw_2245⟩, rfl, by decide, by decide, by decide +kernel⟩
theorem lk_X11_215 : LkV RX11 215 RX11 yX11_haveIn cX11_haveIn 5 (some .int) 2 := ⟨⟨kw_2246, kw_2248, kw_69, kw_148, kw_2249⟩, rfl, by decide, by decide, by decide +kernel⟩
theorem lk_X11_218 : LkV RX11 218 RX11 yX11_isSo cX11_isSo 2 (some .boolean) 1 := ⟨⟨kw_2254, kw_2256, kw_71, kw_148, kw_2257⟩, rfl, by decide, by decide, by decide +kernel⟩
theorem lk_X11_221 : LkV RX11 221 RX11 yX11_readTwo cX11_readTwo 1 (some .boolean) 0 := ⟨⟨kw_2270, kw_2272, kw_75, kw_148, kw_2273⟩, rfl, by decide, by decide, by decide +kernel⟩
theorem lk_X11_225 : LkV RX11 225 RX11 yX11_readValues cX11_readValues 2 (some .boolean) 0 := ⟨⟨kw_2203, kw_2205, kw_60, kw_148, kw_2206⟩, rfl, by decide, by decide, by decide +kernel⟩
theorem lk_X11_230 : LkV RX11 230 RX11 yX11_readPerson cX11_readPerson 3 (some .boolean) 0 := ⟨⟨kw_2220, kw_2222, kw_64, kw_148, kw_2223⟩, rfl, by decide, by decide, by decide +kernel⟩
theorem lk_X11_243 : LkV RX11 243 RX11 yX11_readMany cX11_readMany 6 (some .boolean) 1 := ⟨⟨kw_2237, kw_2239, kw_67, kw_148, kw_2240⟩, rfl, by decide, by decide, by decide +kernel⟩
theorem lk_X11_247 : LkV RX11 247 RX11 yX11_readAlike cX11_readAlike 4 (some .boolean) 1 := ⟨⟨kw_2266, kw_2268, kw_74, kw_148, kw_2269⟩, rfl, by decide, by decide, by decide +kernel⟩
theorem lk_X11_250 : LkV RX11 250 RX11 yX11_seesFrom cX11_seesFrom 3 none 2 := ⟨⟨kw_2278, kw_2280, kw_77, kw_148, kw_2281⟩, rfl, by decide, by decide, by decide +kernel⟩
theorem lk_X11_256 : LkV RX11 256 RX11 yX11_emits cX11_emits 3 none 2 := ⟨⟨kw_2325, kw_2327, kw_88, kw_148, kw_2328⟩, rfl, by decide, by decide, by decide +kernel⟩
theorem lk_X11_267 : LkV RX11 267 RX11 yX11_readPart cX11_readPart 2 (some .boolean) 0 := ⟨⟨kw_2335, kw_2337, kw_90, kw_148, kw_2338⟩, rfl, by decide, by decide, by decide +kernel⟩
theorem lk_X11_270 : LkV RX11 270 RX11 yX11_sign cX11_sign 2 (some .boolean) 1 := ⟨⟨kw_2320, kw_2322, kw_87, kw_148, kw_2323⟩, rfl, by decide, by decide, by decide +kernel⟩
theorem lk_X11_276 : LkV RX11 276 RX11 yX11_readCond cX11_readCond 1 (some .boolean) 0 := ⟨⟨kw_2308, kw_2310, kw_84, kw_148, kw_2311⟩, rfl, by decide, by decide, by decide +kernel⟩
theorem lk_X11_281 : LkV RX11 281 RX11 yX11_passes cX11_passes 2 (some .boolean) 1 := ⟨⟨kw_2304, kw_2306, kw_83, kw_148, kw_2307⟩, rfl, by decide, by decide, by decide +kernel⟩
theorem lk_X11_284 : LkV RX11 284 RX11 yX11_readAtom cX11_readAtom 3 (some .boolean) 0 := ⟨⟨kw_2316, kw_2318, kw_86, kw_148, kw_2319⟩, rfl, by decide, by decide, by decide +kernel⟩
theorem lk_X11_291 : LkV RX11 291 RX11 yX11_readSum cX11_readSum 1 (some .boolean) 0 := ⟨⟨kw_2331, kw_2333, kw_89, kw_148, kw_2334⟩, rfl, by decide, by decide, by decide +kernel⟩
theorem lk_X11_296 : LkV RX11 296 RX11 yX11_readAllOf cX11_readAllOf 1 (some .boolean) 0 := ⟨⟨kw_2312, kw_2314, kw_85, kw_148, kw_2315⟩, rfl, by decide, by decide, by decide +kernel⟩
theorem lk_X11_305 : LkV RX11 305 RX11 yX11_readVillageLine cX11_readVillageLine 5 (some .boolean) 0 := ⟨⟨kw_2192, kw_2194, kw_58, kw_148, kw_2195⟩, rfl, by decide, by decide, by decide +kernel⟩
theorem lk_X11_308 : LkV RX11 308 RX11 yX11_readLawLine cX11_readLawLine 3 (some .boolean) 1 := ⟨⟨kw_2298, kw_2300, kw_82, kw_148, kw_2301⟩, rfl, by decide, by decide, by decide +kernel⟩
theorem lk_X11_311 : LkV RX11 311 RX11 yX11_uses cX11_uses 1 none 0 := ⟨⟨kw_2172, kw_2174, kw_53, kw_148, kw_2175⟩, rfl, by decide, by decide, by decide +kernel⟩
theorem lk_X11_314 : LkV RX11 314 RX11 yX11_readLine cX11_readLine 3 (some .boolean) 2 := ⟨⟨kw_2184, kw_2186, kw_56, kw_148, kw_2187⟩, rfl, by decide, by decide, by decide +kernel⟩
theorem lk_X11_318 : LkV RX11 318 RX11 yX11_readAll cX11_readAll 3 (some .int) 1 := ⟨⟨kw_2168, kw_2170, kw_52, kw_148, kw_2171⟩, rfl, by decide, by decide, by decide +kernel⟩
theorem lk_X11_322 : LkV RX11 322 RX11 yX11_throwsIf cX11_throwsIf 3 (some .boolean) 2 := ⟨⟨kw_2345, kw_2347, kw_91, kw_148, kw_2348⟩, rfl, by decide, by decide, by decide +kernel⟩
theorem lk_X11_325 : LkV RX11 325 RX11 yX11_isSeeing cX11_isSeeing 3 (some .boolean) 2 := ⟨⟨kw_2364, kw_2366, kw_93, kw_148, kw_2367⟩, rfl, by decide, by decide, by decide +kernel⟩
theorem lk_X11_328 : LkV RX11 328 RX11 yX11_factOf cX11_factOf 7 (some .int) 6 := ⟨⟨kw_2407, kw_2409, kw_102, kw_148, kw_2410⟩, rfl, by decide, by decide, by decide +kernel⟩
theorem lk_X11_332 : LkV RX11 332 RX11 yX11_holdsLine cX11_holdsLine 13 (some .boolean) 5 := ⟨⟨kw_2403, kw_2405, kw_101, kw_148, kw_2406⟩, rfl, by decide, by decide, by decide +kernel⟩
theorem lk_X11_336 : LkV RX11 336 RX11 yX11_mannerBy cX11_mannerBy 7 (some .int) 4 := ⟨⟨kw_2399, kw_2401, kw_100, kw_148, kw_2402⟩, rfl, by decide, by decide, by decide +kernel⟩
theorem lk_X11_340 : LkV RX11 340 RX11 yX11_sureOnes cX11_sureOnes 4 (some .int) 1 := ⟨⟨kw_2419, kw_2421, kw_105, kw_148, kw_2422⟩, rfl, by decide, by decide, by decide +kernel⟩
theorem lk_X11_349 : LkV RX11 349 RX11 yX11_mannerIn cX11_mannerIn 4 (some .int) 3 := ⟨⟨kw_2380, kw_2382, kw_96, kw_148, kw_2383⟩, rfl, by decide, by decide, by decide +kernel⟩
theorem lk_X11_352 : LkV RX11 352 RX11 yX11_mannersCome cX11_mannersCome 4 none 2 := ⟨⟨kw_2411, kw_2413, kw_103, kw_148, kw_2414⟩, rfl, by decide, by decide, by decide +kernel⟩
theorem lk_X11_355 : LkV RX11 355 RX11 yX11_tells cX11_tells 6 none 4 := ⟨⟨kw_2415, kw_2417, kw_104, kw_148, kw_2418⟩, rfl, by decide, by decide, by decide +kernel⟩
theorem lk_X11_359 : LkV RX11 359 RX11 yX11_noPerson cX11_noPerson 2 (some .boolean) 1 := ⟨⟨kw_2357, kw_2359, kw_92, kw_148, kw_2360⟩, rfl, by decide, by decide, by decide +kernel⟩
theorem lk_X11_362 : LkV RX11 362 RX11 yX11_remembers cX11_remembers 2 none 0 := ⟨⟨kw_2371, kw_2373, kw_94, kw_148, kw_2374⟩, rfl, by decide, by decide, by decide +kernel⟩
theorem lk_X11_365 : LkV RX11 365 RX11 yX11_treats cX11_treats 6 (some .int) 3 := ⟨⟨kw_2376, kw_2378, kw_95, kw_148, kw_2379⟩, rfl, by decide, by decide, by decide +kernel⟩
theorem lk_X11_369 : LkV RX11 369 RX11 yX11_notice cX11_notice 2 (some .int) 1 := ⟨⟨kw_2428, kw_2430, kw_106, kw_148, kw_2431⟩, rfl, by decide, by decide, by decide +kernel⟩
theorem lk_X11_372 : LkV RX11 372 RX11 yX11_says cX11_says 3 (some .int) 0 := ⟨⟨kw_2440, kw_2442, kw_107, kw_148, kw_2443⟩, rfl, by decide, by decide, by decide +kernel⟩
theorem lk_X11_375 : LkV RX11 375 RX11 yX11_readsOut cX11_readsOut 2 none 1 := ⟨⟨kw_2448, kw_2450, kw_108, kw_148, kw_2451⟩, rfl, by decide, by decide, by decide +kernel⟩
theorem lk_X11_378 : LkV RX11 378 RX11 yX11_answersCome cX11_answersCome 6 none 3 := ⟨⟨kw_2460, kw_2462, kw_109, kw_148, kw_2463⟩, rfl, by decide, by decide, by decide +kernel⟩
theorem lk_X11_382 : LkV RX11 382 RX11 yX11_draw cX11_draw 2 (some .int) 1 := ⟨⟨kw_2472, kw_2474, kw_111, kw_148, kw_2475⟩, rfl, by decide, by decide, by decide +kernel⟩
theorem lk_X11_386 : LkV RX11 386 RX11 yX11_strolls cX11_strolls 6 (some .int) 1 := ⟨⟨kw_2468, kw_2470, kw_110, kw_148, kw_2471⟩, rfl, by decide, by decide, by decide +kernel⟩
theorem lk_X11_389 : LkV RX11 389 RX11 yX11_seenBy cX11_seenBy 4 (some .int) 1 := ⟨⟨kw_2481, kw_2483, kw_112, kw_148, kw_2484⟩, rfl, by decide, by decide, by decide +kernel⟩
theorem lk_X11_392 : LkV RX11 392 RX11 yX11_holds cX11_holds 5 (some .int) 2 := ⟨⟨kw_2485, kw_2487, kw_113, kw_148, kw_2488⟩, rfl, by decide, by decide, by decide +kernel⟩
theorem lk_X11_395 : LkV RX11 395 RX11 yX11_allKnown cX11_allKnown 4 (some .int) 1 := ⟨⟨kw_2489, kw_2491, kw_114, kw_148, kw_2492⟩, rfl, by decide, by decide, by decide +kernel⟩
theorem lk_X11_398 : LkV RX11 398 RX11 yX11_noWorld cX11_noWorld 2 (some .boolean) 1 := ⟨⟨kw_2497, kw_2499, kw_115, kw_148, kw_2500⟩, rfl, by decide, by decide, by decide +kernel⟩
theorem lk_X11_401 : LkS RX11 401 yJ6_numberOfTrailingZeros_0f7a4 cJ6_numberOfTrailingZeros_0f7a4 2 (some .int) 1 := ⟨⟨kw_2524, kw_964, kw_163, kw_965⟩, by decide, by decide, by decide +kernel⟩
theorem lk_X11_406 : LkS RX11 406 yX11_onlyOne cX11_onlyOne 1 (some .int) 1 := ⟨⟨kw_2521, kw_2522, kw_148, kw_2523⟩, by decide, by decide, by decide +kernel⟩
theorem lk_X11_409 : LkV RX11 409 RX11 yX11_comes cX11_comes 4 (some .boolean) 1 := ⟨⟨kw_2533, kw_2535, kw_116, kw_148, kw_2536⟩, rfl, by decide, by decide, by decide +kernel⟩
theorem lk_X11_412 : LkV RX11 412 RX11 yX11_keepsLeft cX11_keepsLeft 2 none 0 := ⟨⟨kw_2541, kw_2543, kw_117, kw_148, kw_2544⟩, rfl, by decide, by decide, by decide +kernel⟩
theorem lk_X11_415 : LkV RX11 415 RX11 yX11_bringsLeft cX11_bringsLeft 2 none 0 := ⟨⟨kw_2545, kw_2547, kw_118, kw_148, kw_2548⟩, rfl, by decide, by decide, by decide +kernel⟩
theorem lk_X11_418 : LkS RX11 418 yJ6_bitCount_0f7a4 cJ6_bitCount_0f7a4 1 (some .int) 1 := ⟨⟨kw_2553, kw_958, kw_163, kw_959⟩, by decide, by decide, by decide +kernel⟩
theorem lk_X11_421 : LkV RX11 421 RX11 yX11_readsAll cX11_readsAll 3 none 1 := ⟨⟨kw_2554, kw_2556, kw_119, kw_148, kw_2557⟩, rfl, by decide, by decide, by decide +kernel⟩
theorem lk_X11_424 : LkV RX11 424 RX11 yX11_maskAt cX11_maskAt 3 (some .int) 2 := ⟨⟨kw_2566, kw_2568, kw_121, kw_148, kw_2569⟩, rfl, by decide, by decide, by decide +kernel⟩
theorem lk_X11_427 : LkV RX11 427 RX11 yX11_laysMore cX11_laysMore 3 none 1 := ⟨⟨kw_2562, kw_2564, kw_120, kw_148, kw_2565⟩, rfl, by decide, by decide, by decide +kernel⟩
theorem lk_X11_430 : LkV RX11 430 RX11 yX11_questionFor cX11_questionFor 7 (some .int) 1 := ⟨⟨kw_2578, kw_2580, kw_122, kw_148, kw_2581⟩, rfl, by decide, by decide, by decide +kernel⟩
theorem lk_X11_433 : LkV RX11 433 RX11 yX11_spills cX11_spills 4 (some .int) 1 := ⟨⟨kw_2590, kw_2592, kw_123, kw_148, kw_2593⟩, rfl, by decide, by decide, by decide +kernel⟩
theorem lk_X11_436 : LkV RX11 436 RX11 yX11_winBy cX11_winBy 3 (some .int) 2 := ⟨⟨kw_2606, kw_2608, kw_125, kw_148, kw_2609⟩, rfl, by decide, by decide, by decide +kernel⟩
theorem lk_X11_439 : LkV RX11 439 RX11 yX11_bestOf cX11_bestOf 5 (some .int) 2 := ⟨⟨kw_2602, kw_2604, kw_124, kw_148, kw_2605⟩, rfl, by decide, by decide, by decide +kernel⟩
theorem lk_X11_442 : LkV RX11 442 RX11 yX11_keepsAll cX11_keepsAll 2 none 0 := ⟨⟨kw_2618, kw_2620, kw_126, kw_148, kw_2621⟩, rfl, by decide, by decide, by decide +kernel⟩
theorem lk_X11_445 : LkV RX11 445 RX11 yX11_bringsBack cX11_bringsBack 2 none 0 := ⟨⟨kw_2622, kw_2624, kw_127, kw_148, kw_2625⟩, rfl, by decide, by decide, by decide +kernel⟩
theorem lk_X11_451 : LkV RX11 451 RX11 yX11_laysVotes cX11_laysVotes 3 none 1 := ⟨⟨kw_2639, kw_2641, kw_128, kw_148, kw_2642⟩, rfl, by decide, by decide, by decide +kernel⟩
theorem lk_X11_454 : LkV RX11 454 RX11 yX11_guessOf cX11_guessOf 6 (some .int) 2 := ⟨⟨kw_2643, kw_2645, kw_129, kw_148, kw_2646⟩, rfl, by decide, by decide, by decide +kernel⟩
theorem lk_X11_457 : LkV RX11 457 RX11 yX11_readThrees cX11_readThrees 5 (some .boolean) 2 := ⟨⟨kw_2655, kw_2657, kw_130, kw_148, kw_2658⟩, rfl, by decide, by decide, by decide +kernel⟩
theorem lk_X11_461 : LkV RX11 461 RX11 yX11_canStand cX11_canStand 3 (some .boolean) 2 := ⟨⟨kw_2659, kw_2661, kw_131, kw_148, kw_2662⟩, rfl, by decide, by decide, by decide +kernel⟩
theorem lk_X11_464 : LkV RX11 464 RX11 yX11_liarsIn cX11_liarsIn 4 (some .int) 1 := ⟨⟨kw_2667, kw_2669, kw_132, kw_148, kw_2670⟩, rfl, by decide, by decide, by decide +kernel⟩
theorem lk_X11_467 : LkV RX11 467 RX11 yX11_pairOf cX11_pairOf 4 (some .int) 3 := ⟨⟨kw_2679, kw_2681, kw_134, kw_148, kw_2682⟩, rfl, by decide, by decide, by decide +kernel⟩
theorem lk_X11_470 : LkV RX11 470 RX11 yX11_marries cX11_marries 4 none 0 := ⟨⟨kw_2675, kw_2677, kw_133, kw_148, kw_2678⟩, rfl, by decide, by decide, by decide +kernel⟩
theorem lk_X11_473 : LkV RX11 473 RX11 yX11_possibleAll cX11_possibleAll 4 (some .int) 1 := ⟨⟨kw_2695, kw_2697, kw_135, kw_148, kw_2698⟩, rfl, by decide, by decide, by decide +kernel⟩
