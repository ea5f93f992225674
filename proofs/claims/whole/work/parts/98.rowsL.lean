-- the law's own rows: the script, the compares
def lb (b c1 r1 o i : Nat) : List (Nat × Value) := [(0, .ref b), (1, .ref c1), (2, .ref r1), (3, .ref o), (4, .int (nI i))]
def LCw (p : Program) (s : State) (m : MethodId) (c : Code) (D : va_G) (tc : Nat → ClassId) (ro : Ro) (A : Nat → Prop) (b L : Nat) (xs : Nat → Int32) : Prop :=
  Cx p s m #[Value.ref b] c RL cL_law_ 7 D tc ro A ∧ va_X b L xs s s.heap ∧ b < s.heap.size ∧ ¬ A b ∧ ZqU A s s.heap ∧ ZqN A s s.heap ∧ NcT s ∧ L ≤ 3072
def Kt (p : Program) (l : Launch) (e : Env) (s : State) (m : MethodId) (below : List Frame) (meth : Method) (c : Code) (Q : State → Prop) (D : va_G) (tc : Nat → ClassId) (A : Nat → Prop) (b o i : Nat) (ad : Nat → Nat) (oa : Ky → Nat) (sh : Sh) (ln : Nat → Nat) (cells slots : Nat) : Prop :=
  ∀ (oa' : Ky → Nat) (aa' : Nat → Nat) (sh' : Sh) (ln' : Nat → Nat) (μk' μq' : Mm) (f' : Nat → Int64) (H' : Heap) (locs' : List Loc) (cells' slots' : Nat) (ls' : Array Slot), oa' (0, 0) = oa (0, 0) → L3 D tc s A oa' aa' sh' ln' μk' ad μq' o f' H' locs' → REL sh' ln' μq' μk' → S11 sh' → cells' + POc sh' ln' ≤ cells + POc sh ln + 3 → slots' + POs sh' ln' ≤ slots + POs sh ln + 520 → sh' 4 2 ≤ sh 4 2 + 1 → lv_has ls' 7 (lb b (oa (0, 0)) (ad 0) o i) → W p l e room_1 s m #[Value.ref b] below meth c H' locs' cells' slots' Q (F0 m 2913 ls' [])
theorem lg0 (a : Int64) : lg_cmp a a = 0 := by
  unfold lg_cmp
  rw [if_neg (Int64.lt_irrefl), if_pos rfl]
theorem cdI {md : Nat → Nat} {r : Int32 ⊕ Nat} {x : Int32} {f : Nat → Int64} (hrv : ∀ v, r = .inl v → v = x) (hrm : ∀ cn, r = .inr cn → 1 ≤ md cn ∧ md cn < 4) (hlv : ∀ v, lvI r = some v → f 0 = v) : cdW md r = 0 → f 0 = x.toInt64 := by
  intro h
  cases r with
  | inl v => rw [hlv _ rfl, hrv v rfl]
  | inr cn =>
    have h : nI (md cn) = 0 := h
    have := congrArg Int32.toNatClampNeg h
    have h2 := hrm cn rfl
    rw [nI_clamp (by omega)] at this
    have : md cn = 0 := this
    omega
theorem cdB {md : Nat → Nat} {r : Int32 ⊕ Nat} {x : Int32} {f : Nat → Int64} (hrv : ∀ v, r = .inl v → v = x) (hrm : ∀ cn, r = .inr cn → 1 ≤ md cn ∧ md cn < 4) (hlv : ∀ v, lvB r = some v → f 0 = v) : cdW md r = 0 → f 0 = if x = 0 then 0 else 1 := by
  intro h
  cases r with
  | inl v => rw [hlv _ rfl, hrv v rfl]
  | inr cn =>
    have h : nI (md cn) = 0 := h
    have := congrArg Int32.toNatClampNeg h
    have h2 := hrm cn rfl
    rw [nI_clamp (by omega)] at this
    have : md cn = 0 := this
    omega
section ROWSL
variable {p : Program} {l : Launch} {e : Env} {s : State} {m : MethodId} {below : List Frame} {meth : Method} {c : Code} {H : Heap} {locs : List Loc} {cells slots : Nat} {Q : State → Prop}
variable {pc : Nat} {ls : Array Slot} {rest : List Value} {D : va_G} {tc : Nat → ClassId} {ro : Ro} {oa : Ky → Nat} {aa : Nat → Nat} {ad : Nat → Nat} {sh : Sh} {ln : Nat → Nat} {A : Nat → Prop} {μk μq : Mm} {b o L i c1 : Nat} {xs : Nat → Int32} {f : Nat → Int64}
/-- script[i + k] -/
theorem r_scr (K : LCw p s m c D tc ro A b L xs) (hS : va_S A s.heap H locs) (h0 : ls[0]? = some (.val (.ref b))) (h4 : ls[4]? = some (.val (.int (nI i)))) (k : Nat) {n : Int} (hi : i + 6 ≤ L) (hk : k ≤ 5) (d0 : decode cL_law_ pc = .ok (.aload_n 0, 1)) (d1 : decode cL_law_ (pc + 1) = .ok (.iload 4, 2)) (d3 : decode cL_law_ (pc + 3) = .ok (.iconst n, 1)) (hn : Int32.ofInt n = nI k) (d4 : decode cL_law_ (pc + 4) = .ok (.iadd, 1)) (d5 : decode cL_law_ (pc + 5) = .ok (.iaload, 1))
    (kk : W p l e room_1 s m #[Value.ref b] below meth c H locs cells slots Q (F0 m (pc + 6) ls (.int (xs (i + k)) :: rest))) : W p l e room_1 s m #[Value.ref b] below meth c H locs cells slots Q (F0 m pc ls rest) := by
  obtain ⟨⟨⟨hx, hb, -⟩, -⟩, hX, hbl, hbA, -, -, -, hL⟩ := K
  refine lv_aload_n hx hb d0 rfl h0 ?_
  refine lv_iload hx hb d1 h4 ?_
  refine lv_iconst (v := nI k) hx hb d3 hn ?_
  refine lv_iadd hx hb d4 ?_
  rw [nI_add]
  refine va_sld hx hb hX hbl hbA hS (vp_in_nI (by omega) (by omega)) d5 ?_
  rw [nI_clamp (by omega)]
  exact kk
/-- x != 0 -/
theorem r_bool (K : LCw p s m c D tc ro A b L xs) {x : Int32} (d0 : decode cL_law_ pc = .ok (.ifCond .eq 7, 3)) (d3 : decode cL_law_ (pc + 3) = .ok (.iconst 1, 1)) (d4 : decode cL_law_ (pc + 4) = .ok (.goto 4, 3)) (d7 : decode cL_law_ (pc + 7) = .ok (.iconst 0, 1))
    (kk : W p l e room_1 s m #[Value.ref b] below meth c H locs cells slots Q (F0 m (pc + 8) ls (.int (bI (decide (x ≠ 0))) :: rest))) : W p l e room_1 s m #[Value.ref b] below meth c H locs cells slots Q (F0 m pc ls (.int x :: rest)) := by
  obtain ⟨⟨⟨hx, hb, -⟩, -⟩, -⟩ := K
  refine lv_if_eq (tgt := pc + 7) hx hb d0 (by omega) (fun c1 => ?_) (fun c1 => ?_)
  · refine lv_iconst (v := 0) hx hb d7 (by decide) ?_
    rw [show bI (decide (x ≠ 0)) = 0 by rw [decide_eq_false (fun q => q c1)]; rfl] at kk
    exact kk
  · refine lv_iconst (v := 1) hx hb d3 (by decide) ?_
    refine lv_goto (tgt := pc + 8) hx hb d4 (by omega) ?_
    rw [show bI (decide (x ≠ 0)) = 1 by rw [decide_eq_true c1]; rfl] at kk
    exact kk
/-- out[0] -/
theorem r_ladW (K : LCw p s m c D tc ro A b L xs) (hO : outc tc o f H) (d : decode cL_law_ pc = .ok (.laload, 1)) (kk : W p l e room_1 s m #[Value.ref b] below meth c H locs cells slots Q (F0 m (pc + 1) ls (.long (f 0) :: rest))) : W p l e room_1 s m #[Value.ref b] below meth c H locs cells slots Q (F0 m pc ls (.int 0 :: .ref o :: rest)) := by
  obtain ⟨⟨⟨hx, hb, -⟩, hK, -⟩, -⟩ := K
  exact W.lald (v := .long (f 0)) hx hb hO ((hK.2 4 _ rfl).1 1 (fun j => .long (f j))) (fun q => by cases q) (by rw [arrV_size]; decide) (by rw [show (0 : Int32).toNatClampNeg = 0 from rfl, arrV_read _ _ (by omega)]) rfl rfl d kk
theorem lkq_158 : LkV RL 158 RX11 yX11_thrown cX11_thrown 1 (some .int) 0 := ⟨⟨kw_2016, kw_2017, kw_2018, kw_148, kw_2019⟩, rfl, by decide, by decide, by decide +kernel⟩
theorem tlI (K : LCw p s m c D tc ro A b L xs) (h : L3 D tc s A oa aa sh ln μk ad μq o f H locs) {x5 x6 : Int32} (hl : lv_has ls 7 ((5, .int x5) :: lb b c1 (ad 0) o i)) (h5 : μq (0, 0) 0 = x5) (hv : x5 = 0 → f 0 = x6.toInt64) (hf : cells ≤ 601024 ∧ slots ≤ 7293034) {off : Int}
    (d0 : decode cL_law_ pc = .ok (.istore 6, 2)) (d2 : decode cL_law_ (pc + 2) = .ok (.aload_n 2, 1)) (d3 : decode cL_law_ (pc + 3) = .ok (.invokevirtual 158, 3)) (d6 : decode cL_law_ (pc + 6) = .ok (.iload 5, 2)) (d8 : decode cL_law_ (pc + 8) = .ok (.if_icmp .eq 5, 3)) (d13 : decode cL_law_ (pc + 13) = .ok (.iload 5, 2)) (d15 : decode cL_law_ (pc + 15) = .ok (.ifCond .ne 15, 3)) (d18 : decode cL_law_ (pc + 18) = .ok (.aload_n 3, 1)) (d19 : decode cL_law_ (pc + 19) = .ok (.iconst 0, 1)) (d20 : decode cL_law_ (pc + 20) = .ok (.laload, 1)) (d21 : decode cL_law_ (pc + 21) = .ok (.iload 6, 2)) (d23 : decode cL_law_ (pc + 23) = .ok (.i2l, 1)) (d24 : decode cL_law_ (pc + 24) = .ok (.lcmp, 1)) (d25 : decode cL_law_ (pc + 25) = .ok (.ifCond .eq 5, 3)) (d30 : decode cL_law_ (pc + 30) = .ok (.goto off, 3)) (ht : ((pc + 30 : Nat) : Int) + off = 2913)
    (kk : ∀ (H1 : Heap) (locs1 : List Loc) (ls' : Array Slot), L3 D tc s A oa aa sh ln μk ad μq o f H1 locs1 → lv_has ls' 7 (lb b c1 (ad 0) o i) → W p l e room_1 s m #[Value.ref b] below meth c H1 locs1 cells slots Q (F0 m 2913 ls' [])) : W p l e room_1 s m #[Value.ref b] below meth c H locs cells slots Q (F0 m pc ls [.int x6]) := by
  have hx := K.1.1.1
  have hb := K.1.1.2.1
  refine lv_istore (lv' := (6, .int x6) :: (5, .int x5) :: lb b c1 (ad 0) o i) hx hb d0 hl (by decide) rfl (fun ls hl => ?_)
  refine lv_aload_n hx hb d2 rfl (lv_at hl 4 rfl) ?_
  refine r_lawQ K.1 h hl lkq_158 (c_X11_thrown (res := μq (0, 0) 0) rfl) ⟨rfl, rfl⟩ ⟨Nat.le_of_ble_eq_true rfl, Nat.le_of_ble_eq_true rfl⟩ (As := []) (rest := []) rfl rfl (Nat.le_of_ble_eq_true rfl) d3 hf (fun H1 locs1 h => ?_)
  refine lv_iload hx hb d6 (lv_at hl 1 rfl) ?_
  refine lv_icmp_eq (tgt := pc + 13) hx hb d8 (by omega) (fun _ => ?_) (fun cq => by first | exact absurd h5 cq | exact absurd h5.symm cq)
  have fin : W p l e room_1 s m #[Value.ref b] below meth c H1 locs1 cells slots Q (F0 m (pc + 30) ls []) := lv_goto (tgt := 2913) hx hb d30 ht (kk H1 locs1 ls h (lv_sub hl [2, 3, 4, 5, 6] rfl))
  refine lv_iload hx hb d13 (lv_at hl 1 rfl) ?_
  refine lv_if_ne (tgt := pc + 30) hx hb d15 (by omega) (fun _ => fin) (fun cz => ?_)
  refine lv_aload_n hx hb d18 rfl (lv_at hl 5 rfl) ?_
  refine lv_iconst (v := 0) hx hb d19 (by decide) ?_
  refine r_ladW K h.2.2.1.1 d20 ?_
  refine lv_iload hx hb d21 (lv_at hl 0 rfl) ?_
  refine lv_i2l hx hb d23 rfl ?_
  refine W.lcmp hx hb d24 ?_
  rw [hv cz, lg0]
  exact lv_if_eq (tgt := pc + 30) hx hb d25 (by omega) (fun _ => fin) (fun cq => absurd rfl cq)
theorem tlB (K : LCw p s m c D tc ro A b L xs) (h : L3 D tc s A oa aa sh ln μk ad μq o f H locs) {x5 x6 : Int32} (hl : lv_has ls 7 ((5, .int x5) :: lb b c1 (ad 0) o i)) (h5 : μq (0, 0) 0 = x5) (hv : x5 = 0 → f 0 = if x6 = 0 then 0 else 1) (hf : cells ≤ 601024 ∧ slots ≤ 7293034) {off : Int}
    (d0 : decode cL_law_ pc = .ok (.istore 6, 2)) (d2 : decode cL_law_ (pc + 2) = .ok (.aload_n 2, 1)) (d3 : decode cL_law_ (pc + 3) = .ok (.invokevirtual 158, 3)) (d6 : decode cL_law_ (pc + 6) = .ok (.iload 5, 2)) (d8 : decode cL_law_ (pc + 8) = .ok (.if_icmp .eq 5, 3)) (d13 : decode cL_law_ (pc + 13) = .ok (.iload 5, 2)) (d15 : decode cL_law_ (pc + 15) = .ok (.ifCond .ne 22, 3)) (d18 : decode cL_law_ (pc + 18) = .ok (.aload_n 3, 1)) (d19 : decode cL_law_ (pc + 19) = .ok (.iconst 0, 1)) (d20 : decode cL_law_ (pc + 20) = .ok (.laload, 1)) (d21 : decode cL_law_ (pc + 21) = .ok (.iload 6, 2)) (d23 : decode cL_law_ (pc + 23) = .ok (.ifCond .eq 7, 3)) (d26 : decode cL_law_ (pc + 26) = .ok (.lconst 1, 1)) (d27 : decode cL_law_ (pc + 27) = .ok (.goto 4, 3)) (d30 : decode cL_law_ (pc + 30) = .ok (.lconst 0, 1)) (d31 : decode cL_law_ (pc + 31) = .ok (.lcmp, 1)) (d32 : decode cL_law_ (pc + 32) = .ok (.ifCond .eq 5, 3)) (d37 : decode cL_law_ (pc + 37) = .ok (.goto off, 3)) (ht : ((pc + 37 : Nat) : Int) + off = 2913)
    (kk : ∀ (H1 : Heap) (locs1 : List Loc) (ls' : Array Slot), L3 D tc s A oa aa sh ln μk ad μq o f H1 locs1 → lv_has ls' 7 (lb b c1 (ad 0) o i) → W p l e room_1 s m #[Value.ref b] below meth c H1 locs1 cells slots Q (F0 m 2913 ls' [])) : W p l e room_1 s m #[Value.ref b] below meth c H locs cells slots Q (F0 m pc ls [.int x6]) := by
  have hx := K.1.1.1
  have hb := K.1.1.2.1
  refine lv_istore (lv' := (6, .int x6) :: (5, .int x5) :: lb b c1 (ad 0) o i) hx hb d0 hl (by decide) rfl (fun ls hl => ?_)
  refine lv_aload_n hx hb d2 rfl (lv_at hl 4 rfl) ?_
  refine r_lawQ K.1 h hl lkq_158 (c_X11_thrown (res := μq (0, 0) 0) rfl) ⟨rfl, rfl⟩ ⟨Nat.le_of_ble_eq_true rfl, Nat.le_of_ble_eq_true rfl⟩ (As := []) (rest := []) rfl rfl (Nat.le_of_ble_eq_true rfl) d3 hf (fun H1 locs1 h => ?_)
  refine lv_iload hx hb d6 (lv_at hl 1 rfl) ?_
  refine lv_icmp_eq (tgt := pc + 13) hx hb d8 (by omega) (fun _ => ?_) (fun cq => by first | exact absurd h5 cq | exact absurd h5.symm cq)
  have fin : W p l e room_1 s m #[Value.ref b] below meth c H1 locs1 cells slots Q (F0 m (pc + 37) ls []) := lv_goto (tgt := 2913) hx hb d37 ht (kk H1 locs1 ls h (lv_sub hl [2, 3, 4, 5, 6] rfl))
  refine lv_iload hx hb d13 (lv_at hl 1 rfl) ?_
  refine lv_if_ne (tgt := pc + 37) hx hb d15 (by omega) (fun _ => fin) (fun cz => ?_)
  refine lv_aload_n hx hb d18 rfl (lv_at hl 5 rfl) ?_
  refine lv_iconst (v := 0) hx hb d19 (by decide) ?_
  refine r_ladW K h.2.2.1.1 d20 ?_
  refine lv_iload hx hb d21 (lv_at hl 0 rfl) ?_
  have hf0 := hv cz
  refine lv_if_eq (tgt := pc + 30) hx hb d23 (by omega) (fun c2 => ?_) (fun c2 => ?_)
  · refine lv_lconst (v := 0) hx hb d30 rfl ?_
    refine W.lcmp hx hb d31 ?_
    rw [hf0, if_pos c2, lg0]
    exact lv_if_eq (tgt := pc + 37) hx hb d32 (by omega) (fun _ => fin) (fun cq => absurd rfl cq)
  · refine lv_lconst (v := 1) hx hb d26 rfl ?_
    refine lv_goto (tgt := pc + 31) hx hb d27 (by omega) ?_
    refine W.lcmp hx hb d31 ?_
    rw [hf0, if_neg c2, lg0]
    exact lv_if_eq (tgt := pc + 37) hx hb d32 (by omega) (fun _ => fin) (fun cq => absurd rfl cq)
end ROWSL
theorem RLL.wf {sh : Sh} {ln : Nat → Nat} {μq μk : Mm} {V n N w0 : Nat} {r : Nat → Int32} {Λo : Option LW} {j d t c z : Nat} {T : Nat → Nat} (h : RLL sh ln μq μk V n N w0 r Λo j d t c T z) : WfS sh := h.2.2.2.2.2.2.2.2.1
theorem RLL.h9 {sh : Sh} {ln : Nat → Nat} {μq μk : Mm} {V n N w0 : Nat} {r : Nat → Int32} {Λo : Option LW} {j d t c z : Nat} {T : Nat → Nat} (h : RLL sh ln μq μk V n N w0 r Λo j d t c T z) : sh 2 ((μk (0, 0) 9).toNatClampNeg) = 1 := by
  obtain ⟨e1, e2, e3, e4, e5, e6, e7⟩ := h.2.1.1
  rw [e1, nI_clamp (by omega)]
  exact e6
theorem RLL.h10 {sh : Sh} {ln : Nat → Nat} {μq μk : Mm} {V n N w0 : Nat} {r : Nat → Int32} {Λo : Option LW} {j d t c z : Nat} {T : Nat → Nat} (h : RLL sh ln μq μk V n N w0 r Λo j d t c T z) : sh 2 ((μk (0, 0) 10).toNatClampNeg) = 1 := by
  obtain ⟨e1, e2, e3, e4, e5, e6, e7⟩ := h.2.1.1
  rw [e2, nI_clamp (by omega)]
  exact e7

