-- the law, from its entry
theorem kw_170 : (Cond.classLink "BackVillageLaw" 8 "BackVillage") ∈ GW := gw_1 (i := 34) (by decide +kernel) rfl
theorem kw_171 : (Cond.instantiable "BackVillage" 13) ∈ GW := gw_1 (i := 35) (by decide +kernel) rfl
theorem kw_172 : (Cond.methodLink "BackVillageLaw" 139 ⟨"BackVillage", "<init>", "()V"⟩) ∈ GW := gw_1 (i := 36) (by decide +kernel) rfl
theorem kw_173 : (Cond.instanceMethod ⟨"BackVillage", "<init>", "()V"⟩) ∈ GW := gw_1 (i := 37) (by decide +kernel) rfl
theorem kw_174 : (Cond.code ⟨"BackVillage", "<init>", "()V"⟩ prog_1_method_1_code 1 none) ∈ GW := gw_1 (i := 38) (by decide +kernel) rfl
theorem kw_2020 : (Cond.classLink "BackVillageLaw" 140 "BackVillageModel") ∈ GW := gw_8 (i := 204) (by decide +kernel) rfl
theorem kw_2021 : (Cond.instantiable "BackVillageModel" 37) ∈ GW := gw_8 (i := 205) (by decide +kernel) rfl
theorem kw_2022 : (Cond.methodLink "BackVillageLaw" 142 ⟨"BackVillageModel", "<init>", "()V"⟩) ∈ GW := gw_8 (i := 206) (by decide +kernel) rfl
theorem kw_2023 : (Cond.instanceMethod ⟨"BackVillageModel", "<init>", "()V"⟩) ∈ GW := gw_8 (i := 207) (by decide +kernel) rfl
theorem kw_2024 : (Cond.code ⟨"BackVillageModel", "<init>", "()V"⟩ prog_13_method_5_code 1 none) ∈ GW := gw_8 (i := 208) (by decide +kernel) rfl
theorem kw_2711 : (Cond.arrayClass .long) ∈ GW := gw_11 (i := 175) (by decide +kernel) rfl
theorem lki_L_139 : LkI RL 139 yX10_init cX10_init 1 0 := ⟨⟨kw_172, kw_173, kw_137, kw_174⟩, by decide, by decide, by decide, by decide +kernel⟩
theorem lki_L_142 : LkI RL 142 yX11_init cX11_init 1 0 := ⟨⟨kw_2022, kw_2023, kw_148, kw_2024⟩, by decide, by decide, by decide, by decide +kernel⟩
theorem bud1 {x : Nat} (h : x ≤ 2011) : 6 * (94 + x) + 3 * (3078 - 0) ≤ 6 * 601024 := by omega
theorem bud2 {x : Nat} (h : x ≤ 880970) : 6 * (96627 + x) + 520 * (3078 - 0) ≤ 6 * 7293034 := by omega
theorem va_P.lft {D : va_G} {cl : List vw_C} {w1 w2 : va_W} {H : Heap} (h : va_P D cl (w1 ++ w2) H) : va_P D cl w1 H := fun k q hk => h k q (by rw [List.getElem?_append_left (List.getElem?_eq_some_iff.mp hk).1]; exact hk)
theorem va_P.rgt {D : va_G} {cl : List vw_C} {w1 w2 : va_W} {H : Heap} (h : va_P D cl (w1 ++ w2) H) : va_P D cl w2 H := fun k q hk => h (w1.length + k) q (by rw [List.getElem?_append_right (by omega), Nat.add_sub_cancel_left]; exact hk)
theorem va_D.lft {A : Nat → Prop} {w1 w2 : va_W} (h : va_D A (w1 ++ w2)) : va_D A w1 := ⟨fun i j p q hi hj e => h.1 i j p q (by rw [List.getElem?_append_left (List.getElem?_eq_some_iff.mp hi).1]; exact hi) (by rw [List.getElem?_append_left (List.getElem?_eq_some_iff.mp hj).1]; exact hj) e, fun k q hk => h.2 k q (by rw [List.getElem?_append_left (List.getElem?_eq_some_iff.mp hk).1]; exact hk)⟩
theorem va_D.rgt {A : Nat → Prop} {w1 w2 : va_W} (h : va_D A (w1 ++ w2)) : va_D A w2 := ⟨fun i j p q hi hj e => by
  have := h.1 (w1.length + i) (w1.length + j) p q (by rw [List.getElem?_append_right (by omega), Nat.add_sub_cancel_left]; exact hi) (by rw [List.getElem?_append_right (by omega), Nat.add_sub_cancel_left]; exact hj) e
  omega, fun k q hk => h.2 (w1.length + k) q (by rw [List.getElem?_append_right (by omega), Nat.add_sub_cancel_left]; exact hk)⟩
theorem va_D.sep {A : Nat → Prop} {w1 w2 : va_W} (h : va_D A (w1 ++ w2)) {p q : Nat × va_E} (hp : p ∈ w1) (hq : q ∈ w2) : p.1 ≠ q.1 := fun e => by
  obtain ⟨i, hi⟩ := List.mem_iff_getElem?.mp hp
  obtain ⟨j, hj⟩ := List.mem_iff_getElem?.mp hq
  have hl := (List.getElem?_eq_some_iff.mp hi).1
  have := h.1 i (w1.length + j) p q (by rw [List.getElem?_append_left hl]; exact hi) (by rw [List.getElem?_append_right (by omega), Nat.add_sub_cancel_left]; exact hj) e
  omega
theorem va_D.mem {A : Nat → Prop} {w : va_W} (h : va_D A w) {p : Nat × va_E} (hp : p ∈ w) : A p.1 := by
  obtain ⟨i, hi⟩ := List.mem_iff_getElem?.mp hp
  exact h.2 i p hi
set_option maxHeartbeats 4000000 in
set_option maxRecDepth 100000 in
theorem start_L3 {D : va_G} {tc : Nat → ClassId} {s : State} {A : Nat → Prop} {H : Heap} {locs : List Loc} {q1 q2 o : Nat} {u1 u2 : Nat → Nat} (hW : Wl D A s.heap ((FX10 tc q1 u1 ++ FX11 tc q2 u2) ++ [(o, .inl (tc 4, 1, .inr (.inl (fun _ => 0))))]) H locs) : L3 D tc s A (oa0 q1 u1) (aa0 u1) sh0 ln0 μk0 (ad0 q2 u2) μq0 o (fun _ => 0) H locs := by
  obtain ⟨hP, hD, hS, hZ⟩ := hW
  have hT : ∀ {w : va_W}, va_D A w → va_D (fun _ => True) w := fun h => h.weaken (fun _ _ _ _ => trivial)
  obtain ⟨g1, g2, g3⟩ := (wd_emp D (feB tc (oa0 q1 u1) (aa0 u1) sh0 ln0) μk0 H).grow (fa2 := faB (oa0 q1 u1) (aa0 u1) sh0) (fe2 := feB tc (oa0 q1 u1) (aa0 u1) sh0 ln0) (μ2 := μk0) (NK := NK10) inj_emp hP.lft.lft (hT hD.lft.lft) (fun k a h => by cases h) (fun k a h => Or.inr (k10_all tc q1 u1 k a h))
  obtain ⟨r1, r2, r3⟩ := (wd_emp D (feM tc (ad0 q2 u2)) μq0 H).grow (fa2 := faM (ad0 q2 u2)) (fe2 := feM tc (ad0 q2 u2)) (μ2 := μq0) (NK := NK11) inj_emp hP.lft.rgt (hT hD.lft.rgt) (fun k a h => by cases h) (fun k a h => Or.inr (k11_all tc q2 u2 k a h))
  have m1 : ∀ k a, faB (oa0 q1 u1) (aa0 u1) sh0 k = some a → ∃ e : va_E, (a, e) ∈ FX10 tc q1 u1 := fun k a h => (g3 k a h).resolve_left (fun h => by cases h)
  have m2 : ∀ k a, faM (ad0 q2 u2) k = some a → ∃ e : va_E, (a, e) ∈ FX11 tc q2 u2 := fun k a h => (r3 k a h).resolve_left (fun h => by cases h)
  have mo : ((o, .inl (tc 4, 1, .inr (.inl (fun _ => 0)))) : Nat × va_E) ∈ [((o, .inl (tc 4, 1, .inr (.inl (fun _ => 0)))) : Nat × va_E)] := List.mem_singleton.mpr rfl
  refine ⟨⟨g1, hS, fun k a h => ?_, hZ, g2⟩, ⟨r1, fun k a h => ?_, r2⟩, ⟨hP.rgt 0 _ rfl, hD.rgt.mem mo⟩, fun k k' a h h' => ?_, fun k h => ?_, fun k h => ?_⟩
  · obtain ⟨e, h⟩ := m1 k a h
    exact hD.lft.lft.mem h
  · obtain ⟨e, h⟩ := m2 k a h
    exact hD.lft.rgt.mem h
  · obtain ⟨e, h⟩ := m1 k a h
    obtain ⟨e', h'⟩ := m2 k' a h'
    exact hD.lft.sep h h' rfl
  · obtain ⟨e, h⟩ := m1 k o h
    exact hD.sep (List.mem_append_left _ h) mo rfl
  · obtain ⟨e, h⟩ := m2 k o h
    exact hD.sep (List.mem_append_right _ h) mo rfl
set_option maxHeartbeats 4000000 in
set_option maxRecDepth 100000 in
/-- THE LAW, from its entry -/
theorem whole_start {p : Program} {e : Env} {s : State} {m : MethodId} {below : List Frame} {meth : Method} {c : Code} (l : Launch) (hflags : l.flags = flags0) {b L : Nat} {xs : Nat → Int32} (hL : L ≤ 3072) (C0 : lw_At p s m meth c b L xs) : W p l e room_1 s m #[Value.ref b] below meth c s.heap [] 0 0 (lw_Z below #[Value.ref b] s) (entryFrame m ([Value.ref b] : List Value).toArray 7) := by
  obtain ⟨hx, hb, hr, hml, hown, hts, hX, hbl, hlocks, hgv⟩ := id C0
  have hs : l.stackTraces = false := by
    unfold Launch.stackTraces
    rw [hflags]
    decide +kernel
  have hF : ∀ w ∈ FLs, w.before #[Value.ref b] s = true := flat_of_before _ hgv
  have hG := gw_all hts
  obtain ⟨D, hD1⟩ := cls_facts hts
  obtain ⟨tc, hT⟩ := arr_facts hts
  obtain ⟨ro, hro⟩ := start_ro hts hF
  obtain ⟨hU, hN, hNN, hnc⟩ := start_x hts hF
  obtain ⟨A, hA⟩ : ∃ A : Nat → Prop, A = fun q => s.heap.size ≤ q := ⟨_, rfl⟩
  rw [← hA] at hro hU hN
  have hAz : ∀ q, s.heap.size ≤ q → A q := fun q h => by rw [hA]; exact h
  have hAz2 : ∀ q, A q → s.heap.size ≤ q := fun q h => by rw [hA] at h; exact h
  have hbA : ¬ A b := by rw [hA]; exact Nat.not_le.mpr hbl
  have C : Cx p s m #[Value.ref b] c RL cL_law_ 7 D tc ro A := ⟨⟨hx, hb, hml, hown, hG⟩, ⟨hD1, hT⟩, hro⟩
  have K : LCw p s m c D tc ro A b L xs := ⟨C, hX, hbl, hbA, hU, hN, hnc, hL⟩
  have hW : Wl D A s.heap [] s.heap [] := ⟨fun k q h => by simp at h, ⟨fun i j p q h => by simp at h, fun k q h => by simp at h⟩, va_S.rf, hAz⟩
  have hl := lv_entry ([.ref b]) (n := 7) (Nat.le_of_ble_eq_true rfl)
  rw [lg_entry_eq]
  generalize (lg_sl ([.ref b]) ++ List.replicate (7 - (lg_sl ([.ref b])).length) Slot.unset).toArray = ls at hl ⊢
  have hl : lv_has ls 7 [(0, .ref b)] := hl
  refine l_new (ci := 10) (T := TX10) (N := 13) C hW rfl kin_X10 tyX10_ok kw_170 kw_171 kw_137 [.null, .null, .null, .null, .null, .null, .null, .int 0, .int 0, .null, .null, .null, .int 0] dfX10 ⟨Nat.le_of_ble_eq_true rfl, Nat.le_of_ble_eq_true rfl⟩ dL_law__0 (fun q1 H hW => ?_)
  have hW : Wl D A s.heap [(q1, .inr (10, [.null, .null, .null, .null, .null, .null, .null, .int 0, .int 0, .null, .null, .null, .int 0]))] H [] := hW
  refine lv_dup hx hb dL_law__3 rfl ?_
  refine l_init2 (wc := [(q1, .inr (10, [.null, .null, .null, .null, .null, .null, .null, .int 0, .int 0, .null, .null, .null, .int 0]))]) (wr := []) (F := FX10 tc q1) (As := []) (rest := [.ref q1]) C hNN hW hl lki_L_139 cL_X10_init [0] [] rfl rfl rfl rfl (by decide) ⟨Nat.le_of_ble_eq_true rfl, Nat.le_of_ble_eq_true rfl⟩ rfl rfl (Nat.le_of_ble_eq_true rfl) dL_law__4 ⟨Nat.le_of_ble_eq_true rfl, Nat.le_of_ble_eq_true rfl⟩ (fun u1 H locs hW => ?_)
  have hW : Wl D A s.heap (FX10 tc q1 u1) H locs := hW
  refine lv_astore_n (lv' := [(1, .ref q1), (0, .ref b)]) hx hb dL_law__7 rfl hl (by decide) rfl (fun ls hl => ?_)
  refine l_new (ci := 11) (T := TX11) (N := 37) C hW rfl kin_X11 tyX11_ok kw_2020 kw_2021 kw_148 [.int 0, .null, .null, .null, .null, .null, .int 0, .int 0, .null, .null, .null, .null, .int 0, .int 0, .int 0, .int 0, .int 0, .int 0, .null, .int 0, .int 0, .int 0, .null, .null, .null, .null, .null, .null, .null, .null, .null, .null, .null, .null, .null, .null, .null] dfX11 ⟨Nat.le_of_ble_eq_true rfl, Nat.le_of_ble_eq_true rfl⟩ dL_law__8 (fun q2 H hW => ?_)
  refine lv_dup hx hb dL_law__11 rfl ?_
  refine l_init (wc := [(q2, .inr (11, [.int 0, .null, .null, .null, .null, .null, .int 0, .int 0, .null, .null, .null, .null, .int 0, .int 0, .int 0, .int 0, .int 0, .int 0, .null, .int 0, .int 0, .int 0, .null, .null, .null, .null, .null, .null, .null, .null, .null, .null, .null, .null, .null, .null, .null]))]) (wr := FX10 tc q1 u1) (F := FX11 tc q2) (As := []) (rest := [.ref q2]) C hW hl lki_L_142 cL_X11_init [67] (List.range 67) rfl rfl (by decide) rfl (by decide) ⟨Nat.le_of_ble_eq_true rfl, Nat.le_of_ble_eq_true rfl⟩ rfl rfl (Nat.le_of_ble_eq_true rfl) dL_law__12 ⟨Nat.le_of_ble_eq_true rfl, Nat.le_of_ble_eq_true rfl⟩ (fun u2 H locs hW => ?_)
  refine lv_astore_n (lv' := [(2, .ref q2), (1, .ref q1), (0, .ref b)]) hx hb dL_law__15 rfl hl (by decide) rfl (fun ls hl => ?_)
  refine lv_iconst (v := 1) hx hb dL_law__16 (by decide) ?_
  refine l_newl (N := 1) C hW kw_2711 (by decide) (by decide) (by decide) ⟨Nat.le_of_ble_eq_true rfl, Nat.le_of_ble_eq_true rfl⟩ dL_law__17 (fun o H hW => ?_)
  refine lv_astore_n (lv' := [(3, .ref o), (2, .ref q2), (1, .ref q1), (0, .ref b)]) hx hb dL_law__19 rfl hl (by decide) rfl (fun ls hl => ?_)
  refine lv_iconst (v := 0) hx hb dL_law__20 (by decide) ?_
  refine lv_istore (lv' := [(4, .int 0), (3, .ref o), (2, .ref q2), (1, .ref q1), (0, .ref b)]) hx hb dL_law__21 hl (by decide) rfl (fun ls hl => ?_)
  obtain ⟨b1, b2⟩ := base_cost sh0 ln0
  have e4 : sh0 4 2 = 0 := if_neg (by omega)
  refine W.widen (k := 94) (n := 96627) (Nat.le_of_ble_eq_true rfl) (Nat.le_of_ble_eq_true rfl) ?_
  have hL3 := start_L3 hW
  have hl0 : lv_has ls 7 (lb b q1 q2 o 0) := lv_sub hl [4, 3, 2, 1, 0] rfl
  have c1 := bud1 b1
  have c2 := bud2 b2
  have c3 : 6 * sh0 4 2 ≤ 0 := by rw [e4]; exact Nat.le_refl _
  have c4 : 3084 ≤ 0 + 6 * 600 := by decide
  obtain ⟨sh1, e1⟩ : ∃ sh1, sh1 = sh0 := ⟨_, rfl⟩
  obtain ⟨ln1, e2⟩ : ∃ ln1, ln1 = ln0 := ⟨_, rfl⟩
  obtain ⟨μ1, e3⟩ : ∃ μ1, μ1 = μk0 := ⟨_, rfl⟩
  obtain ⟨μ2, e5⟩ : ∃ μ2, μ2 = μq0 := ⟨_, rfl⟩
  have hR := REL0
  have hS := S110
  rw [← e1, ← e2, ← e3, ← e5] at hL3 hR
  rw [← e1] at hS c3
  rw [← e1, ← e2] at c1 c2
  exact law_loop (ad := ad0 q2 u2) K hs hr hlocks hAz2 600 0 (oa0 q1 u1) (aa0 u1) sh1 ln1 μ1 μ2 (fun _ => 0) H locs 94 96627 ls (Nat.zero_le _) c4 hL3 hR hS c3 c1 c2 hl0
