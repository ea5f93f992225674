-- what the start gives, on
set_option maxRecDepth 100000 in
theorem ref_all : ∀ q ∈ refsS, q.2.2.2 < nS ∧ (Term.string q.1 q.2.1 = tmS q.2.2.2 ∨ Cond.eq (tmS q.2.2.2) (Term.string q.1 q.2.1) ∈ FLs) := List.forall_mem_cons.mpr ⟨⟨by decide, Or.inl rfl⟩, List.forall_mem_cons.mpr ⟨⟨by decide, Or.inl rfl⟩, List.forall_mem_cons.mpr ⟨⟨by decide, Or.inl rfl⟩, List.forall_mem_cons.mpr ⟨⟨by decide, Or.inl rfl⟩, List.forall_mem_cons.mpr ⟨⟨by decide, Or.inl rfl⟩, List.forall_mem_cons.mpr ⟨⟨by decide, Or.inl rfl⟩, List.forall_mem_cons.mpr ⟨⟨by decide, Or.inl rfl⟩, List.forall_mem_cons.mpr ⟨⟨by decide, Or.inl rfl⟩, List.forall_mem_cons.mpr ⟨⟨by decide, Or.inl rfl⟩, List.forall_mem_cons.mpr ⟨⟨by decide, Or.inl rfl⟩, List.forall_mem_cons.mpr ⟨⟨by decide, Or.inl rfl⟩, List.forall_mem_cons.mpr ⟨⟨by decide, Or.inl rfl⟩, List.forall_mem_cons.mpr ⟨⟨by decide, Or.inl rfl⟩, List.forall_mem_cons.mpr ⟨⟨by decide, Or.inl rfl⟩, List.forall_mem_cons.mpr ⟨⟨by decide, Or.inl rfl⟩, List.forall_mem_cons.mpr ⟨⟨by decide, Or.inl rfl⟩, List.forall_mem_cons.mpr ⟨⟨by decide, Or.inl rfl⟩, List.forall_mem_cons.mpr ⟨⟨by decide, Or.inl rfl⟩, List.forall_mem_cons.mpr ⟨⟨by decide, Or.inl rfl⟩, List.forall_mem_cons.mpr ⟨⟨by decide, Or.inl rfl⟩, List.forall_mem_cons.mpr ⟨⟨by decide, Or.inl rfl⟩, List.forall_mem_cons.mpr ⟨⟨by decide, Or.inl rfl⟩, List.forall_mem_cons.mpr ⟨⟨by decide, Or.inl rfl⟩, List.forall_mem_cons.mpr ⟨⟨by decide, Or.inl rfl⟩, List.forall_mem_cons.mpr ⟨⟨by decide, Or.inl rfl⟩, List.forall_mem_cons.mpr ⟨⟨by decide, Or.inl rfl⟩, List.forall_mem_cons.mpr ⟨⟨by decide, Or.inl rfl⟩, List.forall_mem_cons.mpr ⟨⟨by decide, Or.inl rfl⟩, List.forall_mem_cons.mpr ⟨⟨by decide, Or.inl rfl⟩, List.forall_mem_cons.mpr ⟨⟨by decide, Or.inl rfl⟩, List.forall_mem_cons.mpr ⟨⟨by decide, Or.inl rfl⟩, List.forall_mem_cons.mpr ⟨⟨by decide, Or.inl rfl⟩, List.forall_mem_cons.mpr ⟨⟨by decide, Or.inl rfl⟩, List.forall_mem_cons.mpr ⟨⟨by decide, Or.inl rfl⟩, List.forall_mem_cons.mpr ⟨⟨by decide, Or.inl rfl⟩, List.forall_mem_cons.mpr ⟨⟨by decide, Or.inl rfl⟩, List.forall_mem_cons.mpr ⟨⟨by decide, Or.inl rfl⟩, List.forall_mem_cons.mpr ⟨⟨by decide, Or.inl rfl⟩, List.forall_mem_cons.mpr ⟨⟨by decide, Or.inl rfl⟩, List.forall_mem_cons.mpr ⟨⟨by decide, Or.inr (List.mem_of_getElem? (i := 1013) (by decide +kernel))⟩, List.forall_mem_cons.mpr ⟨⟨by decide, Or.inr (List.mem_of_getElem? (i := 1024) (by decide +kernel))⟩, List.forall_mem_cons.mpr ⟨⟨by decide, Or.inr (List.mem_of_getElem? (i := 1034) (by decide +kernel))⟩, List.forall_mem_cons.mpr ⟨⟨by decide, Or.inr (List.mem_of_getElem? (i := 1044) (by decide +kernel))⟩, List.forall_mem_cons.mpr ⟨⟨by decide, Or.inr (List.mem_of_getElem? (i := 1053) (by decide +kernel))⟩, List.forall_mem_cons.mpr ⟨⟨by decide, Or.inr (List.mem_of_getElem? (i := 1064) (by decide +kernel))⟩, List.forall_mem_cons.mpr ⟨⟨by decide, Or.inr (List.mem_of_getElem? (i := 1073) (by decide +kernel))⟩, List.forall_mem_cons.mpr ⟨⟨by decide, Or.inr (List.mem_of_getElem? (i := 1082) (by decide +kernel))⟩, List.forall_mem_cons.mpr ⟨⟨by decide, Or.inr (List.mem_of_getElem? (i := 1090) (by decide +kernel))⟩, List.forall_mem_cons.mpr ⟨⟨by decide, Or.inr (List.mem_of_getElem? (i := 1097) (by decide +kernel))⟩, List.forall_mem_cons.mpr ⟨⟨by decide, Or.inr (List.mem_of_getElem? (i := 1105) (by decide +kernel))⟩, List.forall_mem_cons.mpr ⟨⟨by decide, Or.inr (List.mem_of_getElem? (i := 1114) (by decide +kernel))⟩, List.forall_mem_cons.mpr ⟨⟨by decide, Or.inr (List.mem_of_getElem? (i := 1123) (by decide +kernel))⟩, List.forall_mem_cons.mpr ⟨⟨by decide, Or.inr (List.mem_of_getElem? (i := 1134) (by decide +kernel))⟩, List.forall_mem_cons.mpr ⟨⟨by decide, Or.inr (List.mem_of_getElem? (i := 1142) (by decide +kernel))⟩, List.forall_mem_cons.mpr ⟨⟨by decide, Or.inr (List.mem_of_getElem? (i := 1151) (by decide +kernel))⟩, List.forall_mem_cons.mpr ⟨⟨by decide, Or.inr (List.mem_of_getElem? (i := 1159) (by decide +kernel))⟩, List.forall_mem_cons.mpr ⟨⟨by decide, Or.inr (List.mem_of_getElem? (i := 1167) (by decide +kernel))⟩, List.forall_mem_cons.mpr ⟨⟨by decide, Or.inr (List.mem_of_getElem? (i := 1174) (by decide +kernel))⟩, fun _ h => absurd h List.not_mem_nil⟩⟩⟩⟩⟩⟩⟩⟩⟩⟩⟩⟩⟩⟩⟩⟩⟩⟩⟩⟩⟩⟩⟩⟩⟩⟩⟩⟩⟩⟩⟩⟩⟩⟩⟩⟩⟩⟩⟩⟩⟩⟩⟩⟩⟩⟩⟩⟩⟩⟩⟩⟩⟩⟩⟩⟩⟩⟩
set_option maxRecDepth 100000 in
theorem ref_w : ∀ q ∈ refsS, Cond.stringRef q.1 q.2.1 q.2.2.1 ∈ lw_tbl := List.forall_mem_cons.mpr ⟨(tw_3 (i := 60) (by decide +kernel)), List.forall_mem_cons.mpr ⟨(tw_3 (i := 196) (by decide +kernel)), List.forall_mem_cons.mpr ⟨(tw_3 (i := 197) (by decide +kernel)), List.forall_mem_cons.mpr ⟨(tw_3 (i := 234) (by decide +kernel)), List.forall_mem_cons.mpr ⟨(tw_4 (i := 60) (by decide +kernel)), List.forall_mem_cons.mpr ⟨(tw_5 (i := 21) (by decide +kernel)), List.forall_mem_cons.mpr ⟨(tw_5 (i := 51) (by decide +kernel)), List.forall_mem_cons.mpr ⟨(tw_5 (i := 52) (by decide +kernel)), List.forall_mem_cons.mpr ⟨(tw_5 (i := 53) (by decide +kernel)), List.forall_mem_cons.mpr ⟨(tw_5 (i := 54) (by decide +kernel)), List.forall_mem_cons.mpr ⟨(tw_5 (i := 55) (by decide +kernel)), List.forall_mem_cons.mpr ⟨(tw_5 (i := 56) (by decide +kernel)), List.forall_mem_cons.mpr ⟨(tw_5 (i := 57) (by decide +kernel)), List.forall_mem_cons.mpr ⟨(tw_5 (i := 58) (by decide +kernel)), List.forall_mem_cons.mpr ⟨(tw_5 (i := 59) (by decide +kernel)), List.forall_mem_cons.mpr ⟨(tw_5 (i := 60) (by decide +kernel)), List.forall_mem_cons.mpr ⟨(tw_5 (i := 61) (by decide +kernel)), List.forall_mem_cons.mpr ⟨(tw_5 (i := 62) (by decide +kernel)), List.forall_mem_cons.mpr ⟨(tw_5 (i := 63) (by decide +kernel)), List.forall_mem_cons.mpr ⟨(tw_5 (i := 64) (by decide +kernel)), List.forall_mem_cons.mpr ⟨(tw_5 (i := 65) (by decide +kernel)), List.forall_mem_cons.mpr ⟨(tw_5 (i := 66) (by decide +kernel)), List.forall_mem_cons.mpr ⟨(tw_5 (i := 67) (by decide +kernel)), List.forall_mem_cons.mpr ⟨(tw_5 (i := 68) (by decide +kernel)), List.forall_mem_cons.mpr ⟨(tw_5 (i := 230) (by decide +kernel)), List.forall_mem_cons.mpr ⟨(tw_6 (i := 1) (by decide +kernel)), List.forall_mem_cons.mpr ⟨(tw_6 (i := 28) (by decide +kernel)), List.forall_mem_cons.mpr ⟨(tw_6 (i := 75) (by decide +kernel)), List.forall_mem_cons.mpr ⟨(tw_6 (i := 104) (by decide +kernel)), List.forall_mem_cons.mpr ⟨(tw_6 (i := 126) (by decide +kernel)), List.forall_mem_cons.mpr ⟨(tw_6 (i := 149) (by decide +kernel)), List.forall_mem_cons.mpr ⟨(tw_6 (i := 175) (by decide +kernel)), List.forall_mem_cons.mpr ⟨(tw_6 (i := 181) (by decide +kernel)), List.forall_mem_cons.mpr ⟨(tw_7 (i := 33) (by decide +kernel)), List.forall_mem_cons.mpr ⟨(tw_7 (i := 38) (by decide +kernel)), List.forall_mem_cons.mpr ⟨(tw_7 (i := 40) (by decide +kernel)), List.forall_mem_cons.mpr ⟨(tw_8 (i := 115) (by decide +kernel)), List.forall_mem_cons.mpr ⟨(tw_8 (i := 146) (by decide +kernel)), List.forall_mem_cons.mpr ⟨(tw_8 (i := 199) (by decide +kernel)), List.forall_mem_cons.mpr ⟨(tw_9 (i := 140) (by decide +kernel)), List.forall_mem_cons.mpr ⟨(tw_9 (i := 163) (by decide +kernel)), List.forall_mem_cons.mpr ⟨(tw_9 (i := 176) (by decide +kernel)), List.forall_mem_cons.mpr ⟨(tw_9 (i := 177) (by decide +kernel)), List.forall_mem_cons.mpr ⟨(tw_9 (i := 178) (by decide +kernel)), List.forall_mem_cons.mpr ⟨(tw_9 (i := 179) (by decide +kernel)), List.forall_mem_cons.mpr ⟨(tw_9 (i := 180) (by decide +kernel)), List.forall_mem_cons.mpr ⟨(tw_9 (i := 185) (by decide +kernel)), List.forall_mem_cons.mpr ⟨(tw_10 (i := 6) (by decide +kernel)), List.forall_mem_cons.mpr ⟨(tw_10 (i := 7) (by decide +kernel)), List.forall_mem_cons.mpr ⟨(tw_10 (i := 28) (by decide +kernel)), List.forall_mem_cons.mpr ⟨(tw_10 (i := 33) (by decide +kernel)), List.forall_mem_cons.mpr ⟨(tw_10 (i := 34) (by decide +kernel)), List.forall_mem_cons.mpr ⟨(tw_10 (i := 43) (by decide +kernel)), List.forall_mem_cons.mpr ⟨(tw_10 (i := 44) (by decide +kernel)), List.forall_mem_cons.mpr ⟨(tw_10 (i := 45) (by decide +kernel)), List.forall_mem_cons.mpr ⟨(tw_10 (i := 46) (by decide +kernel)), List.forall_mem_cons.mpr ⟨(tw_10 (i := 47) (by decide +kernel)), List.forall_mem_cons.mpr ⟨(tw_10 (i := 48) (by decide +kernel)), fun _ h => absurd h List.not_mem_nil⟩⟩⟩⟩⟩⟩⟩⟩⟩⟩⟩⟩⟩⟩⟩⟩⟩⟩⟩⟩⟩⟩⟩⟩⟩⟩⟩⟩⟩⟩⟩⟩⟩⟩⟩⟩⟩⟩⟩⟩⟩⟩⟩⟩⟩⟩⟩⟩⟩⟩⟩⟩⟩⟩⟩⟩⟩⟩
theorem str_facts {b : Nat} {s : State} (hF : ∀ w ∈ FLs, w.before #[Value.ref b] s = true) : ∃ ro1 ro2 : Nat → Nat, ∀ i, i < nS → vk_S 1 [lenS i] [bytS i] (fun _ => ro1 i) (fun _ => ro2 i) (fun q => s.heap.size ≤ q) s s.heap ∧ (tmS i).eval #[Value.ref b] s none [] s = some (.ref (ro1 i)) := by
  have h : ∀ i, ∃ q : Nat × Nat, i < nS → vk_S 1 [lenS i] [bytS i] (fun _ => q.1) (fun _ => q.2) (fun q => s.heap.size ≤ q) s s.heap ∧ (tmS i).eval #[Value.ref b] s none [] s = some (.ref q.1) := by
    intro i
    by_cases hi : i < nS
    · obtain ⟨⟨h1, h2, h3, h4⟩, h5⟩ := fs_all i hi
      have z : ∀ k : Nat, k < 1 → k = 0 := fun k hk => by omega
      obtain ⟨adK, adV, k1, k2⟩ := vk_Sof (N := 1) (tm := fun _ => tmS i) (len := [lenS i]) (byt := [bytS i]) (A := fun q => s.heap.size ≤ q) (args := #[Value.ref b]) (s := s)
        (fun k hk => by rw [z k hk]; have := (sc_all i hi).1; show lenS i < 2 ^ 31; omega)
        (fun k hk => hF _ (List.mem_of_getElem? h1)) (fun k hk => hF _ (List.mem_of_getElem? h2)) (fun k hk => hF _ (List.mem_of_getElem? h3))
        (fun k hk => by rw [z k hk]; exact hF _ (List.mem_of_getElem? h4))
        (fun k hk j hj => by rw [z k hk] at hj ⊢; exact hF _ (List.mem_of_getElem? (h5 j hj)))
        (fun k j hk hj hne => absurd ((z k hk).trans (z j hj).symm) hne) (fun a ha h => absurd ha (by omega))
      refine ⟨(adK 0, adV 0), fun _ => ⟨⟨fun k hk => ?_, fun k j hk hj _ => (z k hk).trans (z j hj).symm⟩, k2 0 (by omega)⟩⟩
      rw [z k hk]
      exact k1.1 0 (by omega)
    · exact ⟨(0, 0), fun h => absurd h hi⟩
  exact ⟨fun i => (Classical.choose (h i)).1, fun i => (Classical.choose (h i)).2, fun i hi => Classical.choose_spec (h i) hi⟩
theorem ext_sel {args : Array Value} {s : State} {C : String} {y x0 y0 : MethodName} (h0 : (Cond.selects C x0 y0).before args s = true) (hyc : y0.cls = y.cls) (hinst : (Cond.instanceMethod y).before args s = true) (hpriv : (Cond.privateMethod y).before args s = true) (hy : y.cls ≠ "java/lang/invoke/MethodHandle" ∧ y.cls ≠ "java/lang/invoke/VarHandle") : (Cond.selects C y y).before args s = true := by
  obtain ⟨c, r, m0, hc, hr, hm0, hsel0, mk0, hmk0, hni⟩ := Cond.selects_spec h0
  obtain ⟨mk, methM, hnamed, hmethM, -, -⟩ := Cond.instanceMethod_spec hinst
  have hfound : s.methodFound? y.cls y.name y.desc = some mk := State.methodFound?_of_named hnamed hy
  have hcls : mk.cls = m0.cls := by
    have e1 := findClass_of_methodNamed hnamed
    have e2 := findClass_of_methodNamed hm0
    rw [hyc] at e2
    exact Option.some.inj (e1.symm.trans e2)
  have hsel : selectMethod {} s.vm c mk = .method mk := selectMethod_private hmethM (Cond.privateMethod_at hpriv mk methM hnamed hmethM)
  simp only [Cond.before, Cond.holds, Cond.value, hc, hfound, hnamed, hsel, hcls, hmk0]
  simp
  exact hni
theorem ext_all {args : Array Value} {s : State} (hts : ∀ w ∈ lw_tbl, w.before args s = true) : ∀ w ∈ lw_ext, w.before args s = true := by
  intro w hw
  unfold lw_ext at hw
  simp only [List.mem_cons, List.not_mem_nil, or_false] at hw
  rcases hw with rfl | rfl | rfl | rfl | rfl | rfl | rfl | rfl | rfl | rfl | rfl | rfl
  · exact ext_sel (x0 := ⟨"BackVillage$VillageReader", "open", "(LBackVillage$Tape;I)V"⟩) (y0 := ⟨"BackVillage$TextReader", "open", "(LBackVillage$Tape;I)V"⟩) (hts _ (tw_4 (i := 231) (by decide +kernel))) rfl (hts _ (tw_4 (i := 236) (by decide +kernel))) (hts _ (tw_4 (i := 235) (by decide +kernel))) (by decide)
  · exact ext_sel (x0 := ⟨"BackVillage$VillageReader", "open", "(LBackVillage$Tape;I)V"⟩) (y0 := ⟨"BackVillage$TextReader", "open", "(LBackVillage$Tape;I)V"⟩) (hts _ (tw_4 (i := 231) (by decide +kernel))) rfl (hts _ (tw_5 (i := 0) (by decide +kernel))) (hts _ (tw_4 (i := 239) (by decide +kernel))) (by decide)
  · exact ext_sel (x0 := ⟨"BackVillage$VillageReader", "open", "(LBackVillage$Tape;I)V"⟩) (y0 := ⟨"BackVillage$TextReader", "open", "(LBackVillage$Tape;I)V"⟩) (hts _ (tw_4 (i := 231) (by decide +kernel))) rfl (hts _ (tw_5 (i := 15) (by decide +kernel))) (hts _ (tw_5 (i := 14) (by decide +kernel))) (by decide)
  · exact ext_sel (x0 := ⟨"BackVillage$VillageReader", "open", "(LBackVillage$Tape;I)V"⟩) (y0 := ⟨"BackVillage$TextReader", "open", "(LBackVillage$Tape;I)V"⟩) (hts _ (tw_4 (i := 231) (by decide +kernel))) rfl (hts _ (tw_5 (i := 19) (by decide +kernel))) (hts _ (tw_5 (i := 18) (by decide +kernel))) (by decide)
  · exact ext_sel (x0 := ⟨"BackVillage$VillageReader", "open", "(LBackVillage$Tape;I)V"⟩) (y0 := ⟨"BackVillage$TextReader", "open", "(LBackVillage$Tape;I)V"⟩) (hts _ (tw_4 (i := 231) (by decide +kernel))) rfl (hts _ (tw_5 (i := 24) (by decide +kernel))) (hts _ (tw_5 (i := 23) (by decide +kernel))) (by decide)
  · exact ext_sel (x0 := ⟨"BackVillage$VillageReader", "open", "(LBackVillage$Tape;I)V"⟩) (y0 := ⟨"BackVillage$TextReader", "open", "(LBackVillage$Tape;I)V"⟩) (hts _ (tw_4 (i := 231) (by decide +kernel))) rfl (hts _ (tw_5 (i := 72) (by decide +kernel))) (hts _ (tw_5 (i := 71) (by decide +kernel))) (by decide)
  · exact ext_sel (x0 := ⟨"BackVillage$LawReader", "open", "(LBackVillage$Tape;I)V"⟩) (y0 := ⟨"BackVillage$TextReader", "open", "(LBackVillage$Tape;I)V"⟩) (hts _ (tw_6 (i := 17) (by decide +kernel))) rfl (hts _ (tw_4 (i := 236) (by decide +kernel))) (hts _ (tw_4 (i := 235) (by decide +kernel))) (by decide)
  · exact ext_sel (x0 := ⟨"BackVillage$LawReader", "open", "(LBackVillage$Tape;I)V"⟩) (y0 := ⟨"BackVillage$TextReader", "open", "(LBackVillage$Tape;I)V"⟩) (hts _ (tw_6 (i := 17) (by decide +kernel))) rfl (hts _ (tw_5 (i := 0) (by decide +kernel))) (hts _ (tw_4 (i := 239) (by decide +kernel))) (by decide)
  · exact ext_sel (x0 := ⟨"BackVillage$LawReader", "open", "(LBackVillage$Tape;I)V"⟩) (y0 := ⟨"BackVillage$TextReader", "open", "(LBackVillage$Tape;I)V"⟩) (hts _ (tw_6 (i := 17) (by decide +kernel))) rfl (hts _ (tw_5 (i := 15) (by decide +kernel))) (hts _ (tw_5 (i := 14) (by decide +kernel))) (by decide)
  · exact ext_sel (x0 := ⟨"BackVillage$LawReader", "open", "(LBackVillage$Tape;I)V"⟩) (y0 := ⟨"BackVillage$TextReader", "open", "(LBackVillage$Tape;I)V"⟩) (hts _ (tw_6 (i := 17) (by decide +kernel))) rfl (hts _ (tw_5 (i := 19) (by decide +kernel))) (hts _ (tw_5 (i := 18) (by decide +kernel))) (by decide)
  · exact ext_sel (x0 := ⟨"BackVillage$LawReader", "open", "(LBackVillage$Tape;I)V"⟩) (y0 := ⟨"BackVillage$TextReader", "open", "(LBackVillage$Tape;I)V"⟩) (hts _ (tw_6 (i := 17) (by decide +kernel))) rfl (hts _ (tw_5 (i := 24) (by decide +kernel))) (hts _ (tw_5 (i := 23) (by decide +kernel))) (by decide)
  · exact ext_sel (x0 := ⟨"BackVillage$LawReader", "open", "(LBackVillage$Tape;I)V"⟩) (y0 := ⟨"BackVillage$TextReader", "open", "(LBackVillage$Tape;I)V"⟩) (hts _ (tw_6 (i := 17) (by decide +kernel))) rfl (hts _ (tw_5 (i := 72) (by decide +kernel))) (hts _ (tw_5 (i := 71) (by decide +kernel))) (by decide)
theorem gw_all {args : Array Value} {s : State} (hts : ∀ w ∈ lw_tbl, w.before args s = true) : ∀ w ∈ GW, w.before args s = true := fun w hw => by
  rcases List.mem_append.mp (List.mem_filter.mp hw).1 with h | h
  · exact ext_all hts w h
  · exact hts w h
theorem cls_facts {args : Array Value} {s : State} (hts : ∀ w ∈ lw_tbl, w.before args s = true) : ∃ D : va_G, ∀ (k : Nat) (q : vw_C), cls[k]? = some q → u_Kn s q.1 q.2.1 q.2.2 (D.1 k) (D.2 k) := by
  have hG := gw_all hts
  obtain ⟨c0, i0, k0⟩ := u_known (C := RX0) (T := TX0) (N := 1) (n := 1) hG kin_X0 (hts _ (tw_1 (i := 106) (by decide +kernel)))
  obtain ⟨c1, i1, k1⟩ := u_known (C := RX1) (T := TX1) (N := 1) (n := 1) hG kin_X1 (hts _ (tw_1 (i := 49) (by decide +kernel)))
  obtain ⟨c2, i2, k2⟩ := u_known (C := RX2) (T := TX2) (N := 2) (n := 2) hG kin_X2 (hts _ (tw_6 (i := 34) (by decide +kernel)))
  obtain ⟨c3, i3, k3⟩ := u_known (C := RX3) (T := TX3) (N := 13) (n := 13) hG kin_X3 (hts _ (tw_1 (i := 213) (by decide +kernel)))
  obtain ⟨c4, i4, k4⟩ := u_known (C := RX4) (T := TX4) (N := 9) (n := 9) hG kin_X4 (hts _ (tw_1 (i := 70) (by decide +kernel)))
  obtain ⟨c5, i5, k5⟩ := u_known (C := RX5) (T := TX5) (N := 7) (n := 7) hG kin_X5 (hts _ (tw_1 (i := 116) (by decide +kernel)))
  obtain ⟨c6, i6, k6⟩ := u_known (C := RX6) (T := TX6) (N := 16) (n := 16) hG kin_X6 (hts _ (tw_1 (i := 238) (by decide +kernel)))
  obtain ⟨c7, i7, k7⟩ := u_known (C := RX7) (T := TX7) (N := 2) (n := 2) hG kin_X7 (hts _ (tw_1 (i := 43) (by decide +kernel)))
  obtain ⟨c9, i9, k9⟩ := u_known (C := RX9) (T := TX9) (N := 15) (n := 15) hG kin_X9 (hts _ (tw_1 (i := 146) (by decide +kernel)))
  obtain ⟨c10, i10, k10⟩ := u_known (C := RX10) (T := TX10) (N := 13) (n := 13) hG kin_X10 (hts _ (tw_1 (i := 35) (by decide +kernel)))
  obtain ⟨c11, i11, k11⟩ := u_known (C := RX11) (T := TX11) (N := 37) (n := 37) hG kin_X11 (hts _ (tw_8 (i := 205) (by decide +kernel)))
  obtain ⟨c8, kk9, kp8, hc8, -, hk8, -, -, ho8, -⟩ := Cond.superclass_spec (sup := "BackVillage$TextReader") k9.2.1 (hts _ (tw_1 (i := 211) (by decide +kernel)))
  have k8 : u_Kn s RX8 TX8 0 c8 i9 := ⟨fun k hk => absurd hk (Nat.not_lt_zero _), hc8, kp8, hk8, ho8⟩
  refine ⟨(fun k => [c0, c1, c2, c3, c4, c5, c6, c7, c8, c9, c10, c11].getD k 0, fun k => [i0, i1, i2, i3, i4, i5, i6, i7, i9, i9, i10, i11].getD k i0), fun k q hq => ?_⟩
  match k, hq with
  | 0, hq => cases hq; exact k0
  | 1, hq => cases hq; exact k1
  | 2, hq => cases hq; exact k2
  | 3, hq => cases hq; exact k3
  | 4, hq => cases hq; exact k4
  | 5, hq => cases hq; exact k5
  | 6, hq => cases hq; exact k6
  | 7, hq => cases hq; exact k7
  | 8, hq => cases hq; exact k8
  | 9, hq => cases hq; exact k9
  | 10, hq => cases hq; exact k10
  | 11, hq => cases hq; exact k11
  | n + 12, hq => cases hq
theorem arr_facts {args : Array Value} {s : State} (hts : ∀ w ∈ lw_tbl, w.before args s = true) : ∃ tc : Nat → ClassId, ∀ (k : Nat) (q : ClassId × FieldType), (tys tc)[k]? = some q → ArrOfT s q.1 q.2 ∧ va_RA s q.1 q.2 := by
  obtain ⟨c0, a0, p0, f0, g0, e0⟩ := Cond.arrayClass_spec (type := .int) (hts _ (tw_1 (i := 61) (by decide +kernel)))
  obtain ⟨c1, a1, p1, f1, g1, e1⟩ := Cond.arrayClass_spec (type := .byte) (hts _ (tw_3 (i := 59) (by decide +kernel)))
  obtain ⟨c2, a2, p2, f2, g2, e2⟩ := Cond.arrayClass_spec (type := .boolean) (hts _ (tw_9 (i := 83) (by decide +kernel)))
  obtain ⟨c4, a4, p4, f4, g4, e4⟩ := Cond.arrayClass_spec (type := .long) (hts _ (tw_11 (i := 175) (by decide +kernel)))
  obtain ⟨p3, c3, a3, h3, -, g3, e3, f3⟩ := Cond.arrayOver_spec (n := "BackVillage$State") (hts _ (tw_1 (i := 237) (by decide +kernel)))
  refine ⟨fun k => [c0, c1, c2, c3, c4].getD k 0, fun k q hq => ?_⟩
  match k, hq with
  | 0, hq => cases hq; exact ⟨fun n z => ⟨fun k h => (by cases h), a0, g0, p0, e0⟩, f0⟩
  | 1, hq => cases hq; exact ⟨fun n z => ⟨fun k h => (by cases h), a1, g1, p1, e1⟩, f1⟩
  | 2, hq => cases hq; exact ⟨fun n z => ⟨fun k h => (by cases h), a2, g2, p2, e2⟩, f2⟩
  | 3, hq => cases hq; exact ⟨fun n z => ⟨fun k h => (by cases h), a3, g3, p3, e3⟩, a3, p3, g3, e3, h3, f3⟩
  | 4, hq => cases hq; exact ⟨fun n z => ⟨fun k h => (by cases h), a4, g4, p4, e4⟩, f4⟩
  | n + 5, hq => cases hq
theorem nwN_tbl : ∀ w ∈ nwN, w ∈ lw_tbl := List.forall_mem_cons.mpr ⟨(tw_1 (i := 44) (by decide +kernel)), List.forall_mem_cons.mpr ⟨(tw_1 (i := 71) (by decide +kernel)), List.forall_mem_cons.mpr ⟨(tw_1 (i := 150) (by decide +kernel)), List.forall_mem_cons.mpr ⟨(tw_1 (i := 214) (by decide +kernel)), List.forall_mem_cons.mpr ⟨(tw_1 (i := 217) (by decide +kernel)), fun _ h => absurd h List.not_mem_nil⟩⟩⟩⟩⟩
theorem start_ro {b : Nat} {s : State} (hts : ∀ w ∈ lw_tbl, w.before #[Value.ref b] s = true) (hF : ∀ w ∈ FLs, w.before #[Value.ref b] s = true) : ∃ ro : Ro, rok ro (fun q => s.heap.size ≤ q) s := by
  obtain ⟨ro1, ro2, hS⟩ := str_facts hF
  have hA : ∀ a : Nat, a < s.heap.size → ¬ s.heap.size ≤ a := fun a ha h => by omega
  have hq := va_Zqof (C := "jdk/internal/util/Preconditions") (n := "SIOOBE_FORMATTER") (d := "Ljava/util/function/BiFunction;") (A := fun q => s.heap.size ≤ q) (hts _ (tw_3 (i := 115) (by decide +kernel))) (hts _ (tw_1 (i := 17) (by decide +kernel))) (hF _ (List.mem_of_getElem? (i := 7) (by decide +kernel))) hA
  obtain ⟨y, e1, e2⟩ := Cond.eq_one (hF _ (List.mem_of_getElem? (a := Cond.eq (Term.static "java/lang/String" "COMPACT_STRINGS" "Z") (Term.int 1)) (l := FLs) (i := 6) (by decide +kernel)))
  have e2 : some (Value.int 1) = some y := e2
  cases e2
  have hz := va_Zof (C := "java/lang/String") (n := "COMPACT_STRINGS") (d := "Z") (A := fun q => s.heap.size ≤ q) (hts _ (tw_3 (i := 38) (by decide +kernel))) (hts _ (tw_1 (i := 15) (by decide +kernel))) e1 hA
  have hr : ∀ q ∈ refsS, vk_R q.1 q.2.1 q.2.2.1 (ro1 q.2.2.2) s := fun q hq => by
    obtain ⟨h1, h2⟩ := ref_all q hq
    have ev := (hS _ h1).2
    refine vk_R.of (hts _ (ref_w q hq)) ?_
    rcases h2 with h2 | h2
    · rw [h2]; exact ev
    · obtain ⟨y, e1, e2⟩ := Cond.eq_one (hF _ h2)
      rw [ev] at e1
      rw [e2, ← e1]
  have hd : va_Nw (.declares ⟨"BackVillage$TextReader", "readLine", "()Z"⟩) s := va_tabs (u := s) rfl rfl (hts _ (tw_5 (i := 92) (by decide +kernel)))
  rcases hq with hq | ⟨t, hq⟩
  · exact ⟨(ro1, ro2, .null), ⟨fun i hi => (hS i hi).1, hz, hq⟩, hr, Or.inl rfl, hd⟩
  · exact ⟨(ro1, ro2, .ref t), ⟨fun i hi => (hS i hi).1, hz, hq⟩, hr, Or.inr ⟨t, rfl⟩, hd⟩
theorem start_x {b : Nat} {s : State} (hts : ∀ w ∈ lw_tbl, w.before #[Value.ref b] s = true) (hF : ∀ w ∈ FLs, w.before #[Value.ref b] s = true) : ZqU (fun q => s.heap.size ≤ q) s s.heap ∧ ZqN (fun q => s.heap.size ≤ q) s s.heap ∧ NwN s ∧ NcT s := by
  have hA : ∀ a : Nat, a < s.heap.size → ¬ s.heap.size ≤ a := fun a ha h => by omega
  refine ⟨vx_Zqof (hts _ (tw_3 (i := 11) (by decide +kernel))) (hts _ (tw_1 (i := 19) (by decide +kernel))) (hF _ (List.mem_of_getElem? (i := 4) (by decide +kernel))) hA, ⟨vx_Zqof (hts _ (tw_3 (i := 13) (by decide +kernel))) (hts _ (tw_1 (i := 19) (by decide +kernel))) (hF _ (List.mem_of_getElem? (i := 5) (by decide +kernel))) hA, fun w hw => va_tabs (u := s) (nwT_on w hw) rfl (hts _ (nwT_tbl w hw))⟩, ⟨va_AO.of (hts _ (tw_1 (i := 237) (by decide +kernel))), fun w hw => va_tabs (u := s) (nwN_on w hw) rfl (hts _ (nwN_tbl w hw))⟩, va_Nc.of (hF _ (List.mem_of_getElem? (i := 230) (by decide +kernel))), va_Nc.of (hF _ (List.mem_of_getElem? (i := 268) (by decide +kernel))), va_Nc.of (hF _ (List.mem_of_getElem? (i := 269) (by decide +kernel))), va_Nc.of (hF _ (List.mem_of_getElem? (i := 263) (by decide +kernel))), va_Nc.of (hF _ (List.mem_of_getElem? (i := 234) (by decide +kernel)))⟩
