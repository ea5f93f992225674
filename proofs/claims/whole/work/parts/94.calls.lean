-- every call of the class that the law makes: its contract in one shape
def CtR (l : Launch) (D : va_G) (tc : Nat → ClassId) (ro : Ro) (oa : Ky → Nat) (y : MethodName) (cc : ByteArray) (maxL : Nat) (ret : Option FieldType) (rm : Room) (av : List Value) (sh : Sh) (ln : Nat → Nat) (μ : Mm) (rv : Int32 → Option Value) (r : Int32 ⊕ Nat) (sh' : Sh) (ln' : Nat → Nat) (b : Mm) : Prop := match r with
  | .inl x => CtO l D tc ro oa y cc maxL ret rm av sh ln μ (fun _ => rv x) sh' ln' b
  | .inr cn => sh = sh' ∧ CtT l D tc ro oa y cc maxL ret rm av sh ln μ cn ln' b
def CtG (l : Launch) (D : va_G) (tc : Nat → ClassId) (ro : Ro) (oa : Ky → Nat) (y : MethodName) (cc : ByteArray) (maxL : Nat) (ret : Option FieldType) (av : List Value) (sh : Sh) (ln : Nat → Nat) (μ : Mm) (rv : Int32 → Option Value) (gk : Option (((Int32 ⊕ Nat) × Sh × (Nat → Nat) × Mm) × Nat × Nat)) : Prop :=
  ∀ r sh' ln' b kc ks, gk = some ((r, sh', ln', b), kc, ks) → ∃ rm : Room, (rm.frames ≤ 45 ∧ rm.locals ≤ 1200 ∧ rm.cells ≤ kc + 1 ∧ rm.slots ≤ ks + 6) ∧ CtR l D tc ro oa y cc maxL ret rm av sh ln μ rv r sh' ln' b
theorem lf0_of {sh sh' : Sh} {ln ln' : Nat → Nat} {x : Option ((Int32 ⊕ Nat) × Mm)} {r : Int32 ⊕ Nat} {b : Mm} {kc ks : Nat} (h : lf0 sh ln x = some ((r, sh', ln', b), kc, ks)) : x = some (r, b) ∧ sh = sh' ∧ ln = ln' ∧ 0 = kc ∧ 0 = ks := by
  obtain ⟨a, h1, h2⟩ := map_of h
  cases h2
  exact ⟨h1, rfl, rfl, rfl, rfl⟩
theorem lfn_of {sh sh' : Sh} {ln ln' : Nat → Nat} {x : Option (Int32 × Mm)} {r : Int32 ⊕ Nat} {b : Mm} {kc ks : Nat} (h : lfn sh ln x = some ((r, sh', ln', b), kc, ks)) : ∃ v, r = .inl v ∧ x = some (v, b) ∧ sh = sh' ∧ ln = ln' ∧ 0 = kc ∧ 0 = ks := by
  obtain ⟨a, h1, h2⟩ := map_of h
  cases h2
  exact ⟨_, rfl, h1, rfl, rfl, rfl, rfl⟩
theorem lfA_of {sh sh' : Sh} {ln' : Nat → Nat} {x : Option ((Int32 × (Nat → Nat) × Mm) × Nat × Nat)} {r : Int32 ⊕ Nat} {b : Mm} {kc ks : Nat} (h : lfA sh x = some ((r, sh', ln', b), kc, ks)) : ∃ v, r = .inl v ∧ x = some ((v, ln', b), kc, ks) ∧ sh = sh' := by
  obtain ⟨a, h1, h2⟩ := map_of h
  cases h2
  exact ⟨_, rfl, h1, rfl⟩
theorem lfV_of {sh sh' : Sh} {ln' : Nat → Nat} {x : Option (((Int32 ⊕ Nat) × (Nat → Nat) × Mm) × Nat × Nat)} {r : Int32 ⊕ Nat} {b : Mm} {kc ks : Nat} (h : lfV sh x = some ((r, sh', ln', b), kc, ks)) : x = some ((r, ln', b), kc, ks) ∧ sh = sh' := by
  obtain ⟨a, h1, h2⟩ := map_of h
  cases h2
  exact ⟨h1, rfl⟩
theorem lfL_of {sh' : Sh} {ln ln' : Nat → Nat} {x : Option (((Int32 ⊕ Nat) × Sh × Mm) × Nat × Nat)} {r : Int32 ⊕ Nat} {b : Mm} {kc ks : Nat} (h : lfL ln x = some ((r, sh', ln', b), kc, ks)) : x = some ((r, sh', b), kc, ks) ∧ ln = ln' := by
  obtain ⟨a, h1, h2⟩ := map_of h
  cases h2
  exact ⟨h1, rfl⟩
theorem wr_of {μ b : Mm} {x : Option Int32} {v : Int32} (h : wr μ x = some (v, b)) : x = some v ∧ μ = b := by
  obtain ⟨a, h1, h2⟩ := map_of h
  cases h2
  exact ⟨h1, rfl⟩
theorem ml0_all {μ b : Mm} {x : Option Int32} {r : Int32 ⊕ Nat} (h : ml0 μ x = some (r, b)) : ∃ v, r = .inl v ∧ x = some v ∧ μ = b := by
  obtain ⟨a, h1, h2⟩ := map_of h
  cases h2
  exact ⟨_, rfl, h1, rfl⟩
theorem gf_left {sh : Sh} {ln : Nat → Nat} {μ b : Mm} {v1 : Int32} {x : Int32} (h : g_X10_left sh ln μ v1 = some (.inl x, b)) : f_X10_left sh ln μ v1 = some x ∧ b = μ := by
  unfold g_X10_left at h
  obtain ⟨h0, h⟩ := xb_inl h
  obtain ⟨h, e⟩ := ml0_inl h
  unfold f_X10_left
  rw [gn_needWorld h0, Option.bind_some]
  exact ⟨h, e⟩
theorem G_X10_left {l : Launch} {D : va_G} {tc : Nat → ClassId} {ro : Ro} {oa : Ky → Nat} {sh : Sh} {ln : Nat → Nat} {μ : Mm} {v1 : Int32} (hs : l.stackTraces = false) (hwf : WfS sh) : CtG l D tc ro oa yX10_left cX10_left 2 (some .boolean) [.ref (oa (0, 0)), .int v1] sh ln μ (fun x => some (.int x)) (lf0 sh ln (g_X10_left sh ln μ v1)) := by
  intro r sh' ln' b kc ks hg0
  obtain ⟨hg, rfl, rfl, rfl, rfl⟩ := lf0_of hg0
  rcases r with x | cn
  · skip
    obtain ⟨h, rfl⟩ := gf_left hg
    exact ⟨_, ⟨Nat.le_of_ble_eq_true rfl, Nat.le_of_ble_eq_true rfl, Nat.zero_le _, Nat.zero_le _⟩, Ct.toO (fun aa => c_X10_left hwf h)⟩
  · exact ⟨_, ⟨Nat.le_of_ble_eq_true rfl, Nat.le_of_ble_eq_true rfl, Nat.le_of_ble_eq_true rfl, Nat.le_of_ble_eq_true rfl⟩, rfl, cT_X10_left hs hwf hg⟩
theorem gf_apart {sh : Sh} {ln : Nat → Nat} {μ b : Mm} {v1 v2 v3 : Int32} {x : Int32} (h : g_X10_apart sh ln μ v1 v2 v3 = some (.inl x, b)) : f_X10_apart sh ln μ v1 v2 v3 = some x ∧ b = μ := by
  unfold g_X10_apart at h
  obtain ⟨h0, h⟩ := xb_inl h
  obtain ⟨h1, h⟩ := xb_inl h
  obtain ⟨h2, h⟩ := xb_inl h
  obtain ⟨h3, h⟩ := xb_inl h
  obtain ⟨h4, h⟩ := xb_inl h
  obtain ⟨h, e⟩ := ml0_inl h
  unfold f_X10_apart
  rw [gn_needPerson h0, Option.bind_some, gn_needWorld h1, Option.bind_some, gn_needWorld h2, Option.bind_some, gn_needLeft h3, Option.bind_some, gn_needLeft h4, Option.bind_some]
  exact ⟨h, e⟩
theorem G_X10_apart {l : Launch} {D : va_G} {tc : Nat → ClassId} {ro : Ro} {oa : Ky → Nat} {sh : Sh} {ln : Nat → Nat} {μ : Mm} {v1 v2 v3 : Int32} (hs : l.stackTraces = false) (hwf : WfS sh) : CtG l D tc ro oa yX10_apart cX10_apart 4 (some .boolean) [.ref (oa (0, 0)), .int v1, .int v2, .int v3] sh ln μ (fun x => some (.int x)) (lf0 sh ln (g_X10_apart sh ln μ v1 v2 v3)) := by
  intro r sh' ln' b kc ks hg0
  obtain ⟨hg, rfl, rfl, rfl, rfl⟩ := lf0_of hg0
  rcases r with x | cn
  · skip
    obtain ⟨h, rfl⟩ := gf_apart hg
    exact ⟨_, ⟨Nat.le_of_ble_eq_true rfl, Nat.le_of_ble_eq_true rfl, Nat.zero_le _, Nat.zero_le _⟩, Ct.toO (fun aa => c_X10_apart hwf h)⟩
  · exact ⟨_, ⟨Nat.le_of_ble_eq_true rfl, Nat.le_of_ble_eq_true rfl, Nat.le_of_ble_eq_true rfl, Nat.le_of_ble_eq_true rfl⟩, rfl, cT_X10_apart hs hwf hg⟩
theorem gf_sure {sh : Sh} {ln : Nat → Nat} {μ b : Mm} {v1 v2 : Int32} {x : Int32} (h : g_X10_sure sh ln μ v1 v2 = some (.inl x, b)) : f_X10_sure sh ln μ v1 v2 = some x ∧ b = μ := by
  unfold g_X10_sure at h
  obtain ⟨h0, h⟩ := xb_inl h
  obtain ⟨h1, h⟩ := xb_inl h
  obtain ⟨h2, h⟩ := xb_inl h
  obtain ⟨h, e⟩ := ml0_inl h
  unfold f_X10_sure
  rw [gn_needPerson h0, Option.bind_some, gn_needWorld h1, Option.bind_some, gn_needLeft h2, Option.bind_some]
  exact ⟨h, e⟩
theorem G_X10_sure {l : Launch} {D : va_G} {tc : Nat → ClassId} {ro : Ro} {oa : Ky → Nat} {sh : Sh} {ln : Nat → Nat} {μ : Mm} {v1 v2 : Int32} (hs : l.stackTraces = false) (hwf : WfS sh) : CtG l D tc ro oa yX10_sure cX10_sure 3 (some .boolean) [.ref (oa (0, 0)), .int v1, .int v2] sh ln μ (fun x => some (.int x)) (lf0 sh ln (g_X10_sure sh ln μ v1 v2)) := by
  intro r sh' ln' b kc ks hg0
  obtain ⟨hg, rfl, rfl, rfl, rfl⟩ := lf0_of hg0
  rcases r with x | cn
  · skip
    obtain ⟨h, rfl⟩ := gf_sure hg
    exact ⟨_, ⟨Nat.le_of_ble_eq_true rfl, Nat.le_of_ble_eq_true rfl, Nat.zero_le _, Nat.zero_le _⟩, Ct.toO (fun aa => c_X10_sure hwf h)⟩
  · exact ⟨_, ⟨Nat.le_of_ble_eq_true rfl, Nat.le_of_ble_eq_true rfl, Nat.le_of_ble_eq_true rfl, Nat.le_of_ble_eq_true rfl⟩, rfl, cT_X10_sure hs hwf hg⟩
theorem gf_manner {sh : Sh} {ln : Nat → Nat} {μ b : Mm} {v1 v2 v3 : Int32} {x : Int32} (h : g_X10_manner sh ln μ v1 v2 v3 = some (.inl x, b)) : f_X10_manner sh ln μ v1 v2 v3 = some (x, b) := by
  unfold g_X10_manner at h
  obtain ⟨h0, h⟩ := xb_inl h
  obtain ⟨h1, h⟩ := xb_inl h
  obtain ⟨h2, h⟩ := xb_inl h
  obtain ⟨h3, h⟩ := xb_inl h
  obtain ⟨h4, h⟩ := xb_inl h
  obtain ⟨h5, h⟩ := xb_inl h
  have h := ml_inl h
  unfold f_X10_manner
  rw [gn_needPerson h0, Option.bind_some, gn_needPerson h1, Option.bind_some, gn_needWorld h2, Option.bind_some, gn_needTwo h3, Option.bind_some, gn_needLeft h4, Option.bind_some, gn_needSight h5, Option.bind_some]
  exact h
theorem G_X10_manner {l : Launch} {D : va_G} {tc : Nat → ClassId} {ro : Ro} {oa : Ky → Nat} {sh : Sh} {ln : Nat → Nat} {μ : Mm} {v1 v2 v3 : Int32} (hs : l.stackTraces = false) (hwf : WfS sh) : CtG l D tc ro oa yX10_manner cX10_manner 4 (some .int) [.ref (oa (0, 0)), .int v1, .int v2, .int v3] sh ln μ (fun x => some (.int x)) (lf0 sh ln (g_X10_manner sh ln μ v1 v2 v3)) := by
  intro r sh' ln' b kc ks hg0
  obtain ⟨hg, rfl, rfl, rfl, rfl⟩ := lf0_of hg0
  rcases r with x | cn
  · skip
    have h := gf_manner hg
    exact ⟨_, ⟨Nat.le_of_ble_eq_true rfl, Nat.le_of_ble_eq_true rfl, Nat.zero_le _, Nat.zero_le _⟩, Ct.toO (fun aa => c_X10_manner hwf h)⟩
  · exact ⟨_, ⟨Nat.le_of_ble_eq_true rfl, Nat.le_of_ble_eq_true rfl, Nat.le_of_ble_eq_true rfl, Nat.le_of_ble_eq_true rfl⟩, rfl, cT_X10_manner hs hwf hg⟩
theorem gf_possible {sh : Sh} {ln : Nat → Nat} {μ b : Mm} {v1 v2 : Int32} {x : Int32} (h : g_X10_possible sh ln μ v1 v2 = some (.inl x, b)) : f_X10_possible sh ln μ v1 v2 = some x ∧ b = μ := by
  unfold g_X10_possible at h
  obtain ⟨h0, h⟩ := xb_inl h
  obtain ⟨h1, h⟩ := xb_inl h
  obtain ⟨h, e⟩ := ml0_inl h
  unfold f_X10_possible
  rw [gn_needPerson h0, Option.bind_some, gn_needPerson h1, Option.bind_some]
  exact ⟨h, e⟩
theorem G_X10_possible {l : Launch} {D : va_G} {tc : Nat → ClassId} {ro : Ro} {oa : Ky → Nat} {sh : Sh} {ln : Nat → Nat} {μ : Mm} {v1 v2 : Int32} (hs : l.stackTraces = false) (hwf : WfS sh) : CtG l D tc ro oa yX10_possible cX10_possible 3 (some .int) [.ref (oa (0, 0)), .int v1, .int v2] sh ln μ (fun x => some (.int x)) (lf0 sh ln (g_X10_possible sh ln μ v1 v2)) := by
  intro r sh' ln' b kc ks hg0
  obtain ⟨hg, rfl, rfl, rfl, rfl⟩ := lf0_of hg0
  rcases r with x | cn
  · skip
    obtain ⟨h, rfl⟩ := gf_possible hg
    exact ⟨_, ⟨Nat.le_of_ble_eq_true rfl, Nat.le_of_ble_eq_true rfl, Nat.zero_le _, Nat.zero_le _⟩, Ct.toO (fun aa => c_X10_possible hwf h)⟩
  · exact ⟨_, ⟨Nat.le_of_ble_eq_true rfl, Nat.le_of_ble_eq_true rfl, Nat.le_of_ble_eq_true rfl, Nat.le_of_ble_eq_true rfl⟩, rfl, cT_X10_possible hs hwf hg⟩
theorem gf_knows {sh : Sh} {ln : Nat → Nat} {μ b : Mm} {v1 v2 : Int32} {x : Int32} (h : g_X10_knows sh ln μ v1 v2 = some (.inl x, b)) : f_X10_knows sh ln μ v1 v2 = some x ∧ b = μ := by
  unfold g_X10_knows at h
  obtain ⟨h0, h⟩ := xb_inl h
  obtain ⟨h1, h⟩ := xb_inl h
  obtain ⟨h, e⟩ := ml0_inl h
  unfold f_X10_knows
  rw [gn_needPerson h0, Option.bind_some, gn_needPerson h1, Option.bind_some]
  exact ⟨h, e⟩
theorem G_X10_knows {l : Launch} {D : va_G} {tc : Nat → ClassId} {ro : Ro} {oa : Ky → Nat} {sh : Sh} {ln : Nat → Nat} {μ : Mm} {v1 v2 : Int32} (hs : l.stackTraces = false) (hwf : WfS sh) : CtG l D tc ro oa yX10_knows cX10_knows 3 (some .int) [.ref (oa (0, 0)), .int v1, .int v2] sh ln μ (fun x => some (.int x)) (lf0 sh ln (g_X10_knows sh ln μ v1 v2)) := by
  intro r sh' ln' b kc ks hg0
  obtain ⟨hg, rfl, rfl, rfl, rfl⟩ := lf0_of hg0
  rcases r with x | cn
  · skip
    obtain ⟨h, rfl⟩ := gf_knows hg
    exact ⟨_, ⟨Nat.le_of_ble_eq_true rfl, Nat.le_of_ble_eq_true rfl, Nat.zero_le _, Nat.zero_le _⟩, Ct.toO (fun aa => c_X10_knows hwf h)⟩
  · exact ⟨_, ⟨Nat.le_of_ble_eq_true rfl, Nat.le_of_ble_eq_true rfl, Nat.le_of_ble_eq_true rfl, Nat.le_of_ble_eq_true rfl⟩, rfl, cT_X10_knows hs hwf hg⟩
theorem gf_thinks {sh : Sh} {ln : Nat → Nat} {μ b : Mm} {v1 v2 v3 : Int32} {x : Int32} (h : g_X10_thinks sh ln μ v1 v2 v3 = some (.inl x, b)) : f_X10_thinks sh ln μ v1 v2 v3 = some (x, b) := by
  unfold g_X10_thinks at h
  obtain ⟨h0, h⟩ := xb_inl h
  obtain ⟨h1, h⟩ := xb_inl h
  obtain ⟨h2, h⟩ := xb_inl h
  have h := ml_inl h
  unfold f_X10_thinks
  rw [gn_needPerson h0, Option.bind_some, gn_needPerson h1, Option.bind_some, gn_needPerson h2, Option.bind_some]
  exact h
theorem G_X10_thinks {l : Launch} {D : va_G} {tc : Nat → ClassId} {ro : Ro} {oa : Ky → Nat} {sh : Sh} {ln : Nat → Nat} {μ : Mm} {v1 v2 v3 : Int32} (hs : l.stackTraces = false) (hwf : WfS sh) : CtG l D tc ro oa yX10_thinks cX10_thinks 4 (some .boolean) [.ref (oa (0, 0)), .int v1, .int v2, .int v3] sh ln μ (fun x => some (.int x)) (lf0 sh ln (g_X10_thinks sh ln μ v1 v2 v3)) := by
  intro r sh' ln' b kc ks hg0
  obtain ⟨hg, rfl, rfl, rfl, rfl⟩ := lf0_of hg0
  rcases r with x | cn
  · skip
    have h := gf_thinks hg
    exact ⟨_, ⟨Nat.le_of_ble_eq_true rfl, Nat.le_of_ble_eq_true rfl, Nat.zero_le _, Nat.zero_le _⟩, Ct.toO (fun aa => c_X10_thinks hwf h)⟩
  · exact ⟨_, ⟨Nat.le_of_ble_eq_true rfl, Nat.le_of_ble_eq_true rfl, Nat.le_of_ble_eq_true rfl, Nat.le_of_ble_eq_true rfl⟩, rfl, cT_X10_thinks hs hwf hg⟩
theorem gf_common {sh : Sh} {ln : Nat → Nat} {μ b : Mm} {v1 : Int32} {x : Int32} (h : g_X10_common sh ln μ v1 = some (.inl x, b)) : f_X10_common sh ln μ v1 = some (x, b) := by
  unfold g_X10_common at h
  obtain ⟨h0, h⟩ := xb_inl h
  have h := ml_inl h
  unfold f_X10_common
  rw [gn_needPerson h0, Option.bind_some]
  exact h
theorem G_X10_common {l : Launch} {D : va_G} {tc : Nat → ClassId} {ro : Ro} {oa : Ky → Nat} {sh : Sh} {ln : Nat → Nat} {μ : Mm} {v1 : Int32} (hs : l.stackTraces = false) (hwf : WfS sh) : CtG l D tc ro oa yX10_common cX10_common 2 (some .int) [.ref (oa (0, 0)), .int v1] sh ln μ (fun x => some (.int x)) (lf0 sh ln (g_X10_common sh ln μ v1)) := by
  intro r sh' ln' b kc ks hg0
  obtain ⟨hg, rfl, rfl, rfl, rfl⟩ := lf0_of hg0
  rcases r with x | cn
  · skip
    have h := gf_common hg
    exact ⟨_, ⟨Nat.le_of_ble_eq_true rfl, Nat.le_of_ble_eq_true rfl, Nat.zero_le _, Nat.zero_le _⟩, Ct.toO (fun aa => c_X10_common hwf h)⟩
  · exact ⟨_, ⟨Nat.le_of_ble_eq_true rfl, Nat.le_of_ble_eq_true rfl, Nat.le_of_ble_eq_true rfl, Nat.le_of_ble_eq_true rfl⟩, rfl, cT_X10_common hs hwf hg⟩
theorem gf_muddy {sh : Sh} {ln : Nat → Nat} {μ b : Mm} {v1 : Int32} {x : Int32} (h : g_X10_muddy sh ln μ v1 = some (.inl x, b)) : f_X10_muddy sh ln μ v1 = some (x, b) := by
  unfold g_X10_muddy at h
  obtain ⟨h0, h⟩ := xb_inl h
  have h := ml_inl h
  unfold f_X10_muddy
  rw [gn_needPersonOrNone h0, Option.bind_some]
  exact h
theorem G_X10_muddy {l : Launch} {D : va_G} {tc : Nat → ClassId} {ro : Ro} {oa : Ky → Nat} {sh : Sh} {ln : Nat → Nat} {μ : Mm} {v1 : Int32} (hs : l.stackTraces = false) (hwf : WfS sh) : CtG l D tc ro oa yX10_muddy cX10_muddy 2 (some .int) [.ref (oa (0, 0)), .int v1] sh ln μ (fun x => some (.int x)) (lf0 sh ln (g_X10_muddy sh ln μ v1)) := by
  intro r sh' ln' b kc ks hg0
  obtain ⟨hg, rfl, rfl, rfl, rfl⟩ := lf0_of hg0
  rcases r with x | cn
  · skip
    have h := gf_muddy hg
    exact ⟨_, ⟨Nat.le_of_ble_eq_true rfl, Nat.le_of_ble_eq_true rfl, Nat.zero_le _, Nat.zero_le _⟩, Ct.toO (fun aa => c_X10_muddy hwf h)⟩
  · exact ⟨_, ⟨Nat.le_of_ble_eq_true rfl, Nat.le_of_ble_eq_true rfl, Nat.le_of_ble_eq_true rfl, Nat.le_of_ble_eq_true rfl⟩, rfl, cT_X10_muddy hs hwf hg⟩
theorem gf_backs {sh : Sh} {ln : Nat → Nat} {μ b : Mm} {v1 : Int32} {x : Int32} (h : g_X10_backs sh ln μ v1 = some (.inl x, b)) : f_X10_backs sh ln μ v1 = some (x, b) := by
  unfold g_X10_backs at h
  obtain ⟨h0, h⟩ := xb_inl h
  have h := ml_inl h
  unfold f_X10_backs
  rw [gn_needPerson h0, Option.bind_some]
  exact h
theorem G_X10_backs {l : Launch} {D : va_G} {tc : Nat → ClassId} {ro : Ro} {oa : Ky → Nat} {sh : Sh} {ln : Nat → Nat} {μ : Mm} {v1 : Int32} (hs : l.stackTraces = false) (hwf : WfS sh) : CtG l D tc ro oa yX10_backs cX10_backs 2 (some .int) [.ref (oa (0, 0)), .int v1] sh ln μ (fun x => some (.int x)) (lf0 sh ln (g_X10_backs sh ln μ v1)) := by
  intro r sh' ln' b kc ks hg0
  obtain ⟨hg, rfl, rfl, rfl, rfl⟩ := lf0_of hg0
  rcases r with x | cn
  · skip
    have h := gf_backs hg
    exact ⟨_, ⟨Nat.le_of_ble_eq_true rfl, Nat.le_of_ble_eq_true rfl, Nat.zero_le _, Nat.zero_le _⟩, Ct.toO (fun aa => c_X10_backs hwf h)⟩
  · exact ⟨_, ⟨Nat.le_of_ble_eq_true rfl, Nat.le_of_ble_eq_true rfl, Nat.le_of_ble_eq_true rfl, Nat.le_of_ble_eq_true rfl⟩, rfl, cT_X10_backs hs hwf hg⟩
theorem gf_gives {sh : Sh} {ln : Nat → Nat} {μ b : Mm} {v1 : Int32} {x : Int32} (h : g_X10_gives sh ln μ v1 = some (.inl x, b)) : f_X10_gives sh ln μ v1 = some (x, b) := by
  unfold g_X10_gives at h
  obtain ⟨h0, h⟩ := xb_inl h
  have h := ml_inl h
  unfold f_X10_gives
  rw [gn_needPerson h0, Option.bind_some]
  exact h
theorem G_X10_gives {l : Launch} {D : va_G} {tc : Nat → ClassId} {ro : Ro} {oa : Ky → Nat} {sh : Sh} {ln : Nat → Nat} {μ : Mm} {v1 : Int32} (hs : l.stackTraces = false) (hwf : WfS sh) : CtG l D tc ro oa yX10_gives cX10_gives 2 (some .int) [.ref (oa (0, 0)), .int v1] sh ln μ (fun x => some (.int x)) (lf0 sh ln (g_X10_gives sh ln μ v1)) := by
  intro r sh' ln' b kc ks hg0
  obtain ⟨hg, rfl, rfl, rfl, rfl⟩ := lf0_of hg0
  rcases r with x | cn
  · skip
    have h := gf_gives hg
    exact ⟨_, ⟨Nat.le_of_ble_eq_true rfl, Nat.le_of_ble_eq_true rfl, Nat.zero_le _, Nat.zero_le _⟩, Ct.toO (fun aa => c_X10_gives hwf h)⟩
  · exact ⟨_, ⟨Nat.le_of_ble_eq_true rfl, Nat.le_of_ble_eq_true rfl, Nat.le_of_ble_eq_true rfl, Nat.le_of_ble_eq_true rfl⟩, rfl, cT_X10_gives hs hwf hg⟩
theorem gf_never {sh : Sh} {ln : Nat → Nat} {μ b : Mm} {v1 : Int32} {x : Int32} (h : g_X10_never sh ln μ v1 = some (.inl x, b)) : f_X10_never sh ln μ v1 = some (x, b) := by
  unfold g_X10_never at h
  obtain ⟨h0, h⟩ := xb_inl h
  have h := ml_inl h
  unfold f_X10_never
  rw [gn_needPerson h0, Option.bind_some]
  exact h
theorem G_X10_never {l : Launch} {D : va_G} {tc : Nat → ClassId} {ro : Ro} {oa : Ky → Nat} {sh : Sh} {ln : Nat → Nat} {μ : Mm} {v1 : Int32} (hs : l.stackTraces = false) (hwf : WfS sh) : CtG l D tc ro oa yX10_never cX10_never 2 (some .int) [.ref (oa (0, 0)), .int v1] sh ln μ (fun x => some (.int x)) (lf0 sh ln (g_X10_never sh ln μ v1)) := by
  intro r sh' ln' b kc ks hg0
  obtain ⟨hg, rfl, rfl, rfl, rfl⟩ := lf0_of hg0
  rcases r with x | cn
  · skip
    have h := gf_never hg
    exact ⟨_, ⟨Nat.le_of_ble_eq_true rfl, Nat.le_of_ble_eq_true rfl, Nat.zero_le _, Nat.zero_le _⟩, Ct.toO (fun aa => c_X10_never hwf h)⟩
  · exact ⟨_, ⟨Nat.le_of_ble_eq_true rfl, Nat.le_of_ble_eq_true rfl, Nat.le_of_ble_eq_true rfl, Nat.le_of_ble_eq_true rfl⟩, rfl, cT_X10_never hs hwf hg⟩
theorem gf_question {sh : Sh} {ln : Nat → Nat} {μ b : Mm} {v1 : Int32} {x : Int32} (h : g_X10_question sh ln μ v1 = some (.inl x, b)) : f_X10_question sh ln μ v1 = some (x, b) := by
  unfold g_X10_question at h
  obtain ⟨h0, h⟩ := xb_inl h
  have h := ml_inl h
  unfold f_X10_question
  rw [gn_needPerson h0, Option.bind_some]
  exact h
theorem G_X10_question {l : Launch} {D : va_G} {tc : Nat → ClassId} {ro : Ro} {oa : Ky → Nat} {sh : Sh} {ln : Nat → Nat} {μ : Mm} {v1 : Int32} (hs : l.stackTraces = false) (hwf : WfS sh) : CtG l D tc ro oa yX10_question cX10_question 2 (some .int) [.ref (oa (0, 0)), .int v1] sh ln μ (fun x => some (.int x)) (lf0 sh ln (g_X10_question sh ln μ v1)) := by
  intro r sh' ln' b kc ks hg0
  obtain ⟨hg, rfl, rfl, rfl, rfl⟩ := lf0_of hg0
  rcases r with x | cn
  · skip
    have h := gf_question hg
    exact ⟨_, ⟨Nat.le_of_ble_eq_true rfl, Nat.le_of_ble_eq_true rfl, Nat.zero_le _, Nat.zero_le _⟩, Ct.toO (fun aa => c_X10_question hwf h)⟩
  · exact ⟨_, ⟨Nat.le_of_ble_eq_true rfl, Nat.le_of_ble_eq_true rfl, Nat.le_of_ble_eq_true rfl, Nat.le_of_ble_eq_true rfl⟩, rfl, cT_X10_question hs hwf hg⟩
theorem gf_queries {sh : Sh} {ln : Nat → Nat} {μ b : Mm} {v1 : Int32} {x : Int32} (h : g_X10_queries sh ln μ v1 = some (.inl x, b)) : f_X10_queries sh ln μ v1 = some (x, b) := by
  unfold g_X10_queries at h
  obtain ⟨h0, h⟩ := xb_inl h
  have h := ml_inl h
  unfold f_X10_queries
  rw [gn_needPerson h0, Option.bind_some]
  exact h
theorem G_X10_queries {l : Launch} {D : va_G} {tc : Nat → ClassId} {ro : Ro} {oa : Ky → Nat} {sh : Sh} {ln : Nat → Nat} {μ : Mm} {v1 : Int32} (hs : l.stackTraces = false) (hwf : WfS sh) : CtG l D tc ro oa yX10_queries cX10_queries 2 (some .int) [.ref (oa (0, 0)), .int v1] sh ln μ (fun x => some (.int x)) (lf0 sh ln (g_X10_queries sh ln μ v1)) := by
  intro r sh' ln' b kc ks hg0
  obtain ⟨hg, rfl, rfl, rfl, rfl⟩ := lf0_of hg0
  rcases r with x | cn
  · skip
    have h := gf_queries hg
    exact ⟨_, ⟨Nat.le_of_ble_eq_true rfl, Nat.le_of_ble_eq_true rfl, Nat.zero_le _, Nat.zero_le _⟩, Ct.toO (fun aa => c_X10_queries hwf h)⟩
  · exact ⟨_, ⟨Nat.le_of_ble_eq_true rfl, Nat.le_of_ble_eq_true rfl, Nat.le_of_ble_eq_true rfl, Nat.le_of_ble_eq_true rfl⟩, rfl, cT_X10_queries hs hwf hg⟩
theorem gf_spill {sh : Sh} {ln : Nat → Nat} {μ b : Mm} {v1 : Int32} {x : Int32} (h : g_X10_spill sh ln μ v1 = some (.inl x, b)) : f_X10_spill sh ln μ v1 = some (x, b) := by
  unfold g_X10_spill at h
  obtain ⟨h0, h⟩ := xb_inl h
  have h := ml_inl h
  unfold f_X10_spill
  rw [gn_needPerson h0, Option.bind_some]
  exact h
theorem G_X10_spill {l : Launch} {D : va_G} {tc : Nat → ClassId} {ro : Ro} {oa : Ky → Nat} {sh : Sh} {ln : Nat → Nat} {μ : Mm} {v1 : Int32} (hs : l.stackTraces = false) (hwf : WfS sh) : CtG l D tc ro oa yX10_spill cX10_spill 2 (some .int) [.ref (oa (0, 0)), .int v1] sh ln μ (fun x => some (.int x)) (lf0 sh ln (g_X10_spill sh ln μ v1)) := by
  intro r sh' ln' b kc ks hg0
  obtain ⟨hg, rfl, rfl, rfl, rfl⟩ := lf0_of hg0
  rcases r with x | cn
  · skip
    have h := gf_spill hg
    exact ⟨_, ⟨Nat.le_of_ble_eq_true rfl, Nat.le_of_ble_eq_true rfl, Nat.zero_le _, Nat.zero_le _⟩, Ct.toO (fun aa => c_X10_spill hwf h)⟩
  · exact ⟨_, ⟨Nat.le_of_ble_eq_true rfl, Nat.le_of_ble_eq_true rfl, Nat.le_of_ble_eq_true rfl, Nat.le_of_ble_eq_true rfl⟩, rfl, cT_X10_spill hs hwf hg⟩
theorem gf_game {sh : Sh} {ln : Nat → Nat} {μ b : Mm} {v1 v2 : Int32} {x : Int32} (h : g_X10_game sh ln μ v1 v2 = some (.inl x, b)) : f_X10_game sh ln μ v1 v2 = some (x, b) := by
  unfold g_X10_game at h
  obtain ⟨h0, h⟩ := xb_inl h
  have h := ml_inl h
  unfold f_X10_game
  rw [gn_needPerson h0, Option.bind_some]
  exact h
theorem G_X10_game {l : Launch} {D : va_G} {tc : Nat → ClassId} {ro : Ro} {oa : Ky → Nat} {sh : Sh} {ln : Nat → Nat} {μ : Mm} {v1 v2 : Int32} (hs : l.stackTraces = false) (hwf : WfS sh) : CtG l D tc ro oa yX10_game cX10_game 3 (some .int) [.ref (oa (0, 0)), .int v1, .int v2] sh ln μ (fun x => some (.int x)) (lf0 sh ln (g_X10_game sh ln μ v1 v2)) := by
  intro r sh' ln' b kc ks hg0
  obtain ⟨hg, rfl, rfl, rfl, rfl⟩ := lf0_of hg0
  rcases r with x | cn
  · skip
    have h := gf_game hg
    exact ⟨_, ⟨Nat.le_of_ble_eq_true rfl, Nat.le_of_ble_eq_true rfl, Nat.zero_le _, Nat.zero_le _⟩, Ct.toO (fun aa => c_X10_game hwf h)⟩
  · exact ⟨_, ⟨Nat.le_of_ble_eq_true rfl, Nat.le_of_ble_eq_true rfl, Nat.le_of_ble_eq_true rfl, Nat.le_of_ble_eq_true rfl⟩, rfl, cT_X10_game hs hwf hg⟩
theorem gf_steps {sh : Sh} {ln : Nat → Nat} {μ b : Mm} {v1 v2 : Int32} {x : Int32} (h : g_X10_steps sh ln μ v1 v2 = some (.inl x, b)) : f_X10_steps sh ln μ v1 v2 = some x ∧ b = μ := by
  unfold g_X10_steps at h
  obtain ⟨h0, h⟩ := xb_inl h
  obtain ⟨h1, h⟩ := xb_inl h
  obtain ⟨h, e⟩ := ml0_inl h
  unfold f_X10_steps
  rw [gn_needPerson h0, Option.bind_some, gn_needPerson h1, Option.bind_some]
  exact ⟨h, e⟩
theorem G_X10_steps {l : Launch} {D : va_G} {tc : Nat → ClassId} {ro : Ro} {oa : Ky → Nat} {sh : Sh} {ln : Nat → Nat} {μ : Mm} {v1 v2 : Int32} (hs : l.stackTraces = false) (hwf : WfS sh) : CtG l D tc ro oa yX10_steps cX10_steps 3 (some .int) [.ref (oa (0, 0)), .int v1, .int v2] sh ln μ (fun x => some (.int x)) (lf0 sh ln (g_X10_steps sh ln μ v1 v2)) := by
  intro r sh' ln' b kc ks hg0
  obtain ⟨hg, rfl, rfl, rfl, rfl⟩ := lf0_of hg0
  rcases r with x | cn
  · skip
    obtain ⟨h, rfl⟩ := gf_steps hg
    exact ⟨_, ⟨Nat.le_of_ble_eq_true rfl, Nat.le_of_ble_eq_true rfl, Nat.zero_le _, Nat.zero_le _⟩, Ct.toO (fun aa => c_X10_steps hwf h)⟩
  · exact ⟨_, ⟨Nat.le_of_ble_eq_true rfl, Nat.le_of_ble_eq_true rfl, Nat.le_of_ble_eq_true rfl, Nat.le_of_ble_eq_true rfl⟩, rfl, cT_X10_steps hs hwf hg⟩
theorem gf_nth {sh : Sh} {ln : Nat → Nat} {μ b : Mm} {v1 v2 : Int32} {x : Int32} (h : g_X10_nth sh ln μ v1 v2 = some (.inl x, b)) : f_X10_nth sh ln μ v1 v2 = some x ∧ b = μ := by
  unfold g_X10_nth at h
  obtain ⟨h0, h⟩ := xb_inl h
  obtain ⟨h, e⟩ := ml0_inl h
  unfold f_X10_nth
  rw [gn_needPersonOrNone h0, Option.bind_some]
  exact ⟨h, e⟩
theorem G_X10_nth {l : Launch} {D : va_G} {tc : Nat → ClassId} {ro : Ro} {oa : Ky → Nat} {sh : Sh} {ln : Nat → Nat} {μ : Mm} {v1 v2 : Int32} (hs : l.stackTraces = false) (hwf : WfS sh) : CtG l D tc ro oa yX10_nth cX10_nth 3 (some .int) [.ref (oa (0, 0)), .int v1, .int v2] sh ln μ (fun x => some (.int x)) (lf0 sh ln (g_X10_nth sh ln μ v1 v2)) := by
  intro r sh' ln' b kc ks hg0
  obtain ⟨hg, rfl, rfl, rfl, rfl⟩ := lf0_of hg0
  rcases r with x | cn
  · skip
    obtain ⟨h, rfl⟩ := gf_nth hg
    exact ⟨_, ⟨Nat.le_of_ble_eq_true rfl, Nat.le_of_ble_eq_true rfl, Nat.zero_le _, Nat.zero_le _⟩, Ct.toO (fun aa => c_X10_nth hwf h)⟩
  · exact ⟨_, ⟨Nat.le_of_ble_eq_true rfl, Nat.le_of_ble_eq_true rfl, Nat.le_of_ble_eq_true rfl, Nat.le_of_ble_eq_true rfl⟩, rfl, cT_X10_nth hs hwf hg⟩
theorem gf_guess {sh : Sh} {ln : Nat → Nat} {μ b : Mm} {v1 : Int32} {x : Int32} (h : g_X10_guess sh ln μ v1 = some (.inl x, b)) : f_X10_guess sh ln μ v1 = some (x, b) := by
  unfold g_X10_guess at h
  obtain ⟨h0, h⟩ := xb_inl h
  have h := ml_inl h
  unfold f_X10_guess
  rw [gn_needPerson h0, Option.bind_some]
  exact h
theorem G_X10_guess {l : Launch} {D : va_G} {tc : Nat → ClassId} {ro : Ro} {oa : Ky → Nat} {sh : Sh} {ln : Nat → Nat} {μ : Mm} {v1 : Int32} (hs : l.stackTraces = false) (hwf : WfS sh) : CtG l D tc ro oa yX10_guess cX10_guess 2 (some .int) [.ref (oa (0, 0)), .int v1] sh ln μ (fun x => some (.int x)) (lf0 sh ln (g_X10_guess sh ln μ v1)) := by
  intro r sh' ln' b kc ks hg0
  obtain ⟨hg, rfl, rfl, rfl, rfl⟩ := lf0_of hg0
  rcases r with x | cn
  · skip
    have h := gf_guess hg
    exact ⟨_, ⟨Nat.le_of_ble_eq_true rfl, Nat.le_of_ble_eq_true rfl, Nat.zero_le _, Nat.zero_le _⟩, Ct.toO (fun aa => c_X10_guess hwf h)⟩
  · exact ⟨_, ⟨Nat.le_of_ble_eq_true rfl, Nat.le_of_ble_eq_true rfl, Nat.le_of_ble_eq_true rfl, Nat.le_of_ble_eq_true rfl⟩, rfl, cT_X10_guess hs hwf hg⟩
theorem gf_right {sh : Sh} {ln : Nat → Nat} {μ b : Mm} {v1 : Int32} {x : Int32} (h : g_X10_right sh ln μ v1 = some (.inl x, b)) : f_X10_right sh ln μ v1 = some (x, b) := by
  unfold g_X10_right at h
  obtain ⟨h0, h⟩ := xb_inl h
  have h := ml_inl h
  unfold f_X10_right
  rw [gn_needPersonOrNone h0, Option.bind_some]
  exact h
theorem G_X10_right {l : Launch} {D : va_G} {tc : Nat → ClassId} {ro : Ro} {oa : Ky → Nat} {sh : Sh} {ln : Nat → Nat} {μ : Mm} {v1 : Int32} (hs : l.stackTraces = false) (hwf : WfS sh) : CtG l D tc ro oa yX10_right cX10_right 2 (some .int) [.ref (oa (0, 0)), .int v1] sh ln μ (fun x => some (.int x)) (lf0 sh ln (g_X10_right sh ln μ v1)) := by
  intro r sh' ln' b kc ks hg0
  obtain ⟨hg, rfl, rfl, rfl, rfl⟩ := lf0_of hg0
  rcases r with x | cn
  · skip
    have h := gf_right hg
    exact ⟨_, ⟨Nat.le_of_ble_eq_true rfl, Nat.le_of_ble_eq_true rfl, Nat.zero_le _, Nat.zero_le _⟩, Ct.toO (fun aa => c_X10_right hwf h)⟩
  · exact ⟨_, ⟨Nat.le_of_ble_eq_true rfl, Nat.le_of_ble_eq_true rfl, Nat.le_of_ble_eq_true rfl, Nat.le_of_ble_eq_true rfl⟩, rfl, cT_X10_right hs hwf hg⟩
theorem gf_married {sh : Sh} {ln : Nat → Nat} {μ b : Mm} {v1 : Int32} {x : Int32} (h : g_X10_married sh ln μ v1 = some (.inl x, b)) : f_X10_married sh ln μ v1 = some (x, b) := by
  unfold g_X10_married at h
  obtain ⟨h0, h⟩ := xb_inl h
  have h := ml_inl h
  unfold f_X10_married
  rw [gn_needPersonOrNone h0, Option.bind_some]
  exact h
theorem G_X10_married {l : Launch} {D : va_G} {tc : Nat → ClassId} {ro : Ro} {oa : Ky → Nat} {sh : Sh} {ln : Nat → Nat} {μ : Mm} {v1 : Int32} (hs : l.stackTraces = false) (hwf : WfS sh) : CtG l D tc ro oa yX10_married cX10_married 2 (some .int) [.ref (oa (0, 0)), .int v1] sh ln μ (fun x => some (.int x)) (lf0 sh ln (g_X10_married sh ln μ v1)) := by
  intro r sh' ln' b kc ks hg0
  obtain ⟨hg, rfl, rfl, rfl, rfl⟩ := lf0_of hg0
  rcases r with x | cn
  · skip
    have h := gf_married hg
    exact ⟨_, ⟨Nat.le_of_ble_eq_true rfl, Nat.le_of_ble_eq_true rfl, Nat.zero_le _, Nat.zero_le _⟩, Ct.toO (fun aa => c_X10_married hwf h)⟩
  · exact ⟨_, ⟨Nat.le_of_ble_eq_true rfl, Nat.le_of_ble_eq_true rfl, Nat.le_of_ble_eq_true rfl, Nat.le_of_ble_eq_true rfl⟩, rfl, cT_X10_married hs hwf hg⟩
theorem gf_led {sh : Sh} {ln : Nat → Nat} {μ b : Mm} {v1 : Int32} {x : Int32} (h : g_X10_led sh ln μ v1 = some (.inl x, b)) : f_X10_led sh ln μ v1 = some x ∧ b = μ := by
  unfold g_X10_led at h
  obtain ⟨h0, h⟩ := xb_inl h
  obtain ⟨h, e⟩ := ml0_inl h
  unfold f_X10_led
  rw [gn_needPerson h0, Option.bind_some]
  exact ⟨h, e⟩
theorem G_X10_led {l : Launch} {D : va_G} {tc : Nat → ClassId} {ro : Ro} {oa : Ky → Nat} {sh : Sh} {ln : Nat → Nat} {μ : Mm} {v1 : Int32} (hs : l.stackTraces = false) (hwf : WfS sh) : CtG l D tc ro oa yX10_led cX10_led 4 (some .int) [.ref (oa (0, 0)), .int v1] sh ln μ (fun x => some (.int x)) (lf0 sh ln (g_X10_led sh ln μ v1)) := by
  intro r sh' ln' b kc ks hg0
  obtain ⟨hg, rfl, rfl, rfl, rfl⟩ := lf0_of hg0
  rcases r with x | cn
  · skip
    obtain ⟨h, rfl⟩ := gf_led hg
    exact ⟨_, ⟨Nat.le_of_ble_eq_true rfl, Nat.le_of_ble_eq_true rfl, Nat.zero_le _, Nat.zero_le _⟩, Ct.toO (fun aa => c_X10_led hwf h)⟩
  · exact ⟨_, ⟨Nat.le_of_ble_eq_true rfl, Nat.le_of_ble_eq_true rfl, Nat.le_of_ble_eq_true rfl, Nat.le_of_ble_eq_true rfl⟩, rfl, cT_X10_led hs hwf hg⟩
theorem ce_i {α : Type} {P : Prop} [Decidable P] {x : Option α} (h : P) : ce P x = x := if_pos h
theorem addc_i {X : Type} {c s : Nat} {x : Option (X × Nat × Nat)} {o : X} {kc ks : Nat} (h : x = some (o, kc, ks)) : addc c s x = some (o, c + kc, s + ks) := by
  rw [h]
  rfl
theorem gf_person {sh : Sh} {ln : Nat → Nat} {μ b : Mm} {v1 v2 : Int32} {x : Int32} (h : g_X10_person sh ln μ v1 v2 = some (.inl x, b)) : f_X10_person sh ln μ v1 v2 = some x ∧ b = μ := by
  unfold g_X10_person at h
  unfold f_X10_person
  obtain ⟨h0, h⟩ := xb_inl h
  rw [gn_needPerson h0, Option.bind_some]
  by_cases c0 : v2 = (0 : Int32)
  · rw [if_pos c0] at h
    rw [if_pos c0]
    obtain ⟨q1, h⟩ := ce_of h
    rw [ce_i q1]
    obtain ⟨q2, h⟩ := ce_of h
    rw [ce_i q2]
    obtain ⟨x56, hx56, h⟩ := bd_of h
    rw [hx56, Option.bind_some]
    cases h
    exact ⟨rfl, rfl⟩
  · rw [if_neg c0] at h
    rw [if_neg c0]
    by_cases c3 : v2 = (1 : Int32)
    · rw [if_pos c3] at h
      rw [if_pos c3]
      obtain ⟨q4, h⟩ := ce_of h
      rw [ce_i q4]
      obtain ⟨x68, hx68, h⟩ := bd_of h
      rw [hx68, Option.bind_some]
      cases h
      exact ⟨rfl, rfl⟩
    · rw [if_neg c3] at h
      rw [if_neg c3]
      by_cases c5 : v2 = (2 : Int32)
      · rw [if_pos c5] at h
        rw [if_pos c5]
        obtain ⟨q6, h⟩ := ce_of h
        rw [ce_i q6]
        obtain ⟨x77, hx77, h⟩ := bd_of h
        rw [hx77, Option.bind_some]
        cases h
        exact ⟨rfl, rfl⟩
      · rw [if_neg c5] at h
        rw [if_neg c5]
        by_cases c7 : v2 = (3 : Int32)
        · rw [if_pos c7] at h
          rw [if_pos c7]
          obtain ⟨q8, h⟩ := ce_of h
          rw [ce_i q8]
          obtain ⟨q9, h⟩ := ce_of h
          rw [ce_i q9]
          obtain ⟨q10, h⟩ := ce_of h
          rw [ce_i q10]
          obtain ⟨x104, hx104, h⟩ := bd_of h
          rw [hx104, Option.bind_some]
          by_cases c11 : x104 = 0
          · rw [if_pos c11] at h
            rw [if_pos c11]
            cases h
            exact ⟨rfl, rfl⟩
          · rw [if_neg c11] at h
            rw [if_neg c11]
            cases h
            exact ⟨rfl, rfl⟩
        · rw [if_neg c7] at h
          rw [if_neg c7]
          by_cases c12 : v2 = (4 : Int32)
          · rw [if_pos c12] at h
            rw [if_pos c12]
            obtain ⟨q13, h⟩ := ce_of h
            rw [ce_i q13]
            obtain ⟨x125, hx125, h⟩ := bd_of h
            rw [hx125, Option.bind_some]
            cases h
            exact ⟨rfl, rfl⟩
          · rw [if_neg c12] at h
            rw [if_neg c12]
            by_cases c14 : v2 = (5 : Int32)
            · rw [if_pos c14] at h
              rw [if_pos c14]
              obtain ⟨q15, h⟩ := ce_of h
              rw [ce_i q15]
              obtain ⟨x138, hx138, h⟩ := bd_of h
              rw [hx138, Option.bind_some]
              cases h
              exact ⟨rfl, rfl⟩
            · rw [if_neg c14] at h
              cases h
theorem G_X10_person {l : Launch} {D : va_G} {tc : Nat → ClassId} {ro : Ro} {oa : Ky → Nat} {sh : Sh} {ln : Nat → Nat} {μ : Mm} {v1 v2 : Int32} (hs : l.stackTraces = false) (hwf : WfS sh) : CtG l D tc ro oa yX10_person cX10_person 3 (some .int) [.ref (oa (0, 0)), .int v1, .int v2] sh ln μ (fun x => some (.int x)) (lf0 sh ln (g_X10_person sh ln μ v1 v2)) := by
  intro r sh' ln' b kc ks hg0
  obtain ⟨hg, rfl, rfl, rfl, rfl⟩ := lf0_of hg0
  rcases r with x | cn
  · skip
    obtain ⟨h, rfl⟩ := gf_person hg
    exact ⟨_, ⟨Nat.le_of_ble_eq_true rfl, Nat.le_of_ble_eq_true rfl, Nat.zero_le _, Nat.zero_le _⟩, Ct.toO (fun aa => c_X10_person hwf h)⟩
  · exact ⟨_, ⟨Nat.le_of_ble_eq_true rfl, Nat.le_of_ble_eq_true rfl, Nat.le_of_ble_eq_true rfl, Nat.le_of_ble_eq_true rfl⟩, rfl, cT_X10_person hs hwf hg⟩
theorem gf_log {sh : Sh} {ln : Nat → Nat} {μ b : Mm} {v1 v2 : Int32} {x : Int32} (h : g_X10_log sh ln μ v1 v2 = some (.inl x, b)) : f_X10_log sh ln μ v1 v2 = some x ∧ b = μ := by
  unfold g_X10_log at h
  unfold f_X10_log
  by_cases c16 : v2 < 0
  · rw [if_pos c16] at h
    cases h
  · rw [if_neg c16] at h
    rw [if_neg c16]
    by_cases c17 : v2 < (5 : Int32)
    · rw [if_pos c17] at h
      rw [if_pos c17]
      obtain ⟨q18, h⟩ := ce_of h
      rw [ce_i q18]
      obtain ⟨x26, hx26, h⟩ := bd_of h
      rw [hx26, Option.bind_some]
      cases h
      exact ⟨rfl, rfl⟩
    · rw [if_neg c17] at h
      cases h
theorem G_X10_log {l : Launch} {D : va_G} {tc : Nat → ClassId} {ro : Ro} {oa : Ky → Nat} {sh : Sh} {ln : Nat → Nat} {μ : Mm} {v1 v2 : Int32} (hs : l.stackTraces = false) (hwf : WfS sh) : CtG l D tc ro oa yX10_log cX10_log 3 (some .int) [.ref (oa (0, 0)), .int v1, .int v2] sh ln μ (fun x => some (.int x)) (lf0 sh ln (g_X10_log sh ln μ v1 v2)) := by
  intro r sh' ln' b kc ks hg0
  obtain ⟨hg, rfl, rfl, rfl, rfl⟩ := lf0_of hg0
  rcases r with x | cn
  · skip
    obtain ⟨h, rfl⟩ := gf_log hg
    exact ⟨_, ⟨Nat.le_of_ble_eq_true rfl, Nat.le_of_ble_eq_true rfl, Nat.zero_le _, Nat.zero_le _⟩, Ct.toO (fun aa => c_X10_log hwf h)⟩
  · exact ⟨_, ⟨Nat.le_of_ble_eq_true rfl, Nat.le_of_ble_eq_true rfl, Nat.le_of_ble_eq_true rfl, Nat.le_of_ble_eq_true rfl⟩, rfl, cT_X10_log hs hwf hg⟩
theorem gf_rows {sh : Sh} {ln : Nat → Nat} {μ b : Mm} {v1 : Int32} {x : Int32} (h : g_X10_rows sh ln μ v1 = some (.inl x, b)) : f_X10_rows sh ln μ v1 = some (x, b) := by
  unfold g_X10_rows at h
  unfold f_X10_rows
  obtain ⟨x4, hx4, h⟩ := bd_of h
  rw [hx4, Option.bind_some]
  obtain ⟨q19, h⟩ := ce_of h
  rw [ce_i q19]
  obtain ⟨x21, hx21, h⟩ := bd_of h
  rw [hx21, Option.bind_some]
  by_cases c20 : x21 = 0
  · rw [if_pos c20] at h
    cases h
  · rw [if_neg c20] at h
    rw [if_neg c20]
    by_cases c21 : (-1 : Int32) ≤ v1
    · rw [if_pos c21] at h
      rw [if_pos c21]
      obtain ⟨q22, h⟩ := ce_of h
      rw [ce_i q22]
      obtain ⟨x57, hx57, h⟩ := bd_of h
      rw [hx57, Option.bind_some]
      cases h
      rfl
    · rw [if_neg c21] at h
      cases h
theorem G_X10_rows {l : Launch} {D : va_G} {tc : Nat → ClassId} {ro : Ro} {oa : Ky → Nat} {sh : Sh} {ln : Nat → Nat} {μ : Mm} {v1 : Int32} (hs : l.stackTraces = false) (hwf : WfS sh) : CtG l D tc ro oa yX10_rows cX10_rows 3 (some .int) [.ref (oa (0, 0)), .int v1] sh ln μ (fun x => some (.int x)) (lf0 sh ln (g_X10_rows sh ln μ v1)) := by
  intro r sh' ln' b kc ks hg0
  obtain ⟨hg, rfl, rfl, rfl, rfl⟩ := lf0_of hg0
  rcases r with x | cn
  · skip
    have h := gf_rows hg
    exact ⟨_, ⟨Nat.le_of_ble_eq_true rfl, Nat.le_of_ble_eq_true rfl, Nat.zero_le _, Nat.zero_le _⟩, Ct.toO (fun aa => c_X10_rows hwf h)⟩
  · exact ⟨_, ⟨Nat.le_of_ble_eq_true rfl, Nat.le_of_ble_eq_true rfl, Nat.le_of_ble_eq_true rfl, Nat.le_of_ble_eq_true rfl⟩, rfl, cT_X10_rows hs hwf hg⟩
theorem gf_liars {sh : Sh} {ln : Nat → Nat} {μ b : Mm} {v1 v2 : Int32} {x : Int32} (h : g_X10_liars sh ln μ v1 v2 = some (.inl x, b)) : f_X10_liars sh ln μ v1 v2 = some (x, b) := by
  unfold g_X10_liars at h
  unfold f_X10_liars
  obtain ⟨x4, hx4, h⟩ := bd_of h
  rw [hx4, Option.bind_some]
  obtain ⟨q23, h⟩ := ce_of h
  rw [ce_i q23]
  obtain ⟨x21, hx21, h⟩ := bd_of h
  rw [hx21, Option.bind_some]
  by_cases c24 : x21 = 0
  · rw [if_pos c24] at h
    cases h
  · rw [if_neg c24] at h
    rw [if_neg c24]
    by_cases c25 : v1 < 0
    · rw [if_pos c25] at h
      cases h
    · rw [if_neg c25] at h
      rw [if_neg c25]
      by_cases c26 : v1 ≤ (9 : Int32)
      · rw [if_pos c26] at h
        rw [if_pos c26]
        obtain ⟨q27, h⟩ := ce_of h
        rw [ce_i q27]
        obtain ⟨x63, hx63, h⟩ := bd_of h
        rw [hx63, Option.bind_some]
        cases h
        rfl
      · rw [if_neg c26] at h
        cases h
theorem G_X10_liars {l : Launch} {D : va_G} {tc : Nat → ClassId} {ro : Ro} {oa : Ky → Nat} {sh : Sh} {ln : Nat → Nat} {μ : Mm} {v1 v2 : Int32} (hs : l.stackTraces = false) (hwf : WfS sh) : CtG l D tc ro oa yX10_liars cX10_liars 4 (some .int) [.ref (oa (0, 0)), .int v1, .int v2] sh ln μ (fun x => some (.int x)) (lf0 sh ln (g_X10_liars sh ln μ v1 v2)) := by
  intro r sh' ln' b kc ks hg0
  obtain ⟨hg, rfl, rfl, rfl, rfl⟩ := lf0_of hg0
  rcases r with x | cn
  · skip
    have h := gf_liars hg
    exact ⟨_, ⟨Nat.le_of_ble_eq_true rfl, Nat.le_of_ble_eq_true rfl, Nat.zero_le _, Nat.zero_le _⟩, Ct.toO (fun aa => c_X10_liars hwf h)⟩
  · exact ⟨_, ⟨Nat.le_of_ble_eq_true rfl, Nat.le_of_ble_eq_true rfl, Nat.le_of_ble_eq_true rfl, Nat.le_of_ble_eq_true rfl⟩, rfl, cT_X10_liars hs hwf hg⟩
theorem G_X10_feed {l : Launch} {D : va_G} {tc : Nat → ClassId} {ro : Ro} {oa : Ky → Nat} {sh : Sh} {ln : Nat → Nat} {μ : Mm} {v1 v2 v3 v4 v5 : Int32} (hwf : WfS sh) : CtG l D tc ro oa yX10_feed cX10_feed 6 (some .int) [.ref (oa (0, 0)), .int v1, .int v2, .int v3, .int v4, .int v5] sh ln μ (fun x => some (.int x)) (lfn sh ln (f_X10_feed sh ln μ v1 v2 v3 v4 v5)) := by
  intro r sh' ln' b kc ks hg0
  obtain ⟨v, rfl, h, rfl, rfl, rfl, rfl⟩ := lfn_of hg0
  exact ⟨_, ⟨Nat.le_of_ble_eq_true rfl, Nat.le_of_ble_eq_true rfl, Nat.zero_le _, Nat.zero_le _⟩, Ct.toO (fun aa => c_X10_feed hwf h)⟩
theorem G_X10_end {l : Launch} {D : va_G} {tc : Nat → ClassId} {ro : Ro} {oa : Ky → Nat} {sh : Sh} {ln : Nat → Nat} {μ : Mm} {v1 : Int32} (hwf : WfS sh) : CtG l D tc ro oa yX10_end cX10_end 2 (some .boolean) [.ref (oa (0, 0)), .int v1] sh ln μ (fun x => some (.int x)) (lfn sh ln (f_X10_end sh ln μ v1)) := by
  intro r sh' ln' b kc ks hg0
  obtain ⟨v, rfl, h, rfl, rfl, rfl, rfl⟩ := lfn_of hg0
  exact ⟨_, ⟨Nat.le_of_ble_eq_true rfl, Nat.le_of_ble_eq_true rfl, Nat.zero_le _, Nat.zero_le _⟩, Ct.toO (fun aa => c_X10_end hwf h)⟩
theorem G_X10_seed {l : Launch} {D : va_G} {tc : Nat → ClassId} {ro : Ro} {oa : Ky → Nat} {sh : Sh} {ln : Nat → Nat} {μ : Mm} {v1 : Int32} (hwf : WfS sh) : CtG l D tc ro oa yX10_seed cX10_seed 3 (some .int) [.ref (oa (0, 0)), .int v1] sh ln μ (fun x => some (.int x)) (lfn sh ln (f_X10_seed sh ln μ v1)) := by
  intro r sh' ln' b kc ks hg0
  obtain ⟨v, rfl, h, rfl, rfl, rfl, rfl⟩ := lfn_of hg0
  exact ⟨_, ⟨Nat.le_of_ble_eq_true rfl, Nat.le_of_ble_eq_true rfl, Nat.zero_le _, Nat.zero_le _⟩, Ct.toO (fun aa => c_X10_seed hwf h)⟩
theorem G_X10_quiet {l : Launch} {D : va_G} {tc : Nat → ClassId} {ro : Ro} {oa : Ky → Nat} {sh : Sh} {ln : Nat → Nat} {μ : Mm} (hwf : WfS sh) : CtG l D tc ro oa yX10_quiet cX10_quiet 3 (some .int) [.ref (oa (0, 0))] sh ln μ (fun x => some (.int x)) (lfn sh ln (f_X10_quiet sh ln μ)) := by
  intro r sh' ln' b kc ks hg0
  obtain ⟨v, rfl, h, rfl, rfl, rfl, rfl⟩ := lfn_of hg0
  exact ⟨_, ⟨Nat.le_of_ble_eq_true rfl, Nat.le_of_ble_eq_true rfl, Nat.zero_le _, Nat.zero_le _⟩, Ct.toO (fun aa => c_X10_quiet hwf h)⟩
theorem G_X10_widest {l : Launch} {D : va_G} {tc : Nat → ClassId} {ro : Ro} {oa : Ky → Nat} {sh : Sh} {ln : Nat → Nat} {μ : Mm} (hwf : WfS sh) : CtG l D tc ro oa yX10_widest cX10_widest 5 (some .int) [.ref (oa (0, 0))] sh ln μ (fun x => some (.int x)) (lfn sh ln (wr μ (f_X10_widest sh ln μ))) := by
  intro r sh' ln' b kc ks hg0
  obtain ⟨v, rfl, h, rfl, rfl, rfl, rfl⟩ := lfn_of hg0
  obtain ⟨h2, rfl⟩ := wr_of h
  exact ⟨_, ⟨Nat.le_of_ble_eq_true rfl, Nat.le_of_ble_eq_true rfl, Nat.zero_le _, Nat.zero_le _⟩, Ct.toO (fun aa => c_X10_widest hwf h2)⟩
theorem G_X10_under {l : Launch} {D : va_G} {tc : Nat → ClassId} {ro : Ro} {oa : Ky → Nat} {sh : Sh} {ln : Nat → Nat} {μ : Mm} (hwf : WfS sh) : CtG l D tc ro oa yX10_under cX10_under 5 (some .int) [.ref (oa (0, 0))] sh ln μ (fun x => some (.int x)) (lfn sh ln (wr μ (f_X10_under sh ln μ))) := by
  intro r sh' ln' b kc ks hg0
  obtain ⟨v, rfl, h, rfl, rfl, rfl, rfl⟩ := lfn_of hg0
  obtain ⟨h2, rfl⟩ := wr_of h
  exact ⟨_, ⟨Nat.le_of_ble_eq_true rfl, Nat.le_of_ble_eq_true rfl, Nat.zero_le _, Nat.zero_le _⟩, Ct.toO (fun aa => c_X10_under hwf h2)⟩
theorem G_X10_count {l : Launch} {D : va_G} {tc : Nat → ClassId} {ro : Ro} {oa : Ky → Nat} {sh : Sh} {ln : Nat → Nat} {μ : Mm} {v1 : Int32} (hwf : WfS sh) : CtG l D tc ro oa yX10_count cX10_count 2 (some .int) [.ref (oa (0, 0)), .int v1] sh ln μ (fun x => some (.int x)) (lfn sh ln (wr μ (f_X10_count sh ln μ v1))) := by
  intro r sh' ln' b kc ks hg0
  obtain ⟨v, rfl, h, rfl, rfl, rfl, rfl⟩ := lfn_of hg0
  obtain ⟨h2, rfl⟩ := wr_of h
  exact ⟨_, ⟨Nat.le_of_ble_eq_true rfl, Nat.le_of_ble_eq_true rfl, Nat.zero_le _, Nat.zero_le _⟩, Ct.toO (fun aa => c_X10_count hwf h2)⟩
theorem G_X10_fault {l : Launch} {D : va_G} {tc : Nat → ClassId} {ro : Ro} {oa : Ky → Nat} {sh : Sh} {ln : Nat → Nat} {μ : Mm} (hwf : WfS sh) : CtG l D tc ro oa yX10_fault cX10_fault 1 (some .int) [.ref (oa (0, 0))] sh ln μ (fun x => some (.int x)) (lf0 sh ln (ml0 μ (f_X10_fault sh ln μ))) := by
  intro r sh' ln' b kc ks hg0
  obtain ⟨hg, rfl, rfl, rfl, rfl⟩ := lf0_of hg0
  obtain ⟨v, rfl, h, rfl⟩ := ml0_all hg
  exact ⟨_, ⟨Nat.le_of_ble_eq_true rfl, Nat.le_of_ble_eq_true rfl, Nat.zero_le _, Nat.zero_le _⟩, Ct.toO (fun aa => c_X10_fault hwf h)⟩
theorem gf_village {sh : Sh} {ln ln' : Nat → Nat} {μ b : Mm} {x : Int32} {kc ks : Nat} (h : g_X10_village sh ln μ = some ((.inl x, ln', b), kc, ks)) : f_X10_villageA sh ln μ = some ((x, ln', b), kc, ks) := by
  unfold g_X10_village at h
  unfold f_X10_villageA
  obtain ⟨x4, hx4, h⟩ := bd_of h
  rw [hx4, Option.bind_some]
  obtain ⟨q28, h⟩ := ce_of h
  rw [ce_i q28]
  obtain ⟨q29, h⟩ := ce_of h
  rw [ce_i q29]
  obtain ⟨x16, hx16, h⟩ := bd_of h
  rw [hx16, Option.bind_some]
  obtain ⟨kc30, ks30, h, eC30, eS30⟩ := addc_of h
  rw [eC30, eS30]
  refine addc_i ?_
  obtain ⟨x28, hx28, h⟩ := bd_of h
  rw [hx28, Option.bind_some]
  obtain ⟨q31, h⟩ := ce_of h
  rw [ce_i q31]
  obtain ⟨x39, hx39, h⟩ := bd_of h
  rw [hx39, Option.bind_some]
  obtain ⟨x48, hx48, h⟩ := bd_of h
  rw [hx48, Option.bind_some]
  obtain ⟨kc32, ks32, h, eC32, eS32⟩ := addc_of h
  rw [eC32, eS32]
  refine addc_i ?_
  obtain ⟨x57, hx57, h⟩ := bd_of h
  rw [hx57, Option.bind_some]
  by_cases c33 : x48.1.1 = (-1 : Int32)
  · rw [if_pos c33] at h
    cases h
  · rw [if_neg c33] at h
    rw [if_neg c33]
    obtain ⟨q34, h⟩ := ce_of h
    rw [ce_i q34]
    by_cases c35 : ((mst x48.1.2.2 (0, 0) 12 x57) (13, ((mst x48.1.2.2 (0, 0) 12 x57) (0, 0) 9).toNatClampNeg) 6) < (12 : Int32)
    · rw [if_pos c35] at h
      rw [if_pos c35]
      obtain ⟨q36, h⟩ := ce_of h
      rw [ce_i q36]
      obtain ⟨μ10, hμ10, h⟩ := bd_of h
      rw [hμ10, Option.bind_some]
      obtain ⟨q37, h⟩ := ce_of h
      rw [ce_i q37]
      obtain ⟨q38, h⟩ := ce_of h
      rw [ce_i q38]
      obtain ⟨q39, h⟩ := ce_of h
      rw [ce_i q39]
      obtain ⟨q40, h⟩ := ce_of h
      rw [ce_i q40]
      obtain ⟨μ15, hμ15, h⟩ := bd_of h
      rw [hμ15, Option.bind_some]
      obtain ⟨x132, hx132, h⟩ := bd_of h
      rw [hx132, Option.bind_some]
      obtain ⟨q41, h⟩ := ce_of h
      rw [ce_i q41]
      cases h
      rfl
    · rw [if_neg c35] at h
      cases h
theorem G_X10_village {l : Launch} {D : va_G} {tc : Nat → ClassId} {ro : Ro} {oa : Ky → Nat} {sh : Sh} {ln : Nat → Nat} {μ : Mm} (hs : l.stackTraces = false) (hwf : WfS sh) : CtG l D tc ro oa yX10_village cX10_village 4 (some .int) [.ref (oa (0, 0))] sh ln μ (fun x => some (.int x)) (lfV sh (g_X10_village sh ln μ)) := by
  intro r sh' ln' b kc ks hg0
  obtain ⟨hg, rfl⟩ := lfV_of hg0
  rcases r with x | cn
  · exact ⟨_, ⟨Nat.le_of_ble_eq_true rfl, Nat.le_of_ble_eq_true rfl, Nat.le_succ _, Nat.le_add_right _ _⟩, (cA_X10_village hwf (gf_village hg)).toO⟩
  · exact ⟨_, ⟨Nat.le_of_ble_eq_true rfl, Nat.le_of_ble_eq_true rfl, Nat.le_refl _, Nat.le_refl _⟩, rfl, cT_X10_village hs hwf hg⟩
theorem gf_trial {sh sh' : Sh} {ln ln' : Nat → Nat} {μ b : Mm} {v1 : Int32} {x : Int32} {kc ks : Nat} (h : g_X10_trial sh ln μ v1 = some ((.inl x, sh', ln', b), kc, ks)) : f_X10_trialA sh ln μ v1 = some ((x, ln', b), kc, ks) ∧ sh = sh' := by
  unfold g_X10_trial at h
  obtain ⟨h0, h⟩ := xbO_inl h
  obtain ⟨v, e, h, e2⟩ := lfA_of h
  cases e
  unfold f_X10_trialA
  rw [gn_needNumber h0, Option.bind_some]
  exact ⟨h, e2⟩
theorem G_X10_trial {l : Launch} {D : va_G} {tc : Nat → ClassId} {ro : Ro} {oa : Ky → Nat} {sh : Sh} {ln : Nat → Nat} {μ : Mm} {v1 : Int32} (hs : l.stackTraces = false) (hwf : WfS sh) : CtG l D tc ro oa yX10_trial cX10_trial 2 (some .int) [.ref (oa (0, 0)), .int v1] sh ln μ (fun x => some (.int x)) (g_X10_trial sh ln μ v1) := by
  intro r sh' ln' b kc ks hg
  rcases r with x | cn
  · skip
    obtain ⟨h, rfl⟩ := gf_trial hg
    exact ⟨_, ⟨Nat.le_of_ble_eq_true rfl, Nat.le_of_ble_eq_true rfl, Nat.le_succ _, Nat.le_add_right _ _⟩, (cA_X10_trial hwf h).toO⟩
  · skip
    obtain ⟨⟨rfl, rfl, rfl, rfl, rfl⟩, h⟩ := cT_X10_trial (D := D) (tc := tc) (ro := ro) (oa := oa) hs hwf hg
    exact ⟨_, ⟨Nat.le_of_ble_eq_true rfl, Nat.le_of_ble_eq_true rfl, Nat.le_of_ble_eq_true rfl, Nat.le_of_ble_eq_true rfl⟩, rfl, h⟩
theorem gf_span {sh sh' : Sh} {ln ln' : Nat → Nat} {μ b : Mm} {v1 v2 : Int32} {x : Int32} {kc ks : Nat} (h : g_X10_span sh ln μ v1 v2 = some ((.inl x, sh', ln', b), kc, ks)) : f_X10_spanA sh ln μ v1 v2 = some ((x, ln', b), kc, ks) ∧ sh = sh' := by
  unfold g_X10_span at h
  obtain ⟨h0, h⟩ := xbO_inl h
  obtain ⟨v, e, h, e2⟩ := lfA_of h
  cases e
  unfold f_X10_spanA
  rw [gn_needNumber h0, Option.bind_some]
  exact ⟨h, e2⟩
theorem G_X10_span {l : Launch} {D : va_G} {tc : Nat → ClassId} {ro : Ro} {oa : Ky → Nat} {sh : Sh} {ln : Nat → Nat} {μ : Mm} {v1 v2 : Int32} (hs : l.stackTraces = false) (hwf : WfS sh) : CtG l D tc ro oa yX10_span cX10_span 6 (some .int) [.ref (oa (0, 0)), .int v1, .int v2] sh ln μ (fun x => some (.int x)) (g_X10_span sh ln μ v1 v2) := by
  intro r sh' ln' b kc ks hg
  rcases r with x | cn
  · skip
    obtain ⟨h, rfl⟩ := gf_span hg
    exact ⟨_, ⟨Nat.le_of_ble_eq_true rfl, Nat.le_of_ble_eq_true rfl, Nat.le_succ _, Nat.le_add_right _ _⟩, (cA_X10_span hwf h).toO⟩
  · skip
    obtain ⟨⟨rfl, rfl, rfl, rfl, rfl⟩, h⟩ := cT_X10_span (D := D) (tc := tc) (ro := ro) (oa := oa) hs hwf hg
    exact ⟨_, ⟨Nat.le_of_ble_eq_true rfl, Nat.le_of_ble_eq_true rfl, Nat.le_of_ble_eq_true rfl, Nat.le_of_ble_eq_true rfl⟩, rfl, h⟩
theorem G_X10_undo {l : Launch} {D : va_G} {tc : Nat → ClassId} {ro : Ro} {oa : Ky → Nat} {sh : Sh} {ln : Nat → Nat} {μ : Mm} (hwf : WfS sh) : CtG l D tc ro oa yX10_undo cX10_undo 1 (some .boolean) [.ref (oa (0, 0))] sh ln μ (fun x => some (.int x)) (lfA sh (f_X10_undoA sh ln μ)) := by
  intro r sh' ln' b kc ks hg0
  obtain ⟨v, rfl, h, rfl⟩ := lfA_of hg0
  exact ⟨_, ⟨Nat.le_of_ble_eq_true rfl, Nat.le_of_ble_eq_true rfl, Nat.le_succ _, Nat.le_add_right _ _⟩, (cA_X10_undo hwf h).toO⟩
theorem G_X10_back {l : Launch} {D : va_G} {tc : Nat → ClassId} {ro : Ro} {oa : Ky → Nat} {sh : Sh} {ln : Nat → Nat} {μ : Mm} (hwf : WfS sh) : CtG l D tc ro oa yX10_back cX10_back 1 (some .boolean) [.ref (oa (0, 0))] sh ln μ (fun x => some (.int x)) (lfA sh (f_X10_backA sh ln μ)) := by
  intro r sh' ln' b kc ks hg0
  obtain ⟨v, rfl, h, rfl⟩ := lfA_of hg0
  exact ⟨_, ⟨Nat.le_of_ble_eq_true rfl, Nat.le_of_ble_eq_true rfl, Nat.le_succ _, Nat.le_add_right _ _⟩, (cA_X10_back hwf h).toO⟩
theorem G_X10_treat {l : Launch} {D : va_G} {tc : Nat → ClassId} {ro : Ro} {oa : Ky → Nat} {sh : Sh} {ln : Nat → Nat} {μ : Mm} {v1 v2 v3 : Int32} (hs : l.stackTraces = false) (hwf : WfS sh) (h9 : sh 2 ((μ (0, 0) 9).toNatClampNeg) = 1) (h10 : sh 2 ((μ (0, 0) 10).toNatClampNeg) = 1) (hv : INV1 sh μ) : CtG l D tc ro oa yX10_treat cX10_treat 4 (some .int) [.ref (oa (0, 0)), .int v1, .int v2, .int v3] sh ln μ (fun x => some (.int x)) (g_X10_treat sh ln μ v1 v2 v3) := by
  intro r sh' ln' b kc ks hg
  rcases r with x | cn
  · exact ⟨_, ⟨Nat.le_of_ble_eq_true rfl, Nat.le_of_ble_eq_true rfl, Nat.le_succ _, Nat.le_add_right _ _⟩, cO_X10_treat hwf h9 h10 hv hg⟩
  · skip
    obtain ⟨⟨rfl, rfl, rfl, rfl, rfl⟩, h⟩ := cT_X10_treat (D := D) (tc := tc) (ro := ro) (oa := oa) hs hwf hg
    exact ⟨_, ⟨Nat.le_of_ble_eq_true rfl, Nat.le_of_ble_eq_true rfl, Nat.le_of_ble_eq_true rfl, Nat.le_of_ble_eq_true rfl⟩, rfl, h⟩
theorem G_X10_turn {l : Launch} {D : va_G} {tc : Nat → ClassId} {ro : Ro} {oa : Ky → Nat} {sh : Sh} {ln : Nat → Nat} {μ : Mm} {v1 v2 : Int32} (hs : l.stackTraces = false) (hwf : WfS sh) (h9 : sh 2 ((μ (0, 0) 9).toNatClampNeg) = 1) (h10 : sh 2 ((μ (0, 0) 10).toNatClampNeg) = 1) (hv : INV1 sh μ) : CtG l D tc ro oa yX10_turn cX10_turn 3 (some .int) [.ref (oa (0, 0)), .int v1, .int v2] sh ln μ (fun x => some (.int x)) (g_X10_turn sh ln μ v1 v2) := by
  intro r sh' ln' b kc ks hg
  rcases r with x | cn
  · exact ⟨_, ⟨Nat.le_of_ble_eq_true rfl, Nat.le_of_ble_eq_true rfl, Nat.le_succ _, Nat.le_add_right _ _⟩, cO_X10_turn hwf h9 h10 hv hg⟩
  · skip
    obtain ⟨⟨rfl, rfl, rfl, rfl, rfl⟩, h⟩ := cT_X10_turn (D := D) (tc := tc) (ro := ro) (oa := oa) hs hwf hg
    exact ⟨_, ⟨Nat.le_of_ble_eq_true rfl, Nat.le_of_ble_eq_true rfl, Nat.le_of_ble_eq_true rfl, Nat.le_of_ble_eq_true rfl⟩, rfl, h⟩
theorem G_X10_ask {l : Launch} {D : va_G} {tc : Nat → ClassId} {ro : Ro} {oa : Ky → Nat} {sh : Sh} {ln : Nat → Nat} {μ : Mm} {v1 : Int32} (hs : l.stackTraces = false) (hwf : WfS sh) (h9 : sh 2 ((μ (0, 0) 9).toNatClampNeg) = 1) (h10 : sh 2 ((μ (0, 0) 10).toNatClampNeg) = 1) (hv : INV1 sh μ) : CtG l D tc ro oa yX10_ask cX10_ask 2 (some .boolean) [.ref (oa (0, 0)), .int v1] sh ln μ (fun x => some (.int x)) (g_X10_ask sh ln μ v1) := by
  intro r sh' ln' b kc ks hg
  rcases r with x | cn
  · exact ⟨_, ⟨Nat.le_of_ble_eq_true rfl, Nat.le_of_ble_eq_true rfl, Nat.le_succ _, Nat.le_add_right _ _⟩, cO_X10_ask hwf h9 h10 hv hg⟩
  · skip
    obtain ⟨⟨rfl, rfl, rfl, rfl, rfl⟩, h⟩ := cT_X10_ask (D := D) (tc := tc) (ro := ro) (oa := oa) hs hwf hg
    exact ⟨_, ⟨Nat.le_of_ble_eq_true rfl, Nat.le_of_ble_eq_true rfl, Nat.le_of_ble_eq_true rfl, Nat.le_of_ble_eq_true rfl⟩, rfl, h⟩
theorem G_X10_day {l : Launch} {D : va_G} {tc : Nat → ClassId} {ro : Ro} {oa : Ky → Nat} {sh : Sh} {ln : Nat → Nat} {μ : Mm} (hs : l.stackTraces = false) (hwf : WfS sh) (h9 : sh 2 ((μ (0, 0) 9).toNatClampNeg) = 1) (h10 : sh 2 ((μ (0, 0) 10).toNatClampNeg) = 1) (hv : INV1 sh μ) : CtG l D tc ro oa yX10_day cX10_day 1 (some .int) [.ref (oa (0, 0))] sh ln μ (fun x => some (.int x)) (g_X10_day sh ln μ) := by
  intro r sh' ln' b kc ks hg
  rcases r with x | cn
  · exact ⟨_, ⟨Nat.le_of_ble_eq_true rfl, Nat.le_of_ble_eq_true rfl, Nat.le_succ _, Nat.le_add_right _ _⟩, cO_X10_day hwf h9 h10 hv hg⟩
  · skip
    unfold g_X10_day at hg
    exact (act_no hg).elim
theorem G_X10_read {l : Launch} {D : va_G} {tc : Nat → ClassId} {ro : Ro} {oa : Ky → Nat} {sh : Sh} {ln : Nat → Nat} {μ : Mm} {v1 : Int32} (hs : l.stackTraces = false) (hwf : WfS sh) (h9 : sh 2 ((μ (0, 0) 9).toNatClampNeg) = 1) (h10 : sh 2 ((μ (0, 0) 10).toNatClampNeg) = 1) (hv : INV1 sh μ) : CtG l D tc ro oa yX10_read cX10_read 2 (some .int) [.ref (oa (0, 0)), .int v1] sh ln μ (fun x => some (.int x)) (g_X10_read sh ln μ v1) := by
  intro r sh' ln' b kc ks hg
  rcases r with x | cn
  · exact ⟨_, ⟨Nat.le_of_ble_eq_true rfl, Nat.le_of_ble_eq_true rfl, Nat.le_succ _, Nat.le_add_right _ _⟩, cO_X10_read hwf h9 h10 hv hg⟩
  · skip
    obtain ⟨⟨rfl, rfl, rfl, rfl, rfl⟩, h⟩ := cT_X10_read (D := D) (tc := tc) (ro := ro) (oa := oa) hs hwf hg
    exact ⟨_, ⟨Nat.le_of_ble_eq_true rfl, Nat.le_of_ble_eq_true rfl, Nat.le_of_ble_eq_true rfl, Nat.le_of_ble_eq_true rfl⟩, rfl, h⟩
theorem G_X10_claim {l : Launch} {D : va_G} {tc : Nat → ClassId} {ro : Ro} {oa : Ky → Nat} {sh : Sh} {ln : Nat → Nat} {μ : Mm} {v1 v2 : Int32} (hs : l.stackTraces = false) (hwf : WfS sh) (h9 : sh 2 ((μ (0, 0) 9).toNatClampNeg) = 1) (h10 : sh 2 ((μ (0, 0) 10).toNatClampNeg) = 1) (hv : INV1 sh μ) : CtG l D tc ro oa yX10_claim cX10_claim 3 (some .int) [.ref (oa (0, 0)), .int v1, .int v2] sh ln μ (fun x => some (.int x)) (g_X10_claim sh ln μ v1 v2) := by
  intro r sh' ln' b kc ks hg
  rcases r with x | cn
  · exact ⟨_, ⟨Nat.le_of_ble_eq_true rfl, Nat.le_of_ble_eq_true rfl, Nat.le_succ _, Nat.le_add_right _ _⟩, cO_X10_claim hwf h9 h10 hv hg⟩
  · skip
    obtain ⟨⟨rfl, rfl, rfl, rfl, rfl⟩, h⟩ := cT_X10_claim (D := D) (tc := tc) (ro := ro) (oa := oa) hs hwf hg
    exact ⟨_, ⟨Nat.le_of_ble_eq_true rfl, Nat.le_of_ble_eq_true rfl, Nat.le_of_ble_eq_true rfl, Nat.le_of_ble_eq_true rfl⟩, rfl, h⟩
theorem G_X10_query {l : Launch} {D : va_G} {tc : Nat → ClassId} {ro : Ro} {oa : Ky → Nat} {sh : Sh} {ln : Nat → Nat} {μ : Mm} {v1 v2 v3 : Int32} (hs : l.stackTraces = false) (hwf : WfS sh) (h9 : sh 2 ((μ (0, 0) 9).toNatClampNeg) = 1) (h10 : sh 2 ((μ (0, 0) 10).toNatClampNeg) = 1) (hv : INV1 sh μ) : CtG l D tc ro oa yX10_query cX10_query 4 (some .int) [.ref (oa (0, 0)), .int v1, .int v2, .int v3] sh ln μ (fun x => some (.int x)) (g_X10_query sh ln μ v1 v2 v3) := by
  intro r sh' ln' b kc ks hg
  rcases r with x | cn
  · exact ⟨_, ⟨Nat.le_of_ble_eq_true rfl, Nat.le_of_ble_eq_true rfl, Nat.le_succ _, Nat.le_add_right _ _⟩, cO_X10_query hwf h9 h10 hv hg⟩
  · skip
    obtain ⟨⟨rfl, rfl, rfl, rfl, rfl⟩, h⟩ := cT_X10_query (D := D) (tc := tc) (ro := ro) (oa := oa) hs hwf hg
    exact ⟨_, ⟨Nat.le_of_ble_eq_true rfl, Nat.le_of_ble_eq_true rfl, Nat.le_of_ble_eq_true rfl, Nat.le_of_ble_eq_true rfl⟩, rfl, h⟩
theorem G_X10_stroll {l : Launch} {D : va_G} {tc : Nat → ClassId} {ro : Ro} {oa : Ky → Nat} {sh : Sh} {ln : Nat → Nat} {μ : Mm} {v1 : Int32} (hs : l.stackTraces = false) (hwf : WfS sh) (h9 : sh 2 ((μ (0, 0) 9).toNatClampNeg) = 1) (h10 : sh 2 ((μ (0, 0) 10).toNatClampNeg) = 1) (hv : INV1 sh μ) : CtG l D tc ro oa yX10_stroll cX10_stroll 2 (some .int) [.ref (oa (0, 0)), .int v1] sh ln μ (fun x => some (.int x)) (g_X10_stroll sh ln μ v1) := by
  intro r sh' ln' b kc ks hg
  rcases r with x | cn
  · exact ⟨_, ⟨Nat.le_of_ble_eq_true rfl, Nat.le_of_ble_eq_true rfl, Nat.le_succ _, Nat.le_add_right _ _⟩, cO_X10_stroll hwf h9 h10 hv hg⟩
  · skip
    obtain ⟨⟨rfl, rfl, rfl, rfl, rfl⟩, h⟩ := cT_X10_stroll (D := D) (tc := tc) (ro := ro) (oa := oa) hs hwf hg
    exact ⟨_, ⟨Nat.le_of_ble_eq_true rfl, Nat.le_of_ble_eq_true rfl, Nat.le_of_ble_eq_true rfl, Nat.le_of_ble_eq_true rfl⟩, rfl, h⟩
theorem G_X10_image {l : Launch} {D : va_G} {tc : Nat → ClassId} {ro : Ro} {oa : Ky → Nat} {sh : Sh} {ln : Nat → Nat} {μ : Mm} (hs : l.stackTraces = false) (hwf : WfS sh) (h9 : sh 2 ((μ (0, 0) 9).toNatClampNeg) = 1) (h10 : sh 2 ((μ (0, 0) 10).toNatClampNeg) = 1) (hv : INV1 sh μ) : CtG l D tc ro oa yX10_image cX10_image 1 none [.ref (oa (0, 0))] sh ln μ (fun _ => none) (g_X10_image sh ln μ) := by
  intro r sh' ln' b kc ks hg
  rcases r with x | cn
  · exact ⟨_, ⟨Nat.le_of_ble_eq_true rfl, Nat.le_of_ble_eq_true rfl, Nat.le_succ _, Nat.le_add_right _ _⟩, cO_X10_image hwf h9 h10 hv hg⟩
  · skip
    unfold g_X10_image at hg
    obtain ⟨x1, -, hg⟩ := bd_of hg
    obtain ⟨kc1, ks1, hg, -, -⟩ := addc_of hg
    obtain ⟨-, hg⟩ := ce_of hg
    obtain ⟨y1, -, hg⟩ := bd_of hg
    obtain ⟨kc2, ks2, hg, -, -⟩ := addc_of hg
    cases hg
theorem G_X10_law {l : Launch} {D : va_G} {tc : Nat → ClassId} {ro : Ro} {oa : Ky → Nat} {sh : Sh} {ln : Nat → Nat} {μ : Mm} (hs : l.stackTraces = false) (hwf : WfS sh) (hsm : sh 4 2 + 1 < 2 ^ 31) (hno : ∀ x4 x12 x16 x22, f_X7_use sh ln μ = some x4 → f_X8_open_1 sh ln x4.2 x4.1 = some x12 → f_X3_startAnew sh ln x12 = some x16 → f_X8_readLines_1 sh ln x16 (12 : Int32) = some x22 → NOL sh x22.2) : CtG l D tc ro oa yX10_law cX10_law 3 (some .int) [.ref (oa (0, 0))] sh ln μ (fun x => some (.int x)) (lfL ln (g_X10_law sh ln μ)) := by
  intro r sh' ln' b kc ks hg0
  obtain ⟨hg, rfl⟩ := lfL_of hg0
  rcases r with x | cn
  · exact ⟨_, ⟨Nat.le_of_ble_eq_true rfl, Nat.le_of_ble_eq_true rfl, Nat.le_succ _, Nat.le_add_right _ _⟩, cO_X10_law hwf hsm hno hg⟩
  · skip
    obtain ⟨⟨rfl, rfl, rfl⟩, h⟩ := cT_X10_law (D := D) (tc := tc) (ro := ro) (oa := oa) hs hwf hg
    exact ⟨_, ⟨Nat.le_of_ble_eq_true rfl, Nat.le_of_ble_eq_true rfl, Nat.le_of_ble_eq_true rfl, Nat.le_of_ble_eq_true rfl⟩, rfl, h⟩
