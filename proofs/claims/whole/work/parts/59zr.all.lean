-- all that asks: one call of both; a new object
section ALLS
variable {sh : Sh} {ln : Nat → Nat} {μq μk : Mm} {V n N w0 : Nat} {r : Nat → Int32} {Λo : Option LW} {j d t c z : Nat} {T : Nat → Nat} {md : Nat → Nat}
theorem s_gives (h : RLL sh ln μq μk V n N w0 r Λo j d t c T z) (v : Int32) : STP (f_X11_gives μq v) (lf0 sh ln (g_X10_gives sh ln μk v)) sh ln mdI := (x_gives h.1.1 h.1.2.1 h.2.2.1.1 h.nw v).stp h
theorem s_never (h : RLL sh ln μq μk V n N w0 r Λo j d t c T z) (v : Int32) : STP (f_X11_never μq v) (lf0 sh ln (g_X10_never sh ln μk v)) sh ln mdI := (x_never h.1.1 h.1.2.1 h.2.2.1.1 h.nw v).stp h
theorem s_backs (h : RLL sh ln μq μk V n N w0 r Λo j d t c T z) (v : Int32) : STP (f_X11_backs μq v) (lf0 sh ln (g_X10_backs sh ln μk v)) sh ln mdI := (x_backs h.1.1 h.1.2.1 h.2.2.1.1 h.nw v).stp h
theorem s_question (h : RLL sh ln μq μk V n N w0 r Λo j d t c T z) (v : Int32) : STP (f_X11_question μq v) (lf0 sh ln (g_X10_question sh ln μk v)) sh ln mdI := (x_question h.1.1 h.1.2.1 h.2.2.1.1 h.nw v).stp h
theorem s_spill (h : RLL sh ln μq μk V n N w0 r Λo j d t c T z) (v : Int32) : STP (f_X11_spill μq v) (lf0 sh ln (g_X10_spill sh ln μk v)) sh ln mdI := (x_spill h.1.1 h.1.2.1 h.2.2.1.1 h.nw v).stp h
theorem s_common (h : RLL sh ln μq μk V n N w0 r Λo j d t c T z) (v : Int32) : STP (f_X11_common μq v) (lf0 sh ln (g_X10_common sh ln μk v)) sh ln mdI := (x_common h.1.1 h.1.2.1 h.2.2.1.1 h.nw v).stp h
theorem s_queries (h : RLL sh ln μq μk V n N w0 r Λo j d t c T z) (v : Int32) : STP (f_X11_queries μq v) (lf0 sh ln (g_X10_queries sh ln μk v)) sh ln mdI := (x_queries h.1.1 h.1.2.1 h.2.2.1.1 h.nw v).stp h
theorem s_muddy (h : RLL sh ln μq μk V n N w0 r Λo j d t c T z) (v : Int32) : STP (f_X11_muddy μq v) (lf0 sh ln (g_X10_muddy sh ln μk v)) sh ln mdI := (x_muddy h.1.1 h.1.2.1 h.2.2.1.1 h.nw v).stp h
theorem s_right (h : RLL sh ln μq μk V n N w0 r Λo j d t c T z) (v : Int32) : STP (f_X11_right μq v) (lf0 sh ln (g_X10_right sh ln μk v)) sh ln mdI := (x_right h.1.1 h.1.2.1 h.2.2.1.1 h.nw v).stp h
theorem s_married (h : RLL sh ln μq μk V n N w0 r Λo j d t c T z) (v : Int32) : STP (f_X11_married μq v) (lf0 sh ln (g_X10_married sh ln μk v)) sh ln mdI := (x_married h.1.1 h.1.2.1 h.2.2.1.1 h.nw v).stp h
theorem s_game (h : RLL sh ln μq μk V n N w0 r Λo j d t c T z) (v : Int32) (whom : Bool) : STP (f_X11_game μq v (bI whom)) (lf0 sh ln (g_X10_game sh ln μk v (bI whom))) sh ln mdI := (x_game h.1.1 h.1.2.1 h.2.2.1.1 h.nw v whom).stp h
theorem s_guess (h : RLL sh ln μq μk V n N w0 r Λo j d t c T z) (v : Int32) : STP (f_X11_guess μq v) (lf0 sh ln (g_X10_guess sh ln μk v)) sh ln mdI := (x_guess h.1.1 h.1.2.1 h.2.2.1.1 h.nw v).stp h
theorem s_led (h : RLL sh ln μq μk V n N w0 r Λo j d t c T z) (v : Int32) : STP (f_X11_led μq v) (lf0 sh ln (g_X10_led sh ln μk v)) sh ln mdI := (x_led h.1.1 h.1.2.1 h.2.2.1.1 h.nw v).stp h
theorem s_nth (h : RLL sh ln μq μk V n N w0 r Λo j d t c T z) (v w : Int32) : STP (f_X11_nth μq v w) (lf0 sh ln (g_X10_nth sh ln μk v w)) sh ln mdI := (x_nth h.1.1 h.1.2.1 h.2.2.1.1 h.nw v w).stp h
theorem s_left (h : RLL sh ln μq μk V n N w0 r Λo j d t c T z) (v : Int32) : STP (f_X11_left μq v) (lf0 sh ln (g_X10_left sh ln μk v)) sh ln mdI := (x_left h.1.1 h.1.2.1 h.2.2.1.1 h.nw v).stp h
theorem s_steps (h : RLL sh ln μq μk V n N w0 r Λo j d t c T z) (v1 v2 : Int32) : STP (f_X11_steps μq v1 v2) (lf0 sh ln (g_X10_steps sh ln μk v1 v2)) sh ln mdI := (x_steps h.1.1 h.1.2.1 h.2.2.1.1 h.nw v1 v2).stp h
theorem s_possible (h : RLL sh ln μq μk V n N w0 r Λo j d t c T z) (v1 v2 : Int32) : STP (f_X11_possible μq v1 v2) (lf0 sh ln (g_X10_possible sh ln μk v1 v2)) sh ln mdI := (x_possible h.1.1 h.1.2.1 h.2.2.1.1 h.nw v1 v2).stp h
theorem s_knows (h : RLL sh ln μq μk V n N w0 r Λo j d t c T z) (v1 v2 : Int32) : STP (f_X11_knows μq v1 v2) (lf0 sh ln (g_X10_knows sh ln μk v1 v2)) sh ln mdI := (x_knows h.1.1 h.1.2.1 h.2.2.1.1 h.nw v1 v2).stp h
theorem s_thinks (h : RLL sh ln μq μk V n N w0 r Λo j d t c T z) (v1 v2 v3 : Int32) : STP (f_X11_thinks μq v1 v2 v3) (lf0 sh ln (g_X10_thinks sh ln μk v1 v2 v3)) sh ln mdI := (x_thinks h.1.1 h.1.2.1 h.2.2.1.1 h.nw v1 v2 v3).stp h
theorem s_apart (h : RLL sh ln μq μk V n N w0 r Λo j d t c T z) (v1 v2 v3 : Int32) : STP (f_X11_apart μq v1 v2 v3) (lf0 sh ln (g_X10_apart sh ln μk v1 v2 v3)) sh ln mdIS := (x_apart h.1.1 h.1.2.1 h.2.2.1.1 h.nw v1 v2 v3).stp h
theorem s_sure (h : RLL sh ln μq μk V n N w0 r Λo j d t c T z) (v1 v2 : Int32) : STP (f_X11_sure μq v1 v2) (lf0 sh ln (g_X10_sure sh ln μk v1 v2)) sh ln mdIS := (x_sure h.1.1 h.1.2.1 h.2.2.1.1 h.nw v1 v2).stp h
theorem s_manner (h : RLL sh ln μq μk V n N w0 r Λo j d t c T z) (v1 v2 v3 : Int32) : STP (f_X11_manner μq v1 v2 v3) (lf0 sh ln (g_X10_manner sh ln μk v1 v2 v3)) sh ln mdIAS := (x_manner h.1.1 h.1.2.1 h.2.2.1.1 h.nw v1 v2 v3).stp h
theorem s_person (h : RLL sh ln μq μk V n N w0 r Λo j d t c T z) (v1 v2 : Int32) : STP (f_X11_person μq v1 v2) (lf0 sh ln (g_X10_person sh ln μk v1 v2)) sh ln mdIN := (x_person h.1.1 h.1.2.1 h.2.2.1.1 h.nw v1 v2).stp h
theorem s_log (h : RLL sh ln μq μk V n N w0 r Λo j d t c T z) (v1 v2 : Int32) : STP (f_X11_log μq v1 v2) (lf0 sh ln (g_X10_log sh ln μk v1 v2)) sh ln mdN := (x_log h.1.1 h.1.2.1 h.2.2.1.1 h.nw v1 v2).stp h
theorem s_widest (h : RLL sh ln μq μk V n N w0 r Λo j d t c T z)  : STP (f_X11_widest μq) (lfn sh ln (wr μk (f_X10_widest sh ln μk))) sh ln md := (x_widest h.1.1 h.1.2.1 h.2.2.1.1 h.nw ).stp h
theorem s_under (h : RLL sh ln μq μk V n N w0 r Λo j d t c T z)  : STP (f_X11_under μq) (lfn sh ln (wr μk (f_X10_under sh ln μk))) sh ln md := (x_under h.1.1 h.1.2.1 h.2.2.1.1 h.nw ).stp h
theorem s_quiet (h : RLL sh ln μq μk V n N w0 r Λo j d t c T z)  : STP (f_X11_quiet μq) (lfn sh ln (f_X10_quiet sh ln μk)) sh ln md := (x_quiet h.1.1 h.1.2.1 h.2.2.1.1 h.nw ).stp h
theorem s_count (h : RLL sh ln μq μk V n N w0 r Λo j d t c T z) (v : Int32) : STP (f_X11_count μq v) (lfn sh ln (wr μk (f_X10_count sh ln μk v))) sh ln md := (x_count h.1.1 h.1.2.1 h.2.2.1.1 h.nw (by rw [h.2.2.2.2.1.2.2.1, h.2.2.2.2.1.2.2.2.2]) v).stp h
end ALLS
/-- the reference's row as it begins -/
def ini : Nat → Int32 := fun k => if k = 0 then nI 2 else if k = 5 then nI 1 else if k = 10 then nI 1 else if k = 20 then nI 1 else nI 0
theorem ini_0 {k : Nat} (h0 : k ≠ 0) (h5 : k ≠ 5) (h10 : k ≠ 10) (h20 : k ≠ 20) : ini k = nI 0 := by
  unfold ini
  rw [if_neg h0, if_neg h5, if_neg h10, if_neg h20]
theorem ini_lf : lf ini 0 = true := by decide +kernel
theorem ini_WF : WF 2 0 1 0 ini := by
  refine ⟨⟨by omega, by omega, rfl, by omega, by omega, by omega⟩, ⟨rfl, rfl, rfl, rfl⟩, fun w hw => ?_, ini_lf, fun p w hp => absurd hp (Nat.not_lt_zero _), fun p hp => absurd hp (Nat.not_lt_zero _), ⟨0, by omega, rfl⟩, Or.inl rfl, Or.inl rfl, Or.inl rfl⟩
  rw [show w = 0 by omega, ini_lf]
  rfl
/-- a new object and the reference's -/
theorem base_rel {sh : Sh} {ln : Nat → Nat} {μq μk : Mm} (hsh : ∀ s, sh 2 s = if s < 2 then 1 else 0) (hL : LN ln) (hfr : ∀ s, s < 11 → frl ln s = true) (hhi : ∀ c, 70 ≤ c → ln c = 0)
    (hq1 : μq (1, 0) = ini) (hq11 : ∀ i, i < 400 → μq (11, 0) i = 0) (h6 : μq (0, 0) 6 = 0) (h7 : μq (0, 0) 7 = 0) (h12 : μq (0, 0) 12 = 0) (h17 : μq (0, 0) 17 = -nI 1)
    (hk0 : ∀ i, μk (0, 0) i = if i = 10 then nI 1 else if i = 12 then -nI 1 else nI 0) (hk2 : μk (2, 0) 1 = nI 0) (hk12 : ∀ i, i < 400 → μk (12, 0) i = nI 0)
    (hkS : ∀ i, μk (13, 0) i = if i = 0 then nI 2 else if i = 2 ∨ i = 5 then nI 1 else nI 0) (hkL : μk (12, 17) 0 = nI 1) :
    RLL sh ln μq μk 2 0 1 0 ini none 0 1 0 0 (fun _ => 0) 0 := by
  have hf : ∀ s, s < 11 → ln (15 + 5 * s + 0) = 9 ∧ ln (15 + 5 * s + 1) = 9 ∧ ln (15 + 5 * s + 2) = 1 ∧ ln (15 + 5 * s + 3) = 0 ∧ ln (15 + 5 * s + 4) = 0 := fun s hs => by
    have := hfr s hs
    unfold frl at this
    exact of_decide_eq_true this
  have f0 := hf 0 (by omega)
  have hS : STR sh ln μk 0 2 0 1 0 ini none := by
    refine ⟨⟨ini_WF, ⟨by rw [hkS]; rfl, by rw [hkS]; rfl, by rw [hkS]; rfl, by rw [hkS]; rfl⟩, ⟨⟨by omega, by omega, by omega, by omega⟩, fun i hi => ?_⟩, fun p hp => absurd hp (Nat.not_lt_zero _), fun w hw => ?_, fun p w hp => absurd hp (Nat.not_lt_zero _)⟩, ⟨by rw [hkS]; rfl, 0, by omega, by rw [hkS]; rfl, Or.inl rfl, fun i cc hi => absurd hi (Nat.not_lt_zero _)⟩, ?_, rfl, by rw [hkS]; rfl, by rw [hkS]; rfl, by rw [hkS]; rfl, by rw [hkS]; rfl⟩
    · have : i = 0 ∨ i = 1 ∨ i = 2 ∨ i = 3 ∨ i = 4 := by omega
      rcases this with e | e | e | e | e <;> rw [e] <;> omega
    · rw [show w = 0 by omega]
      exact hkL
    · show μk (13, 0) 8 = nI 0
      rw [hkS]; rfl
  refine ⟨⟨⟨hq1, ini_WF⟩, hS, fun _ => ⟨fun i h1 h2 => ini_0 (by omega) (by omega) (by omega) (by omega), fun i h1 h2 => ini_0 (by omega) (by omega) (by omega) (by omega)⟩, 0, by omega, rfl⟩, ⟨⟨by rw [hk0]; rfl, by rw [hk0]; rfl, by omega, by omega, by omega, by rw [hsh]; rfl, by rw [hsh]; rfl⟩, by omega, by omega⟩, ⟨hL, fun cc hc => ?_, fun j hj => ?_⟩, ⟨by omega, fun _ => by show 0 < 256; omega, hk2, h12, hk12, fun i hi => by rw [hq11 i hi]; exact (show (0 : Int32) = sgn 0 by decide +kernel)⟩, ⟨by rw [hk0]; rfl, by omega, by rw [hk0]; rfl, by omega, h7⟩, fun i hi => by omega, Or.inl ⟨h6, by rw [hsh]; rfl⟩, by rw [hk0, h17]; rfl, fun s => ?_, fun s h2 h11 _ => hfr s h11⟩
  · by_cases c1 : 70 ≤ cc
    · exact Or.inl (hhi cc c1)
    · have f := hf ((cc - 15) / 5) (by omega)
      have e5 : (cc - 15) % 5 = 0 ∨ (cc - 15) % 5 = 1 ∨ (cc - 15) % 5 = 2 ∨ (cc - 15) % 5 = 3 ∨ (cc - 15) % 5 = 4 := by omega
      rcases e5 with e | e | e | e | e
      · rw [show cc = 15 + 5 * ((cc - 15) / 5) + 0 by omega, f.1]; exact Or.inr (by decide)
      · rw [show cc = 15 + 5 * ((cc - 15) / 5) + 1 by omega, f.2.1]; exact Or.inr (by decide)
      · rw [show cc = 15 + 5 * ((cc - 15) / 5) + 2 by omega, f.2.2.1]; exact Or.inr (by decide)
      · rw [show cc = 15 + 5 * ((cc - 15) / 5) + 3 by omega, f.2.2.2.1]; exact Or.inl rfl
      · rw [show cc = 15 + 5 * ((cc - 15) / 5) + 4 by omega, f.2.2.2.2]; exact Or.inl rfl
  · have f := hf j hj
    omega
  · rw [hsh]
    by_cases c : s < 2
    · rw [if_pos c]; exact Or.inr rfl
    · rw [if_neg c]; exact Or.inl rfl
/-- what a new object may still cost -/
theorem base_cost (sh : Sh) (ln : Nat → Nat) : POc sh ln ≤ 2011 ∧ POs sh ln ≤ 880970 := by
  have h1 : PC ln ≤ 70 * 27 := smN_le (fun k _ => by
    have : pcL SZ (ln k) ≤ pcL SZ 0 := pcL_mono (Nat.zero_le _)
    have e : pcL SZ 0 = 27 := by decide
    omega)
  have h2 : PS ln ≤ 70 * 12579 := smN_le (fun k _ => by
    have : psL SZ (ln k) ≤ psL SZ 0 := psL_mono (Nat.zero_le _)
    have e : psL SZ 0 = 12579 := by decide
    omega)
  have h3 : smN 11 (fun s => if sh 2 s = 0 then 11 else 0) ≤ 11 * 11 := smN_le (fun k _ => by split <;> omega)
  have h4 : smN 11 (fun s => if sh 2 s = 0 then 40 else 0) ≤ 11 * 40 := smN_le (fun k _ => by split <;> omega)
  unfold POc POs
  omega

