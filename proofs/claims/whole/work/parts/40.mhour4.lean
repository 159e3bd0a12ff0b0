/-! an hour in the model -/
theorem leastF_ok {pl : Nat} {l : Int64} (hV : VO pl l) {a : Nat} (ha8 : a < 8) (ha : a < pl) : ∀ (f p : Nat), f + p ≤ 32 → ∃ i, i < pl ∧ leastF (nb l (nI a)) (nI a) f p = nI i
  | 0, _, _ => ⟨a, ha, rfl⟩
  | f + 1, p, h => by
    unfold leastF
    by_cases hb : bt (nb l (nI a)) p = true
    · rw [if_pos ((bt_shr (by omega)).mpr hb)]
      refine ⟨p, ?_, rfl⟩
      rcases Nat.lt_or_ge p pl with h | h
      · exact h
      · rw [nb_off hV ha8 h (by omega)] at hb
        cases hb
    · rw [if_neg (fun q => hb ((bt_shr (by omega)).mp q))]
      exact leastF_ok hV ha8 ha f (p + 1) (by omega)
theorem greatF_ok {pl : Nat} {l : Int64} (hV : VO pl l) {a : Nat} (ha8 : a < 8) (ha : a < pl) : ∀ (p : Nat), p ≤ 32 → ∃ i, i < pl ∧ greatF (nb l (nI a)) (nI a) p = nI i
  | 0, _ => ⟨a, ha, rfl⟩
  | p + 1, h => by
    unfold greatF
    by_cases hb : bt (nb l (nI a)) p = true
    · rw [if_pos ((bt_shr (by omega)).mpr hb)]
      refine ⟨p, ?_, rfl⟩
      rcases Nat.lt_or_ge p pl with h | h
      · exact h
      · rw [nb_off hV ha8 h (by omega)] at hb
        cases hb
    · rw [if_neg (fun q => hb ((bt_shr (by omega)).mp q))]
      exact greatF_ok hV ha8 ha p (by omega)
theorem stepF_ok {pl : Nat} {l : Int64} (hV : VO pl l) {a : Nat} (ha8 : a < 8) (ha : a < pl) (A : Nat → Int32) (to dist : Int32) : ∀ (f p : Nat), f + p ≤ 32 → ∃ i, i < pl ∧ stepF A (nb l (nI a)) (nI a) to dist f p = nI i
  | 0, _, _ => ⟨a, ha, rfl⟩
  | f + 1, p, h => by
    unfold stepF
    by_cases hb : bt (nb l (nI a)) p = true ∧ farS A (nI p) to = dist - 1
    · rw [if_pos ⟨(bt_shr (by omega)).mpr hb.1, hb.2⟩]
      refine ⟨p, ?_, rfl⟩
      rcases Nat.lt_or_ge p pl with h | h
      · exact h
      · have := hb.1
        rw [nb_off hV ha8 h (by omega)] at this
        cases this
    · rw [if_neg (fun q => hb ⟨(bt_shr (by omega)).mp q.1, q.2⟩)]
      exact stepF_ok hV ha8 ha A to dist f (p + 1) (by omega)
theorem whtS_ok {pl : Nat} {l : Int64} (hV : VO pl l) {a : Nat} (ha : a < pl) (A : Nat → Int32) (wr to ch : Int32) : ∃ i, i < pl ∧ whtS l l A wr to (nI a) ch = nI i := by
  have ha8 : a < 8 := by have := hV.1; omega
  unfold whtS
  split
  · exact leastF_ok hV ha8 ha 8 0 (by decide)
  · split
    · exact greatF_ok hV ha8 ha 8 (by decide)
    · unfold stepS
      split
      · exact ⟨a, ha, rfl⟩
      · exact stepF_ok hV ha8 ha A to _ 8 0 (by decide)
theorem stR_stR (s : SV) (j : Nat) (f g : Nat → Int32) : stR (stR s j f) j g = stR s j g := by
  unfold stR
  simp only [Prod.mk.injEq, true_and]
  funext i
  by_cases h : i = j <;> simp [h]
theorem stR_at (s : SV) (j : Nat) (f : Nat → Int32) : (stR s j f).2.2 j = f := if_pos rfl
theorem stR_ne (s : SV) {i j : Nat} (f : Nat → Int32) (h : i ≠ j) : (stR s j f).2.2 i = s.2.2 i := if_neg h
theorem stR_self (s : SV) (j : Nat) : stR s j (s.2.2 j) = s := by
  obtain ⟨a, b, r⟩ := s
  unfold stR
  simp only [Prod.mk.injEq, true_and]
  funext i
  by_cases h : i = j <;> simp [h]
theorem upd_self (f : Nat → Int32) (k : Nat) : upd f k (f k) = f := by
  funext i
  by_cases h : i = k
  · subst h
    rw [upd_at]
  · rw [upd_ne _ _ h]
theorem VS_at {pl np ns : Nat} {s : SV} (h : VS pl np ns s) (g : Nat) {v : Int32} (hv : v = -1 ∨ ∃ i, i < pl ∧ v = nI i) : VS pl np ns (stR s 5 (upd (s.2.2 5) g v)) := by
  refine ⟨h.1, fun p hp => ?_, fun k hk => ?_⟩
  · rw [stR_ne _ _ (by decide)]
    exact h.2.1 p hp
  · rw [stR_at]
    by_cases hq : k = g
    · subst hq
      rw [upd_at]
      exact hv
    · rw [upd_ne _ _ hq]
      exact h.2.2 k hk
theorem VS_cong {pl np ns : Nat} {s t : SV} (h : VS pl np ns s) (h1 : t.2.1 = s.2.1) (h2 : t.2.2 0 = s.2.2 0) (h3 : t.2.2 5 = s.2.2 5) : VS pl np ns t := by
  refine ⟨?_, fun p hp => ?_, fun k hk => ?_⟩
  · rw [h1]; exact h.1
  · rw [h2]; exact h.2.1 p hp
  · rw [h3]; exact h.2.2 k hk
theorem couS_o (g : Nat) (ch : Int32) (s : SV) : (couS g ch s).2.1 = s.2.1 ∧ (couS g ch s).2.2 0 = s.2.2 0 ∧ (couS g ch s).2.2 5 = s.2.2 5 ∧ (couS g ch s).1 = s.1 := by
  unfold couS
  split
  · exact ⟨rfl, rfl, rfl, rfl⟩
  · exact ⟨rfl, rfl, rfl, rfl⟩
/-- a walk -/
def walS (w : TW) (wr : Int32) (g : Nat) (ch : Int32) (s : SV) : SV := stR (couS g ch s) 5 (upd ((couS g ch s).2.2 5) g (whtS (couS g ch s).2.1 s.2.1 (dst s.2.1) wr (w.2.2 3 g) ((couS g ch s).2.2 5 g) ch))
section MHOUR4
variable {L : Nat} {xs : Nat → Int32} {sh : List Sh} {x : ST} {m : MM} {w : TW} {pl np ns : Nat} {wr : Int32} {s : SV} {R : Option ((Nat → Int32) → Int64)}
theorem v_walksM (d : Nat) [NeZero d] (hM : isMo sh) (hT : VT w pl np ns) (hS : MSt m w pl np ns wr) (hO : MOp m s.2.1) (hV : VS pl np ns s) (hD : Mdy m np ns s) (hR : RuM L xs sh x m R) {g : Nat} (hg : g < ns) {a : Nat} (ha : a < pl) (hat : s.2.2 5 g = nI a) : ∃ m', MF m m' ∧ Mdy m' np ns (walS w wr g (chS R w s np (farS (dst s.2.1)) g) s) ∧ m'.2.1 37 = upd (m.2.1 37) g (chS R w s np (farS (dst s.2.1)) g) ∧ cV (ZZ L xs) (d + 6) mX13_walks [.ref 259, .int (nI g)] (HP sh (pM x m)) = some (HP sh (pM x m')) := by
  obtain ⟨p2, p8, hw0, ⟨tm, tm1, tm30, htm⟩, ⟨hn, hn6, hs, hs5⟩, hst⟩ := id hT
  obtain ⟨s0, s1, s2, s3, s4, s5⟩ := id hS
  obtain ⟨J, hJ⟩ := i_whomM (L := L) (xs := xs) (x := x) (R := R) d hM hT hS hO hV hD hR hg ha hat
  have hch : chS R w s np (farS (dst s.2.1)) g = -1 ∨ ∃ j, j < np ∧ chS R w s np (farS (dst s.2.1)) g = nI j := by
    rcases chF_in s g (worthS R w s np (farS (dst s.2.1)) g) np 0 (if R = none then -1 else 0) (-1) (Or.inl rfl) with q | ⟨j, hj, q⟩
    · exact Or.inl q
    · exact Or.inr ⟨j, by omega, q⟩
  generalize chS R w s np (farS (dst s.2.1)) g = ch at hch hJ ⊢
  obtain ⟨-, ⟨b, hb, hto⟩, -⟩ := hst g hg
  have hwh : m.2.1 6 g = nI a := (Md_where hD hg).trans hat
  have hto' : m.2.1 11 g = nI b := (s5 g hg).2.1.trans hto
  suffices h : ∃ m', MF m m' ∧ Mdy m' np ns (walS w wr g ch s) ∧ m'.2.1 37 = upd (m.2.1 37) g ch ∧ CL (ZZ L xs) (d + 6) mX13_walks [.ref 259, .int (nI g)] (HP sh (pM x m)) = some (HP sh (pM x m'), none) by
    obtain ⟨m', q1, q2, q3, q4⟩ := h
    refine ⟨m', q1, q2, q3, ?_⟩
    unfold cV
    rw [q4]
    rfl
  show ∃ m', MF m m' ∧ Mdy m' np ns (walS w wr g ch s) ∧ m'.2.1 37 = upd (m.2.1 37) g ch ∧ RS (ZZ L xs) (d + 6) mX13_walks 0 [some (.ref 259), some (.int (nI g)), none] [] _ = _
  rw [bX13_walks_0, M_is hM, some_bind', hJ, some_bind']
  simp (disch := omega) only [M_thrown hM, Mw_thrown hM, M_taped hM, Mw_taped hM, M_p hM, Mw_p hM, M_fault hM, Mw_fault hM, M_slot hM, Mw_slot hM, M_rules hM, Mw_rules hM, M_entries hM, Mw_entries hM, M_deep hM, Mw_deep hM, M_counted hM, Mw_counted hM, M_opened hM, Mw_opened hM, M_words hM, Mw_words hM, M_pastMany hM, Mw_pastMany hM, M_pastAt hM, Mw_pastAt hM, Mw_takesBack hM, M_imageAt hM, Mw_imageAt hM, Mw_goesBack hM, M_scalar hM, Me_scalar hM, Mu_scalar hM, Ml_scalar hM, M_at hM, Me_at hM, Mu_at hM, Ml_at hM, M_kind hM, Me_kind hM, Mu_kind hM, Ml_kind hM, M_asks hM, Me_asks hM, Mu_asks hM, Ml_asks hM, M_askedAll hM, Me_askedAll hM, Mu_askedAll hM, Ml_askedAll hM, M_chains hM, Me_chains hM, Mu_chains hM, Ml_chains hM, M_where hM, Me_where hM, Mu_where hM, Ml_where hM, M_knows hM, Me_knows hM, Mu_knows hM, Ml_knows hM, M_open hM, Me_open hM, Mu_open hM, Ml_open hM, M_wrong hM, Me_wrong hM, Mu_wrong hM, Ml_wrong hM, M_from hM, Me_from hM, Mu_from hM, Ml_from hM, M_to hM, Me_to hM, Mu_to hM, Ml_to hM, M_every hM, Me_every hM, Mu_every hM, Ml_every hM, M_noteHour hM, Me_noteHour hM, Mu_noteHour hM, Ml_noteHour hM, M_noteWho hM, Me_noteWho hM, Mu_noteWho hM, Ml_noteWho hM, M_noteWhom hM, Me_noteWhom hM, Mu_noteWhom hM, Ml_noteWhom hM, M_toldAt hM, Me_toldAt hM, Mu_toldAt hM, Ml_toldAt hM, M_toldKind hM, Me_toldKind hM, Mu_toldKind hM, Ml_toldKind hM, M_toldStreets hM, Me_toldStreets hM, Mu_toldStreets hM, Ml_toldStreets hM, M_newScalar hM, Me_newScalar hM, Mu_newScalar hM, Ml_newScalar hM, M_newAt hM, Me_newAt hM, Mu_newAt hM, Ml_newAt hM, M_newKind hM, Me_newKind hM, Mu_newKind hM, Ml_newKind hM, M_newWrong hM, Me_newWrong hM, Mu_newWrong hM, Ml_newWrong hM, M_newFrom hM, Me_newFrom hM, Mu_newFrom hM, Ml_newFrom hM, M_newTo hM, Me_newTo hM, Mu_newTo hM, Ml_newTo hM, M_newEvery hM, Me_newEvery hM, Mu_newEvery hM, Ml_newEvery hM, M_newStreets hM, Me_newStreets hM, Mu_newStreets hM, Ml_newStreets hM, M_tape hM, Me_tape hM, Mu_tape hM, Ml_tape hM, M_sort hM, Me_sort hM, Mu_sort hM, Ml_sort hM, M_number hM, Me_number hM, Mu_number hM, Ml_number hM, M_clauses hM, Me_clauses hM, Mu_clauses hM, Ml_clauses hM, M_sumAt hM, Me_sumAt hM, Mu_sumAt hM, Ml_sumAt hM, M_testAt hM, Me_testAt hM, Mu_testAt hM, Ml_testAt hM, M_endAt hM, Me_endAt hM, Mu_endAt hM, Ml_endAt hM, M_openAt hM, Me_openAt hM, Mu_openAt hM, Ml_openAt hM, M_asked hM, Me_asked hM, Mu_asked hM, Ml_asked hM, M_stack hM, Me_stack hM, Mu_stack hM, Ml_stack hM, M_gone hM, Me_gone hM, Mu_gone hM, Ml_gone hM, M_past hM, Me_past hM, Mu_past hM, Ml_past hM, M_pastOf hM, Me_pastOf hM, Mu_pastOf hM, Ml_pastOf hM, M_plays hM, Me_plays hM, Mu_plays hM, Ml_plays hM, M_firstHas hM, Me_firstHas hM, Mu_firstHas hM, Ml_firstHas hM, M_secondHas hM, Me_secondHas hM, Mu_secondHas hM, Ml_secondHas hM, M_lay hM, Me_lay hM, Mu_lay hM, Ml_lay hM, M_shows hM, Me_shows hM, Mu_shows hM, Ml_shows hM, M_images hM, Me_images hM, Mu_images hM, Ml_images hM, M_isMade hM, Me_isMade hM, Mu_isMade hM, Ml_isMade hM, M_is hM, mA_1, mA_L, mA_eq, mA_ne, mL_1, mL_A, mL_eq, mL_ne, mI_A, mI_eq, mI_ne, eI_l0, eL_l0, eB_l0, wI_l0, wL_l0, wB_l0, eR_l0, eI_l1, eL_l1, eB_l1, wI_l1, wL_l1, wB_l1, eR_l1, eI_l2, eL_l2, eB_l2, wI_l2, wL_l2, wB_l2, eR_l2, eI_l3, eL_l3, eB_l3, wI_l3, wL_l3, wB_l3, eR_l3, eI_l4, eL_l4, eB_l4, wI_l4, wL_l4, wB_l4, eR_l4, eI_l5, eL_l5, eB_l5, wI_l5, wL_l5, wB_l5, eR_l5, eI_l6, eL_l6, eB_l6, wI_l6, wL_l6, wB_l6, eR_l6, eI_l7, eL_l7, eB_l7, wI_l7, wL_l7, wB_l7, eR_l7, eI_l8, eL_l8, eB_l8, wI_l8, wL_l8, wB_l8, eR_l8, eI_l9, eL_l9, eB_l9, wI_l9, wL_l9, wB_l9, eR_l9, eI_l10, eL_l10, eB_l10, wI_l10, wL_l10, wB_l10, eR_l10, eI_l11, eL_l11, eB_l11, wI_l11, wL_l11, wB_l11, eR_l11, eI_l12, eL_l12, eB_l12, wI_l12, wL_l12, wB_l12, eR_l12, nI_m5, nI_5m, nI_m6, nI_6m, nI_m7, nI_7m, nI_m8, nI_8m, nI_m10, nI_10m, nI_m12, nI_12m, nI_m76, nI_76m, nI_m300, nI_300m, nI_m1900, nI_1900m, some_bind', nI_1, nI_add, pk_mul]
  have f1 : MF m (mA (m.1, m.2.1, J) 37 g ch) := MF_A (MF_J (MF_refl m) J) (by omega) g ch
  have d1 : Mdy (mA (m.1, m.2.1, J) 37 g ch) np ns s := Mdy_o (m := (m.1, m.2.1, J)) hD (by omega) g ch
  have g1 : (mA (m.1, m.2.1, J) 37 g ch).2.1 37 = upd (m.2.1 37) g ch := mA_eq _ _ _ _
  have ao : ∀ a, a ≠ 37 → (mA (m.1, m.2.1, J) 37 g ch).2.1 a = m.2.1 a := fun a h => mA_ne _ _ _ h
  generalize mA (m.1, m.2.1, J) 37 g ch = m1 at f1 d1 g1 ao ⊢
  rcases hch with rfl | ⟨j, hj, rfl⟩
  · rw [if_neg (fun q => q rfl)]
    refine ⟨mA m1 6 g (leastF (nb s.2.1 (nI a)) (nI a) 8 0), MF_A f1 (by omega) _ _, ?_, ?_, ?_⟩
    · have e : walS w wr g (-1) s = stR s 5 (upd (s.2.2 5) g (leastF (nb s.2.1 (nI a)) (nI a) 8 0)) := by
        unfold walS couS whtS
        rw [if_pos rfl, if_pos rfl, hat]
      rw [e]
      exact Mdy_r d1 6 5 rfl (by decide) _ _
    · rw [mA_ne _ _ _ (by decide)]
      exact g1
    · simp (disch := omega) only [M_thrown hM, Mw_thrown hM, M_taped hM, Mw_taped hM, M_p hM, Mw_p hM, M_fault hM, Mw_fault hM, M_slot hM, Mw_slot hM, M_rules hM, Mw_rules hM, M_entries hM, Mw_entries hM, M_deep hM, Mw_deep hM, M_counted hM, Mw_counted hM, M_opened hM, Mw_opened hM, M_words hM, Mw_words hM, M_pastMany hM, Mw_pastMany hM, M_pastAt hM, Mw_pastAt hM, Mw_takesBack hM, M_imageAt hM, Mw_imageAt hM, Mw_goesBack hM, M_scalar hM, Me_scalar hM, Mu_scalar hM, Ml_scalar hM, M_at hM, Me_at hM, Mu_at hM, Ml_at hM, M_kind hM, Me_kind hM, Mu_kind hM, Ml_kind hM, M_asks hM, Me_asks hM, Mu_asks hM, Ml_asks hM, M_askedAll hM, Me_askedAll hM, Mu_askedAll hM, Ml_askedAll hM, M_chains hM, Me_chains hM, Mu_chains hM, Ml_chains hM, M_where hM, Me_where hM, Mu_where hM, Ml_where hM, M_knows hM, Me_knows hM, Mu_knows hM, Ml_knows hM, M_open hM, Me_open hM, Mu_open hM, Ml_open hM, M_wrong hM, Me_wrong hM, Mu_wrong hM, Ml_wrong hM, M_from hM, Me_from hM, Mu_from hM, Ml_from hM, M_to hM, Me_to hM, Mu_to hM, Ml_to hM, M_every hM, Me_every hM, Mu_every hM, Ml_every hM, M_noteHour hM, Me_noteHour hM, Mu_noteHour hM, Ml_noteHour hM, M_noteWho hM, Me_noteWho hM, Mu_noteWho hM, Ml_noteWho hM, M_noteWhom hM, Me_noteWhom hM, Mu_noteWhom hM, Ml_noteWhom hM, M_toldAt hM, Me_toldAt hM, Mu_toldAt hM, Ml_toldAt hM, M_toldKind hM, Me_toldKind hM, Mu_toldKind hM, Ml_toldKind hM, M_toldStreets hM, Me_toldStreets hM, Mu_toldStreets hM, Ml_toldStreets hM, M_newScalar hM, Me_newScalar hM, Mu_newScalar hM, Ml_newScalar hM, M_newAt hM, Me_newAt hM, Mu_newAt hM, Ml_newAt hM, M_newKind hM, Me_newKind hM, Mu_newKind hM, Ml_newKind hM, M_newWrong hM, Me_newWrong hM, Mu_newWrong hM, Ml_newWrong hM, M_newFrom hM, Me_newFrom hM, Mu_newFrom hM, Ml_newFrom hM, M_newTo hM, Me_newTo hM, Mu_newTo hM, Ml_newTo hM, M_newEvery hM, Me_newEvery hM, Mu_newEvery hM, Ml_newEvery hM, M_newStreets hM, Me_newStreets hM, Mu_newStreets hM, Ml_newStreets hM, M_tape hM, Me_tape hM, Mu_tape hM, Ml_tape hM, M_sort hM, Me_sort hM, Mu_sort hM, Ml_sort hM, M_number hM, Me_number hM, Mu_number hM, Ml_number hM, M_clauses hM, Me_clauses hM, Mu_clauses hM, Ml_clauses hM, M_sumAt hM, Me_sumAt hM, Mu_sumAt hM, Ml_sumAt hM, M_testAt hM, Me_testAt hM, Mu_testAt hM, Ml_testAt hM, M_endAt hM, Me_endAt hM, Mu_endAt hM, Ml_endAt hM, M_openAt hM, Me_openAt hM, Mu_openAt hM, Ml_openAt hM, M_asked hM, Me_asked hM, Mu_asked hM, Ml_asked hM, M_stack hM, Me_stack hM, Mu_stack hM, Ml_stack hM, M_gone hM, Me_gone hM, Mu_gone hM, Ml_gone hM, M_past hM, Me_past hM, Mu_past hM, Ml_past hM, M_pastOf hM, Me_pastOf hM, Mu_pastOf hM, Ml_pastOf hM, M_plays hM, Me_plays hM, Mu_plays hM, Ml_plays hM, M_firstHas hM, Me_firstHas hM, Mu_firstHas hM, Ml_firstHas hM, M_secondHas hM, Me_secondHas hM, Mu_secondHas hM, Ml_secondHas hM, M_lay hM, Me_lay hM, Mu_lay hM, Ml_lay hM, M_shows hM, Me_shows hM, Mu_shows hM, Ml_shows hM, M_images hM, Me_images hM, Mu_images hM, Ml_images hM, M_isMade hM, Me_isMade hM, Mu_isMade hM, Ml_isMade hM, M_is hM, mA_1, mA_L, mA_eq, mA_ne, mL_1, mL_A, mL_eq, mL_ne, mI_A, mI_eq, mI_ne, eI_l0, eL_l0, eB_l0, wI_l0, wL_l0, wB_l0, eR_l0, eI_l1, eL_l1, eB_l1, wI_l1, wL_l1, wB_l1, eR_l1, eI_l2, eL_l2, eB_l2, wI_l2, wL_l2, wB_l2, eR_l2, eI_l3, eL_l3, eB_l3, wI_l3, wL_l3, wB_l3, eR_l3, eI_l4, eL_l4, eB_l4, wI_l4, wL_l4, wB_l4, eR_l4, eI_l5, eL_l5, eB_l5, wI_l5, wL_l5, wB_l5, eR_l5, eI_l6, eL_l6, eB_l6, wI_l6, wL_l6, wB_l6, eR_l6, eI_l7, eL_l7, eB_l7, wI_l7, wL_l7, wB_l7, eR_l7, eI_l8, eL_l8, eB_l8, wI_l8, wL_l8, wB_l8, eR_l8, eI_l9, eL_l9, eB_l9, wI_l9, wL_l9, wB_l9, eR_l9, eI_l10, eL_l10, eB_l10, wI_l10, wL_l10, wB_l10, eR_l10, eI_l11, eL_l11, eB_l11, wI_l11, wL_l11, wB_l11, eR_l11, eI_l12, eL_l12, eB_l12, wI_l12, wL_l12, wB_l12, eR_l12, nI_m5, nI_5m, nI_m6, nI_6m, nI_m7, nI_7m, nI_m8, nI_8m, nI_m10, nI_10m, nI_m12, nI_12m, nI_m76, nI_76m, nI_m300, nI_300m, nI_m1900, nI_1900m, some_bind', nI_1, nI_add, pk_mul, ao, hwh]
      rw [i_leastM (d + 3) hM pl ((ao 0 (by decide) ▸ s0 : m1.2.1 0 0 = nI pl)) s.2.1 (MOp_fr f1 hO) hV.1 (by omega), some_bind']
      simp (disch := omega) only [M_thrown hM, Mw_thrown hM, M_taped hM, Mw_taped hM, M_p hM, Mw_p hM, M_fault hM, Mw_fault hM, M_slot hM, Mw_slot hM, M_rules hM, Mw_rules hM, M_entries hM, Mw_entries hM, M_deep hM, Mw_deep hM, M_counted hM, Mw_counted hM, M_opened hM, Mw_opened hM, M_words hM, Mw_words hM, M_pastMany hM, Mw_pastMany hM, M_pastAt hM, Mw_pastAt hM, Mw_takesBack hM, M_imageAt hM, Mw_imageAt hM, Mw_goesBack hM, M_scalar hM, Me_scalar hM, Mu_scalar hM, Ml_scalar hM, M_at hM, Me_at hM, Mu_at hM, Ml_at hM, M_kind hM, Me_kind hM, Mu_kind hM, Ml_kind hM, M_asks hM, Me_asks hM, Mu_asks hM, Ml_asks hM, M_askedAll hM, Me_askedAll hM, Mu_askedAll hM, Ml_askedAll hM, M_chains hM, Me_chains hM, Mu_chains hM, Ml_chains hM, M_where hM, Me_where hM, Mu_where hM, Ml_where hM, M_knows hM, Me_knows hM, Mu_knows hM, Ml_knows hM, M_open hM, Me_open hM, Mu_open hM, Ml_open hM, M_wrong hM, Me_wrong hM, Mu_wrong hM, Ml_wrong hM, M_from hM, Me_from hM, Mu_from hM, Ml_from hM, M_to hM, Me_to hM, Mu_to hM, Ml_to hM, M_every hM, Me_every hM, Mu_every hM, Ml_every hM, M_noteHour hM, Me_noteHour hM, Mu_noteHour hM, Ml_noteHour hM, M_noteWho hM, Me_noteWho hM, Mu_noteWho hM, Ml_noteWho hM, M_noteWhom hM, Me_noteWhom hM, Mu_noteWhom hM, Ml_noteWhom hM, M_toldAt hM, Me_toldAt hM, Mu_toldAt hM, Ml_toldAt hM, M_toldKind hM, Me_toldKind hM, Mu_toldKind hM, Ml_toldKind hM, M_toldStreets hM, Me_toldStreets hM, Mu_toldStreets hM, Ml_toldStreets hM, M_newScalar hM, Me_newScalar hM, Mu_newScalar hM, Ml_newScalar hM, M_newAt hM, Me_newAt hM, Mu_newAt hM, Ml_newAt hM, M_newKind hM, Me_newKind hM, Mu_newKind hM, Ml_newKind hM, M_newWrong hM, Me_newWrong hM, Mu_newWrong hM, Ml_newWrong hM, M_newFrom hM, Me_newFrom hM, Mu_newFrom hM, Ml_newFrom hM, M_newTo hM, Me_newTo hM, Mu_newTo hM, Ml_newTo hM, M_newEvery hM, Me_newEvery hM, Mu_newEvery hM, Ml_newEvery hM, M_newStreets hM, Me_newStreets hM, Mu_newStreets hM, Ml_newStreets hM, M_tape hM, Me_tape hM, Mu_tape hM, Ml_tape hM, M_sort hM, Me_sort hM, Mu_sort hM, Ml_sort hM, M_number hM, Me_number hM, Mu_number hM, Ml_number hM, M_clauses hM, Me_clauses hM, Mu_clauses hM, Ml_clauses hM, M_sumAt hM, Me_sumAt hM, Mu_sumAt hM, Ml_sumAt hM, M_testAt hM, Me_testAt hM, Mu_testAt hM, Ml_testAt hM, M_endAt hM, Me_endAt hM, Mu_endAt hM, Ml_endAt hM, M_openAt hM, Me_openAt hM, Mu_openAt hM, Ml_openAt hM, M_asked hM, Me_asked hM, Mu_asked hM, Ml_asked hM, M_stack hM, Me_stack hM, Mu_stack hM, Ml_stack hM, M_gone hM, Me_gone hM, Mu_gone hM, Ml_gone hM, M_past hM, Me_past hM, Mu_past hM, Ml_past hM, M_pastOf hM, Me_pastOf hM, Mu_pastOf hM, Ml_pastOf hM, M_plays hM, Me_plays hM, Mu_plays hM, Ml_plays hM, M_firstHas hM, Me_firstHas hM, Mu_firstHas hM, Ml_firstHas hM, M_secondHas hM, Me_secondHas hM, Mu_secondHas hM, Ml_secondHas hM, M_lay hM, Me_lay hM, Mu_lay hM, Ml_lay hM, M_shows hM, Me_shows hM, Mu_shows hM, Ml_shows hM, M_images hM, Me_images hM, Mu_images hM, Ml_images hM, M_isMade hM, Me_isMade hM, Mu_isMade hM, Ml_isMade hM, M_is hM, mA_1, mA_L, mA_eq, mA_ne, mL_1, mL_A, mL_eq, mL_ne, mI_A, mI_eq, mI_ne, eI_l0, eL_l0, eB_l0, wI_l0, wL_l0, wB_l0, eR_l0, eI_l1, eL_l1, eB_l1, wI_l1, wL_l1, wB_l1, eR_l1, eI_l2, eL_l2, eB_l2, wI_l2, wL_l2, wB_l2, eR_l2, eI_l3, eL_l3, eB_l3, wI_l3, wL_l3, wB_l3, eR_l3, eI_l4, eL_l4, eB_l4, wI_l4, wL_l4, wB_l4, eR_l4, eI_l5, eL_l5, eB_l5, wI_l5, wL_l5, wB_l5, eR_l5, eI_l6, eL_l6, eB_l6, wI_l6, wL_l6, wB_l6, eR_l6, eI_l7, eL_l7, eB_l7, wI_l7, wL_l7, wB_l7, eR_l7, eI_l8, eL_l8, eB_l8, wI_l8, wL_l8, wB_l8, eR_l8, eI_l9, eL_l9, eB_l9, wI_l9, wL_l9, wB_l9, eR_l9, eI_l10, eL_l10, eB_l10, wI_l10, wL_l10, wB_l10, eR_l10, eI_l11, eL_l11, eB_l11, wI_l11, wL_l11, wB_l11, eR_l11, eI_l12, eL_l12, eB_l12, wI_l12, wL_l12, wB_l12, eR_l12, nI_m5, nI_5m, nI_m6, nI_6m, nI_m7, nI_7m, nI_m8, nI_8m, nI_m10, nI_10m, nI_m12, nI_12m, nI_m76, nI_76m, nI_m300, nI_300m, nI_m1900, nI_1900m, some_bind', nI_1, nI_add, pk_mul]
  · have hne : ¬ nI j = -1 := fun q => nI_pos (n := j) (by omega) (by rw [q]; decide)
    rw [if_pos hne]
    simp (disch := omega) only [M_thrown hM, Mw_thrown hM, M_taped hM, Mw_taped hM, M_p hM, Mw_p hM, M_fault hM, Mw_fault hM, M_slot hM, Mw_slot hM, M_rules hM, Mw_rules hM, M_entries hM, Mw_entries hM, M_deep hM, Mw_deep hM, M_counted hM, Mw_counted hM, M_opened hM, Mw_opened hM, M_words hM, Mw_words hM, M_pastMany hM, Mw_pastMany hM, M_pastAt hM, Mw_pastAt hM, Mw_takesBack hM, M_imageAt hM, Mw_imageAt hM, Mw_goesBack hM, M_scalar hM, Me_scalar hM, Mu_scalar hM, Ml_scalar hM, M_at hM, Me_at hM, Mu_at hM, Ml_at hM, M_kind hM, Me_kind hM, Mu_kind hM, Ml_kind hM, M_asks hM, Me_asks hM, Mu_asks hM, Ml_asks hM, M_askedAll hM, Me_askedAll hM, Mu_askedAll hM, Ml_askedAll hM, M_chains hM, Me_chains hM, Mu_chains hM, Ml_chains hM, M_where hM, Me_where hM, Mu_where hM, Ml_where hM, M_knows hM, Me_knows hM, Mu_knows hM, Ml_knows hM, M_open hM, Me_open hM, Mu_open hM, Ml_open hM, M_wrong hM, Me_wrong hM, Mu_wrong hM, Ml_wrong hM, M_from hM, Me_from hM, Mu_from hM, Ml_from hM, M_to hM, Me_to hM, Mu_to hM, Ml_to hM, M_every hM, Me_every hM, Mu_every hM, Ml_every hM, M_noteHour hM, Me_noteHour hM, Mu_noteHour hM, Ml_noteHour hM, M_noteWho hM, Me_noteWho hM, Mu_noteWho hM, Ml_noteWho hM, M_noteWhom hM, Me_noteWhom hM, Mu_noteWhom hM, Ml_noteWhom hM, M_toldAt hM, Me_toldAt hM, Mu_toldAt hM, Ml_toldAt hM, M_toldKind hM, Me_toldKind hM, Mu_toldKind hM, Ml_toldKind hM, M_toldStreets hM, Me_toldStreets hM, Mu_toldStreets hM, Ml_toldStreets hM, M_newScalar hM, Me_newScalar hM, Mu_newScalar hM, Ml_newScalar hM, M_newAt hM, Me_newAt hM, Mu_newAt hM, Ml_newAt hM, M_newKind hM, Me_newKind hM, Mu_newKind hM, Ml_newKind hM, M_newWrong hM, Me_newWrong hM, Mu_newWrong hM, Ml_newWrong hM, M_newFrom hM, Me_newFrom hM, Mu_newFrom hM, Ml_newFrom hM, M_newTo hM, Me_newTo hM, Mu_newTo hM, Ml_newTo hM, M_newEvery hM, Me_newEvery hM, Mu_newEvery hM, Ml_newEvery hM, M_newStreets hM, Me_newStreets hM, Mu_newStreets hM, Ml_newStreets hM, M_tape hM, Me_tape hM, Mu_tape hM, Ml_tape hM, M_sort hM, Me_sort hM, Mu_sort hM, Ml_sort hM, M_number hM, Me_number hM, Mu_number hM, Ml_number hM, M_clauses hM, Me_clauses hM, Mu_clauses hM, Ml_clauses hM, M_sumAt hM, Me_sumAt hM, Mu_sumAt hM, Ml_sumAt hM, M_testAt hM, Me_testAt hM, Mu_testAt hM, Ml_testAt hM, M_endAt hM, Me_endAt hM, Mu_endAt hM, Ml_endAt hM, M_openAt hM, Me_openAt hM, Mu_openAt hM, Ml_openAt hM, M_asked hM, Me_asked hM, Mu_asked hM, Ml_asked hM, M_stack hM, Me_stack hM, Mu_stack hM, Ml_stack hM, M_gone hM, Me_gone hM, Mu_gone hM, Ml_gone hM, M_past hM, Me_past hM, Mu_past hM, Ml_past hM, M_pastOf hM, Me_pastOf hM, Mu_pastOf hM, Ml_pastOf hM, M_plays hM, Me_plays hM, Mu_plays hM, Ml_plays hM, M_firstHas hM, Me_firstHas hM, Mu_firstHas hM, Ml_firstHas hM, M_secondHas hM, Me_secondHas hM, Mu_secondHas hM, Ml_secondHas hM, M_lay hM, Me_lay hM, Mu_lay hM, Ml_lay hM, M_shows hM, Me_shows hM, Mu_shows hM, Ml_shows hM, M_images hM, Me_images hM, Mu_images hM, Ml_images hM, M_isMade hM, Me_isMade hM, Mu_isMade hM, Ml_isMade hM, M_is hM, mA_1, mA_L, mA_eq, mA_ne, mL_1, mL_A, mL_eq, mL_ne, mI_A, mI_eq, mI_ne, eI_l0, eL_l0, eB_l0, wI_l0, wL_l0, wB_l0, eR_l0, eI_l1, eL_l1, eB_l1, wI_l1, wL_l1, wB_l1, eR_l1, eI_l2, eL_l2, eB_l2, wI_l2, wL_l2, wB_l2, eR_l2, eI_l3, eL_l3, eB_l3, wI_l3, wL_l3, wB_l3, eR_l3, eI_l4, eL_l4, eB_l4, wI_l4, wL_l4, wB_l4, eR_l4, eI_l5, eL_l5, eB_l5, wI_l5, wL_l5, wB_l5, eR_l5, eI_l6, eL_l6, eB_l6, wI_l6, wL_l6, wB_l6, eR_l6, eI_l7, eL_l7, eB_l7, wI_l7, wL_l7, wB_l7, eR_l7, eI_l8, eL_l8, eB_l8, wI_l8, wL_l8, wB_l8, eR_l8, eI_l9, eL_l9, eB_l9, wI_l9, wL_l9, wB_l9, eR_l9, eI_l10, eL_l10, eB_l10, wI_l10, wL_l10, wB_l10, eR_l10, eI_l11, eL_l11, eB_l11, wI_l11, wL_l11, wB_l11, eR_l11, eI_l12, eL_l12, eB_l12, wI_l12, wL_l12, wB_l12, eR_l12, nI_m5, nI_5m, nI_m6, nI_6m, nI_m7, nI_7m, nI_m8, nI_8m, nI_m10, nI_10m, nI_m12, nI_12m, nI_m76, nI_76m, nI_m300, nI_300m, nI_m1900, nI_1900m, some_bind', nI_1, nI_add, pk_mul, ao, hwh, hto', s4 j hj]
    have f2 : MF m (mA (mA (mA m1 3 j (m.2.1 3 j + 1)) 4 j (m.2.1 4 j + 1)) 7 (6 * g + j) (m.2.1 7 (6 * g + j) + 1)) := MF_A (MF_A (MF_A f1 (by omega) _ _) (by omega) _ _) (by omega) _ _
    have d2 : Mdy (mA (mA (mA m1 3 j (m.2.1 3 j + 1)) 4 j (m.2.1 4 j + 1)) 7 (6 * g + j) (m.2.1 7 (6 * g + j) + 1)) np ns (couS g (nI j) s) := by
      unfold couS
      rw [if_neg hne, nI_clamp (by omega), Md_asks hD hj, Md_all hD hj, Nat.mul_comm 6 g, Md_knows hD hg hj hn6]
      exact Mdy_r (Mdy_r (Mdy_r d1 3 2 rfl (by decide) _ _) 4 3 rfl (by decide) _ _) 7 6 rfl (by decide) _ _
    have g2 : (mA (mA (mA m1 3 j (m.2.1 3 j + 1)) 4 j (m.2.1 4 j + 1)) 7 (6 * g + j) (m.2.1 7 (6 * g + j) + 1)).2.1 37 = upd (m.2.1 37) g (nI j) := by
      rw [mA_ne _ _ _ (by decide), mA_ne _ _ _ (by decide), mA_ne _ _ _ (by decide)]
      exact g1
    generalize mA (mA (mA m1 3 j (m.2.1 3 j + 1)) 4 j (m.2.1 4 j + 1)) 7 (6 * g + j) (m.2.1 7 (6 * g + j) + 1) = m2 at f2 d2 g2 ⊢
    obtain ⟨c1, c2, c3, c4⟩ := couS_o g (nI j) s
    have z0 : m2.2.1 0 0 = nI pl := (f2.2.2 0 (by omega)).trans s0
    by_cases hw1 : iShr wr (nI j) &&& 1 = 1
    · rw [if_neg (fun q => q hw1), i_greatM (d + 3) hM pl z0 s.2.1 (MOp_fr f2 hO) hV.1 (by omega), some_bind', bX13_walks_114 (hw2 := rfl)]
      refine ⟨mA m2 6 g (greatF (nb s.2.1 (nI a)) (nI a) 8), MF_A f2 (by omega) _ _, ?_, ?_, by simp (disch := omega) only [M_thrown hM, Mw_thrown hM, M_taped hM, Mw_taped hM, M_p hM, Mw_p hM, M_fault hM, Mw_fault hM, M_slot hM, Mw_slot hM, M_rules hM, Mw_rules hM, M_entries hM, Mw_entries hM, M_deep hM, Mw_deep hM, M_counted hM, Mw_counted hM, M_opened hM, Mw_opened hM, M_words hM, Mw_words hM, M_pastMany hM, Mw_pastMany hM, M_pastAt hM, Mw_pastAt hM, Mw_takesBack hM, M_imageAt hM, Mw_imageAt hM, Mw_goesBack hM, M_scalar hM, Me_scalar hM, Mu_scalar hM, Ml_scalar hM, M_at hM, Me_at hM, Mu_at hM, Ml_at hM, M_kind hM, Me_kind hM, Mu_kind hM, Ml_kind hM, M_asks hM, Me_asks hM, Mu_asks hM, Ml_asks hM, M_askedAll hM, Me_askedAll hM, Mu_askedAll hM, Ml_askedAll hM, M_chains hM, Me_chains hM, Mu_chains hM, Ml_chains hM, M_where hM, Me_where hM, Mu_where hM, Ml_where hM, M_knows hM, Me_knows hM, Mu_knows hM, Ml_knows hM, M_open hM, Me_open hM, Mu_open hM, Ml_open hM, M_wrong hM, Me_wrong hM, Mu_wrong hM, Ml_wrong hM, M_from hM, Me_from hM, Mu_from hM, Ml_from hM, M_to hM, Me_to hM, Mu_to hM, Ml_to hM, M_every hM, Me_every hM, Mu_every hM, Ml_every hM, M_noteHour hM, Me_noteHour hM, Mu_noteHour hM, Ml_noteHour hM, M_noteWho hM, Me_noteWho hM, Mu_noteWho hM, Ml_noteWho hM, M_noteWhom hM, Me_noteWhom hM, Mu_noteWhom hM, Ml_noteWhom hM, M_toldAt hM, Me_toldAt hM, Mu_toldAt hM, Ml_toldAt hM, M_toldKind hM, Me_toldKind hM, Mu_toldKind hM, Ml_toldKind hM, M_toldStreets hM, Me_toldStreets hM, Mu_toldStreets hM, Ml_toldStreets hM, M_newScalar hM, Me_newScalar hM, Mu_newScalar hM, Ml_newScalar hM, M_newAt hM, Me_newAt hM, Mu_newAt hM, Ml_newAt hM, M_newKind hM, Me_newKind hM, Mu_newKind hM, Ml_newKind hM, M_newWrong hM, Me_newWrong hM, Mu_newWrong hM, Ml_newWrong hM, M_newFrom hM, Me_newFrom hM, Mu_newFrom hM, Ml_newFrom hM, M_newTo hM, Me_newTo hM, Mu_newTo hM, Ml_newTo hM, M_newEvery hM, Me_newEvery hM, Mu_newEvery hM, Ml_newEvery hM, M_newStreets hM, Me_newStreets hM, Mu_newStreets hM, Ml_newStreets hM, M_tape hM, Me_tape hM, Mu_tape hM, Ml_tape hM, M_sort hM, Me_sort hM, Mu_sort hM, Ml_sort hM, M_number hM, Me_number hM, Mu_number hM, Ml_number hM, M_clauses hM, Me_clauses hM, Mu_clauses hM, Ml_clauses hM, M_sumAt hM, Me_sumAt hM, Mu_sumAt hM, Ml_sumAt hM, M_testAt hM, Me_testAt hM, Mu_testAt hM, Ml_testAt hM, M_endAt hM, Me_endAt hM, Mu_endAt hM, Ml_endAt hM, M_openAt hM, Me_openAt hM, Mu_openAt hM, Ml_openAt hM, M_asked hM, Me_asked hM, Mu_asked hM, Ml_asked hM, M_stack hM, Me_stack hM, Mu_stack hM, Ml_stack hM, M_gone hM, Me_gone hM, Mu_gone hM, Ml_gone hM, M_past hM, Me_past hM, Mu_past hM, Ml_past hM, M_pastOf hM, Me_pastOf hM, Mu_pastOf hM, Ml_pastOf hM, M_plays hM, Me_plays hM, Mu_plays hM, Ml_plays hM, M_firstHas hM, Me_firstHas hM, Mu_firstHas hM, Ml_firstHas hM, M_secondHas hM, Me_secondHas hM, Mu_secondHas hM, Ml_secondHas hM, M_lay hM, Me_lay hM, Mu_lay hM, Ml_lay hM, M_shows hM, Me_shows hM, Mu_shows hM, Ml_shows hM, M_images hM, Me_images hM, Mu_images hM, Ml_images hM, M_isMade hM, Me_isMade hM, Mu_isMade hM, Ml_isMade hM, M_is hM, mA_1, mA_L, mA_eq, mA_ne, mL_1, mL_A, mL_eq, mL_ne, mI_A, mI_eq, mI_ne, eI_l0, eL_l0, eB_l0, wI_l0, wL_l0, wB_l0, eR_l0, eI_l1, eL_l1, eB_l1, wI_l1, wL_l1, wB_l1, eR_l1, eI_l2, eL_l2, eB_l2, wI_l2, wL_l2, wB_l2, eR_l2, eI_l3, eL_l3, eB_l3, wI_l3, wL_l3, wB_l3, eR_l3, eI_l4, eL_l4, eB_l4, wI_l4, wL_l4, wB_l4, eR_l4, eI_l5, eL_l5, eB_l5, wI_l5, wL_l5, wB_l5, eR_l5, eI_l6, eL_l6, eB_l6, wI_l6, wL_l6, wB_l6, eR_l6, eI_l7, eL_l7, eB_l7, wI_l7, wL_l7, wB_l7, eR_l7, eI_l8, eL_l8, eB_l8, wI_l8, wL_l8, wB_l8, eR_l8, eI_l9, eL_l9, eB_l9, wI_l9, wL_l9, wB_l9, eR_l9, eI_l10, eL_l10, eB_l10, wI_l10, wL_l10, wB_l10, eR_l10, eI_l11, eL_l11, eB_l11, wI_l11, wL_l11, wB_l11, eR_l11, eI_l12, eL_l12, eB_l12, wI_l12, wL_l12, wB_l12, eR_l12, nI_m5, nI_5m, nI_m6, nI_6m, nI_m7, nI_7m, nI_m8, nI_8m, nI_m10, nI_10m, nI_m12, nI_12m, nI_m76, nI_76m, nI_m300, nI_300m, nI_m1900, nI_1900m, some_bind', nI_1, nI_add, pk_mul]⟩
      · have e : walS w wr g (nI j) s = stR (couS g (nI j) s) 5 (upd ((couS g (nI j) s).2.2 5) g (greatF (nb s.2.1 (nI a)) (nI a) 8)) := by
          unfold walS whtS
          rw [if_neg hne, if_pos hw1, c1, c3, hat]
        rw [e]
        exact Mdy_r d2 6 5 rfl (by decide) _ _
      · rw [mA_ne _ _ _ (by decide)]
        exact g2
    · rw [if_pos hw1, i_firstM (d + 2) hM pl z0 s.2.1 (MOp_fr f2 hO) hV.1 (by omega) (by omega), some_bind', bX13_walks_114 (hw2 := rfl)]
      refine ⟨mA m2 6 g (stepS s.2.1 (dst s.2.1) (nI a) (nI b)), MF_A f2 (by omega) _ _, ?_, ?_, by simp (disch := omega) only [M_thrown hM, Mw_thrown hM, M_taped hM, Mw_taped hM, M_p hM, Mw_p hM, M_fault hM, Mw_fault hM, M_slot hM, Mw_slot hM, M_rules hM, Mw_rules hM, M_entries hM, Mw_entries hM, M_deep hM, Mw_deep hM, M_counted hM, Mw_counted hM, M_opened hM, Mw_opened hM, M_words hM, Mw_words hM, M_pastMany hM, Mw_pastMany hM, M_pastAt hM, Mw_pastAt hM, Mw_takesBack hM, M_imageAt hM, Mw_imageAt hM, Mw_goesBack hM, M_scalar hM, Me_scalar hM, Mu_scalar hM, Ml_scalar hM, M_at hM, Me_at hM, Mu_at hM, Ml_at hM, M_kind hM, Me_kind hM, Mu_kind hM, Ml_kind hM, M_asks hM, Me_asks hM, Mu_asks hM, Ml_asks hM, M_askedAll hM, Me_askedAll hM, Mu_askedAll hM, Ml_askedAll hM, M_chains hM, Me_chains hM, Mu_chains hM, Ml_chains hM, M_where hM, Me_where hM, Mu_where hM, Ml_where hM, M_knows hM, Me_knows hM, Mu_knows hM, Ml_knows hM, M_open hM, Me_open hM, Mu_open hM, Ml_open hM, M_wrong hM, Me_wrong hM, Mu_wrong hM, Ml_wrong hM, M_from hM, Me_from hM, Mu_from hM, Ml_from hM, M_to hM, Me_to hM, Mu_to hM, Ml_to hM, M_every hM, Me_every hM, Mu_every hM, Ml_every hM, M_noteHour hM, Me_noteHour hM, Mu_noteHour hM, Ml_noteHour hM, M_noteWho hM, Me_noteWho hM, Mu_noteWho hM, Ml_noteWho hM, M_noteWhom hM, Me_noteWhom hM, Mu_noteWhom hM, Ml_noteWhom hM, M_toldAt hM, Me_toldAt hM, Mu_toldAt hM, Ml_toldAt hM, M_toldKind hM, Me_toldKind hM, Mu_toldKind hM, Ml_toldKind hM, M_toldStreets hM, Me_toldStreets hM, Mu_toldStreets hM, Ml_toldStreets hM, M_newScalar hM, Me_newScalar hM, Mu_newScalar hM, Ml_newScalar hM, M_newAt hM, Me_newAt hM, Mu_newAt hM, Ml_newAt hM, M_newKind hM, Me_newKind hM, Mu_newKind hM, Ml_newKind hM, M_newWrong hM, Me_newWrong hM, Mu_newWrong hM, Ml_newWrong hM, M_newFrom hM, Me_newFrom hM, Mu_newFrom hM, Ml_newFrom hM, M_newTo hM, Me_newTo hM, Mu_newTo hM, Ml_newTo hM, M_newEvery hM, Me_newEvery hM, Mu_newEvery hM, Ml_newEvery hM, M_newStreets hM, Me_newStreets hM, Mu_newStreets hM, Ml_newStreets hM, M_tape hM, Me_tape hM, Mu_tape hM, Ml_tape hM, M_sort hM, Me_sort hM, Mu_sort hM, Ml_sort hM, M_number hM, Me_number hM, Mu_number hM, Ml_number hM, M_clauses hM, Me_clauses hM, Mu_clauses hM, Ml_clauses hM, M_sumAt hM, Me_sumAt hM, Mu_sumAt hM, Ml_sumAt hM, M_testAt hM, Me_testAt hM, Mu_testAt hM, Ml_testAt hM, M_endAt hM, Me_endAt hM, Mu_endAt hM, Ml_endAt hM, M_openAt hM, Me_openAt hM, Mu_openAt hM, Ml_openAt hM, M_asked hM, Me_asked hM, Mu_asked hM, Ml_asked hM, M_stack hM, Me_stack hM, Mu_stack hM, Ml_stack hM, M_gone hM, Me_gone hM, Mu_gone hM, Ml_gone hM, M_past hM, Me_past hM, Mu_past hM, Ml_past hM, M_pastOf hM, Me_pastOf hM, Mu_pastOf hM, Ml_pastOf hM, M_plays hM, Me_plays hM, Mu_plays hM, Ml_plays hM, M_firstHas hM, Me_firstHas hM, Mu_firstHas hM, Ml_firstHas hM, M_secondHas hM, Me_secondHas hM, Mu_secondHas hM, Ml_secondHas hM, M_lay hM, Me_lay hM, Mu_lay hM, Ml_lay hM, M_shows hM, Me_shows hM, Mu_shows hM, Ml_shows hM, M_images hM, Me_images hM, Mu_images hM, Ml_images hM, M_isMade hM, Me_isMade hM, Mu_isMade hM, Ml_isMade hM, M_is hM, mA_1, mA_L, mA_eq, mA_ne, mL_1, mL_A, mL_eq, mL_ne, mI_A, mI_eq, mI_ne, eI_l0, eL_l0, eB_l0, wI_l0, wL_l0, wB_l0, eR_l0, eI_l1, eL_l1, eB_l1, wI_l1, wL_l1, wB_l1, eR_l1, eI_l2, eL_l2, eB_l2, wI_l2, wL_l2, wB_l2, eR_l2, eI_l3, eL_l3, eB_l3, wI_l3, wL_l3, wB_l3, eR_l3, eI_l4, eL_l4, eB_l4, wI_l4, wL_l4, wB_l4, eR_l4, eI_l5, eL_l5, eB_l5, wI_l5, wL_l5, wB_l5, eR_l5, eI_l6, eL_l6, eB_l6, wI_l6, wL_l6, wB_l6, eR_l6, eI_l7, eL_l7, eB_l7, wI_l7, wL_l7, wB_l7, eR_l7, eI_l8, eL_l8, eB_l8, wI_l8, wL_l8, wB_l8, eR_l8, eI_l9, eL_l9, eB_l9, wI_l9, wL_l9, wB_l9, eR_l9, eI_l10, eL_l10, eB_l10, wI_l10, wL_l10, wB_l10, eR_l10, eI_l11, eL_l11, eB_l11, wI_l11, wL_l11, wB_l11, eR_l11, eI_l12, eL_l12, eB_l12, wI_l12, wL_l12, wB_l12, eR_l12, nI_m5, nI_5m, nI_m6, nI_6m, nI_m7, nI_7m, nI_m8, nI_8m, nI_m10, nI_10m, nI_m12, nI_12m, nI_m76, nI_76m, nI_m300, nI_300m, nI_m1900, nI_1900m, some_bind', nI_1, nI_add, pk_mul]⟩
      · have e : walS w wr g (nI j) s = stR (couS g (nI j) s) 5 (upd ((couS g (nI j) s).2.2 5) g (stepS s.2.1 (dst s.2.1) (nI a) (nI b))) := by
          unfold walS whtS
          rw [if_neg hne, if_neg hw1, c3, hat, hto]
        rw [e]
        exact Mdy_r d2 6 5 rfl (by decide) _ _
      · rw [mA_ne _ _ _ (by decide)]
        exact g2
end MHOUR4
