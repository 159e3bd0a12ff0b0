/-! rules in the model: clauses -/
theorem elp_fx {T : TP} {F : Nat → Nat → Er} (hF : ∀ s c q, F s c = .inr q → fxB T q.1) : ∀ (f s c : Nat) (l : EL) (ho ha : Bool) (q : Nat × Nat × EL), fxB T s → elp F T f s c l ho ha = .inr q → fxB T q.1
  | 0, s, c, l, ho, ha, q, h, e => by
    cases e
    exact h
  | f + 1, s, c, l, ho, ha, q, h, e => by
    have e : (if wdIs T s wAnd = true then sB (F (nx' T s) c) fun q => elp F T f q.1 q.2.1 (l ++ fl ha 10 ++ q.2.2) ho true else if wdIs T s wOr = true then sB (F (nx' T s) c) fun q => elp F T f q.1 q.2.1 (l ++ fl ha 10 ++ fl ho 11 ++ q.2.2) true false else .inr (s, c, l ++ fl ha 10 ++ fl ho 11)) = .inr q := e
    by_cases hA : wdIs T s wAnd = true
    · rw [if_pos hA] at e
      obtain ⟨a, e1, e2⟩ := sB_inr e
      exact elp_fx hF f _ _ _ _ _ q (hF _ _ _ e1) e2
    · rw [if_neg hA] at e
      by_cases hO : wdIs T s wOr = true
      · rw [if_pos hO] at e
        obtain ⟨a, e1, e2⟩ := sB_inr e
        exact elp_fx hF f _ _ _ _ _ q (hF _ _ _ e1) e2
      · rw [if_neg hO] at e
        cases e
        exact h
theorem pE_fx1 {T : TP} {F : Nat → Nat → Er} (hF : ∀ s c q, F s c = .inr q → fxB T q.1) {s c : Nat} {q : Nat × Nat × EL} (e : pE F T s c = .inr q) : fxB T q.1 := by
  obtain ⟨a, e1, e2⟩ := sB_inr e
  exact elp_fx hF _ _ _ _ _ _ q (hF _ _ _ e1) e2
theorem pFa_fx {T : TP} : ∀ (g s c : Nat) (q : Nat × Nat × EL), pFa T g s c = .inr q → fxB T q.1
  | 0, s, c, q, e => by
    have e : (if wdIs T s wNot = true ∨ Bt T s = 91 then .inl (ft s 2) else pC T s c) = .inr q := e
    by_cases h : wdIs T s wNot = true ∨ Bt T s = 91
    · rw [if_pos h] at e
      cases e
    · rw [if_neg h] at e
      exact pC_fx e
  | g + 1, s, c, q, e => by
    have e : (if wdIs T s wNot = true then sB (pFa T g (nx' T s) c) fun q => .inr (q.1, q.2.1, q.2.2 ++ [(9, 0)]) else if Bt T s = 91 then sB (pE (pFa T g) T (nx' T s) c) fun q => if Bt T q.1 = 93 then .inr (nx' T q.1, q.2.1, q.2.2) else .inl (ft q.1 0) else pC T s c) = .inr q := e
    by_cases hN : wdIs T s wNot = true
    · rw [if_pos hN] at e
      obtain ⟨a, e1, e2⟩ := sB_inr e
      cases e2
      exact pFa_fx g _ _ a e1
    · rw [if_neg hN] at e
      by_cases h9 : Bt T s = 91
      · rw [if_pos h9] at e
        obtain ⟨a, e1, e2⟩ := sB_inr e
        by_cases h3 : Bt T a.1 = 93
        · rw [if_pos h3] at e2
          cases e2
          exact fx_nx T _
        · rw [if_neg h3] at e2
          cases e2
      · rw [if_neg h9] at e
        exact pC_fx e
theorem pE_fx {T : TP} {s c : Nat} {q : Nat × Nat × EL} (e : pE (pFa T 10) T s c = .inr q) : fxB T q.1 := pE_fx1 (pFa_fx 10) e
def RF2 (m m' : MM) (sl : Nat) : Prop := (∀ k, k ≠ 33 → k ≠ 34 → k ≠ 35 → k ≠ 36 → m'.1 k = m.1 k) ∧ (∀ a, a ≠ 28 → a ≠ 29 → a ≠ 31 → a ≠ 32 → a ≠ 33 → a ≠ 34 → m'.2.1 a = m.2.1 a) ∧ (∀ a, (a = 28 ∨ a = 29) → ∀ j, (j < 300 * sl ∨ 300 * sl + 300 ≤ j) → m'.2.1 a j = m.2.1 a j) ∧ ∀ a, (a = 31 ∨ a = 32 ∨ a = 33) → ∀ j, (j < 12 * sl ∨ 12 * sl + 12 ≤ j) → m'.2.1 a j = m.2.1 a j
theorem RF2_trans {a b c : MM} {sl : Nat} (h : RF2 a b sl) (g : RF2 b c sl) : RF2 a c sl := ⟨fun k h1 h2 h3 h4 => (g.1 k h1 h2 h3 h4).trans (h.1 k h1 h2 h3 h4), fun r h1 h2 h3 h4 h5 h6 => (g.2.1 r h1 h2 h3 h4 h5 h6).trans (h.2.1 r h1 h2 h3 h4 h5 h6), fun r h1 j hj => (g.2.2.1 r h1 j hj).trans (h.2.2.1 r h1 j hj), fun r h1 j hj => (g.2.2.2 r h1 j hj).trans (h.2.2.2 r h1 j hj)⟩
theorem RF2_FRM {m m' : MM} {sl : Nat} (h : FRM m m' sl) : RF2 m m' sl := ⟨h.1, fun a h1 h2 _ _ _ h6 => h.2.1 a h1 h2 h6, h.2.2, fun a ha j _ => by rw [h.2.1 a (by omega) (by omega) (by omega)]⟩
theorem RF2_A {m m' : MM} {sl n : Nat} (h : RF2 m m' sl) {a : Nat} (ha : a = 31 ∨ a = 32 ∨ a = 33) (hn : n < 12) (v : Int32) : RF2 m (mA m' a (12 * sl + n) v) sl := by
  refine ⟨h.1, fun b h1 h2 h3 h4 h5 h6 => ?_, fun b hb j hj => ?_, fun b hb j hj => ?_⟩
  · rw [mA_ne _ _ _ (by omega)]
    exact h.2.1 b h1 h2 h3 h4 h5 h6
  · rw [mA_ne _ _ _ (by omega)]
    exact h.2.2.1 b hb j hj
  · by_cases e : b = a
    · rw [e, mA_eq, upd_ne _ _ (by omega)]
      exact h.2.2.2 a ha j hj
    · rw [mA_ne _ _ _ e]
      exact h.2.2.2 b hb j hj
theorem MB_R {m m' : MM} {T : TP} {sl : Nat} (h : RF2 m m' sl) (hB : MB m T sl) : MB m' T sl := ⟨⟨(h.1 28 (by decide) (by decide) (by decide) (by decide)).trans hB.1.1, fun i hi => by rw [h.2.1 27 (by decide) (by decide) (by decide) (by decide) (by decide) (by decide)]; exact hB.1.2 i hi⟩, (h.1 31 (by decide) (by decide) (by decide) (by decide)).trans hB.2.1, (h.1 37 (by decide) (by decide) (by decide) (by decide)).trans hB.2.2.1, hB.2.2.2⟩
theorem CR_Aa (m : MM) (sl : Nat) (l : EL) (c p f : Nat) {a : Nat} (h1 : a ≠ 28) (h2 : a ≠ 29) (j : Nat) (v : Int32) : mA (mS (CR m sl l c) p f) a j v = mS (CR (mA m a j v) sl l c) p f := by
  refine Prod.ext rfl (Prod.ext (funext fun b => ?_) rfl)
  show (if b = a then upd (if a = 28 then _ else if a = 29 then _ else m.2.1 a) j v else if b = 28 then _ else if b = 29 then _ else m.2.1 b) = (if b = 28 then (fun j' => if 300 * sl ≤ j' ∧ j' < 300 * sl + l.length then _ else (if 28 = a then _ else m.2.1 28) j') else if b = 29 then (fun j' => if 300 * sl ≤ j' ∧ j' < 300 * sl + l.length then _ else (if 29 = a then _ else m.2.1 29) j') else if b = a then upd (m.2.1 a) j v else m.2.1 b)
  rw [if_neg h1, if_neg h2, if_neg (Ne.symm h1), if_neg (Ne.symm h2)]
  by_cases h : b = a
  · rw [if_pos h, if_neg (by omega), if_neg (by omega), if_pos h]
  · rw [if_neg h, if_neg h]
/-- the places of a clause -/
def CLo (m m' : MM) (sl n a b c : Nat) : Prop := (∀ k, k ≠ 34 → k ≠ 36 → m'.1 k = m.1 k) ∧ (∀ r, r ≠ 31 → r ≠ 32 → r ≠ 33 → r ≠ 34 → m'.2.1 r = m.2.1 r) ∧ m'.2.1 31 = upd (m.2.1 31) (12 * sl + n) (nI a) ∧ m'.2.1 32 = upd (m.2.1 32) (12 * sl + n) (nI b) ∧ m'.2.1 33 = upd (m.2.1 33) (12 * sl + n) (nI c)
theorem CLo_RF {m m' : MM} {sl n a b c : Nat} (hn : n < 12) (h : CLo m m' sl n a b c) : RF2 m m' sl := by
  obtain ⟨h1, h2, h3, h4, h5⟩ := h
  refine ⟨fun k _ q2 _ q4 => h1 k q2 q4, fun r _ _ q3 q4 q5 q6 => h2 r q3 q4 q5 q6, fun r hr j _ => by rw [h2 r (by omega) (by omega) (by omega) (by omega)], fun r hr j hj => ?_⟩
  rcases hr with rfl | rfl | rfl
  · rw [h3, upd_ne _ _ (by omega)]
  · rw [h4, upd_ne _ _ (by omega)]
  · rw [h5, upd_ne _ _ (by omega)]
theorem CLo_mk {m m2 : MM} {sl n a b c : Nat} (h : BF (mA (mA m 31 (12 * sl + n) (nI a)) 32 (12 * sl + n) (nI b)) m2) : CLo m (mA m2 33 (12 * sl + n) (nI c)) sl n a b c := by
  refine ⟨fun k q1 q2 => h.1 k q1 q2, fun r q1 q2 q3 q4 => ?_, ?_, ?_, ?_⟩
  · rw [mA_ne _ _ _ q3, h.2 r q4, mA_ne _ _ _ q2, mA_ne _ _ _ q1]
  · rw [mA_ne _ _ _ (by decide), h.2 31 (by decide), mA_ne _ _ _ (by decide), mA_eq]
  · rw [mA_ne _ _ _ (by decide), h.2 32 (by decide), mA_eq, mA_ne _ _ _ (by decide)]
  · rw [mA_eq, h.2 33 (by decide), mA_ne _ _ _ (by decide), mA_ne _ _ _ (by decide)]
section RM6
variable {L : Nat} {xs : Nat → Int32} {sh : List Sh} {x : ST} {T : TP} {sl : Nat}
theorem i_takesM (d : Nat) (hM : isMo sh) {m : MM} {p f : Nat} (hi : MTa m T) (hV : VTa T) (hp : p ≤ 450) : cI (ZZ L xs) (d + 3) mX13_takes [.ref 259, .retAddr 27] (HP sh (pM x (mS m p f))) = some (HP sh (pM x (mS m (rn isB T p + (if wdIs T (rn isB T p) wIf = true then 2 else 0)) f)), z01 (wdIs T (rn isB T p) wIf)) := by
  have h400 := hV.1
  have hr : rn isB T p ≤ 450 := rn_top2 isB hp (by omega)
  have hst := i_stoodM (L := L) (xs := xs) (x := x) (m := m) (f := f) (d + 1) hM hi hV (show rn isB T p < 1000 by omega) (k := 26) (w := wIf) (by unfold isS; decide) (by decide) (by decide) (by decide)
  have hst : cI (ZZ L xs) (d + 2) mX13_stood [.ref 259, .retAddr 27] (HP sh (pM x (mS m (rn isB T p) f))) = _ := hst
  refine cI_of ?_
  show RS (ZZ L xs) (d + 3) mX13_takes 0 [some (.ref 259), some (.retAddr 27), none] [] _ = _
  rw [bX13_takes_0 (hv1 := rfl), M_is hM, some_bind', v_blanksM d hM hi hV T.1 p (by omega) (by omega), some_bind', M_is hM, some_bind', hst, some_bind', M_p hM, some_bind', show (mS m (rn isB T p) f).1 29 = nI (rn isB T p) from rfl]
  by_cases h : wdIs T (rn isB T p) wIf = true
  · rw [if_neg (z1 h), show sN (ZZ L xs) (.retAddr 27) = some (nI 2) from sN_of (k := 26) (w := wIf) (by unfold isS; decide), some_bind', bX13_takes_27 (hw2 := rfl), nI_add, Mw_p hM, some_bind', mS_p, if_pos h, if_pos (z01_or _)]
  · rw [if_pos (z0 h), bX13_takes_27 (hw2 := rfl), show nI (rn isB T p) + 0 = nI (rn isB T p + 0) from nI_add _ 0, Mw_p hM, some_bind', mS_p, if_neg h, if_pos (z01_or _)]
/-- one clause -/
theorem v_rclauM (d : Nat) (hM : isMo sh) (hV : VTa T) {m : MM} {p c n : Nat} {l : EL} (hB : MB m T sl) (h34 : m.1 34 = 0) (hp : p ≤ 450) (hc : c ≤ 60) (hn : n ≤ 12) (hlen : 3 * l.length ≤ rn isB T p + 4 * c) : (∃ e m' p', pR T n (rn isB T p) c = .inl e ∧ (0 < e ∧ e < 10000) ∧ cV (ZZ L xs) (d + 10) mX13_ruleClause [.ref 259, .int (nI n)] (HP sh (pM x (mS (CR m sl l c) p 0))) = some (HP sh (pM x (mS m' p' e))) ∧ p' ≤ 450 ∧ RF2 m m' sl) ∨ ∃ q m' p', pR T n (rn isB T p) c = .inr q ∧ cV (ZZ L xs) (d + 10) mX13_ruleClause [.ref 259, .int (nI n)] (HP sh (pM x (mS (CR m sl l c) p 0))) = some (HP sh (pM x (mS (CR m' sl (l ++ q.2.2.1 ++ q.2.2.2) q.2.1) p' 0))) ∧ p' ≤ 450 ∧ rn isB T p' = q.1 ∧ m'.1 34 = 0 ∧ CLo m m' sl n l.length (l.length + q.2.2.1.length) (l.length + q.2.2.1.length + q.2.2.2.length) := by
  have h400 := hV.1
  have hr : rn isB T p ≤ 450 := rn_top2 isB hp (by omega)
  have ftl : ∀ k, k ≤ 4 → 0 < ft (rn isB T p) k ∧ ft (rn isB T p) k < 10000 := fun k hk => by unfold ft; omega
  have h5 := hB.2.2.2
  have b0 : CL (ZZ L xs) (d + 10) mX13_ruleClause [.ref 259, .int (nI n)] (HP sh (pM x (mS (CR m sl l c) p 0))) = _ := bX13_ruleClause_0 (d + 9) 259 (nI n) (HP sh (pM x (mS (CR m sl l c) p 0)))
  have hst := i_stoodM (L := L) (xs := xs) (x := x) (m := CR m sl l c) (f := 0) (d + 8) hM hB.1 hV (show rn isB T p < 1000 by omega) (k := 15) (w := wAsk) (by unfold isS; decide) (by decide) (by decide) (by decide)
  have hst : cI (ZZ L xs) (d + 9) mX13_stood [.ref 259, .retAddr 16] (HP sh (pM x (mS (CR m sl l c) (rn isB T p) 0))) = _ := hst
  rw [M_is hM, some_bind', v_blanksM (d + 7) hM (MTa_CR hB) hV T.1 p (by omega) (by omega), some_bind', M_p hM, some_bind', show (mS (CR m sl l c) (rn isB T p) 0).1 29 = nI (rn isB T p) from rfl, M_is hM, some_bind', hst, some_bind'] at b0
  unfold pR
  by_cases hA : wdIs T (rn isB T p) wAsk = true
  · rw [if_pos (z1 hA)] at b0
    rw [if_pos hA]
    obtain ⟨n1, n2⟩ := wd_end (by decide) hA
    have n1 : rn isB T (rn isB T p + 3) = nx' T (rn isB T p) := n1
    have n2 : rn isB T p + 3 ≤ T.1 := n2
    have n3 := (nx_le (show rn isB T p ≤ T.1 by omega)).1
    by_cases h12 : n = 12
    · rw [if_pos h12]
      rw [if_neg (fun z => z (by rw [h12]; rfl)), M_is hM, some_bind', show cV (ZZ L xs) (d + 9) mX13_fails [.ref 259, .int 4, .int (nI (rn isB T p))] (HP sh (pM x (mS (CR m sl l c) (rn isB T p) 0))) = _ from v_failsM (d + 8) hM 4 (rn isB T p) (by decide), some_bind', fz_z] at b0
      exact Or.inl ⟨_, _, _, rfl, ftl 4 (by decide), cV_of b0, hr, RF2_FRM (FRM_CR m sl c (by omega))⟩
    · rw [if_neg h12]
      have hn2 : n < 12 := by omega
      have hix : 12 * sl + n < 72 := by omega
      have hB1 : MB (mA m 31 (12 * sl + n) (nI l.length)) T sl := hB
      obtain ⟨M1, a1, a2⟩ := v_sumM (L := L) (xs := xs) (x := x) (m := mA m 31 (12 * sl + n) (nI l.length)) (sl := sl) (p := rn isB T p + 3) (l := l) (c := c) (d + 3) hM hB1 hV (by omega) hc (by rw [n1]; omega)
      rw [n1] at a2
      have rf1 : RF2 m (mA m 31 (12 * sl + n) (nI l.length)) sl := RF2_A (RF2_FRM (FRM_refl m sl)) (Or.inl rfl) hn2 _
      rw [if_pos (show ¬ nI n = 12 from fun z => h12 ((nI_eq (b := 12) (by omega) (by decide)).mp z)), M_p hM, some_bind', show (mS (CR m sl l c) (rn isB T p) 0).1 29 = nI (rn isB T p) from rfl, show nI (rn isB T p) + 3 = nI (rn isB T p + 3) from nI_add _ 3, Mw_p hM, some_bind', mS_p, M_slot hM, some_bind', show (mS (CR m sl l c) (rn isB T p + 3) 0).1 31 = nI sl from hB.2.1, M_sumAt hM, some_bind', M_entries hM, some_bind', show (mS (CR m sl l c) (rn isB T p + 3) 0).1 33 = nI l.length from rfl, nI_12m, nI_add, Mu_sumAt hM hix, some_bind', CR_Aa _ _ _ _ _ _ (by decide) (by decide), M_is hM, some_bind', a1, some_bind', M_testAt hM, some_bind', M_entries hM, some_bind', Mu_testAt hM hix, some_bind', M_fault hM, some_bind'] at b0
      rcases a2 with ⟨e, m', p', e1, e2, e3, e4, e5⟩ | ⟨q, e1, e2⟩
      · rw [e3, show ∀ v, (mA (mS m' p' e) 32 (12 * sl + n) v).1 30 = nI e from fun _ => rfl, if_pos (nI_ne0 (by omega) (by omega)), bX13_ruleClause_104, M_endAt hM, some_bind', M_entries hM, some_bind', Mu_endAt hM hix, some_bind'] at b0
        exact Or.inl ⟨e, mA (mA m' 32 (12 * sl + n) _) 33 (12 * sl + n) _, p', by rw [e1]; rfl, e2, cV_of b0, e4, RF2_A (RF2_A (RF2_trans rf1 (RF2_FRM e5)) (Or.inr (Or.inl rfl)) hn2 _) (Or.inr (Or.inr rfl)) hn2 _⟩
      · obtain ⟨g1, g2, g3, g4, g5, g6⟩ := pS_in hc e1
        have hlq : (l ++ q.2.2).length = l.length + q.2.2.length := by rw [List.length_append]
        have hfx : rn isB T q.1 = q.1 := pS_fx e1
        have htk := i_takesM (L := L) (xs := xs) (x := x) (f := 0) (p := q.1) (m := CR (mA (mA m 31 (12 * sl + n) (nI l.length)) 32 (12 * sl + n) (nI (l.length + q.2.2.length))) sl (l ++ q.2.2) q.2.1) (T := T) (d + 6) hM hB.1 hV (by omega)
        rw [hfx] at htk
        rw [e2, show (mS (CR (mA m 31 (12 * sl + n) (nI l.length)) sl (l ++ q.2.2) q.2.1) q.1 0).1 33 = nI (l.length + q.2.2.length) from congrArg nI hlq, show (mA (mS (CR (mA m 31 (12 * sl + n) (nI l.length)) sl (l ++ q.2.2) q.2.1) q.1 0) 32 (12 * sl + n) (nI (l.length + q.2.2.length))).1 30 = 0 from rfl, if_neg (fun z => z rfl), CR_Aa _ _ _ _ _ _ (by decide) (by decide), M_is hM, some_bind', htk, some_bind'] at b0
        rw [e1]
        generalize hm2 : mA (mA m 31 (12 * sl + n) (nI l.length)) 32 (12 * sl + n) (nI (l.length + q.2.2.length)) = m2 at *
        have rf2 : RF2 m m2 sl := by
          rw [← hm2]
          exact RF2_A rf1 (Or.inr (Or.inl rfl)) hn2 _
        have hB2 : MB m2 T sl := MB_R rf2 hB
        have h342 : m2.1 34 = 0 := by rw [← hm2]; exact h34
        show (∃ e m' p', (if wdIs T q.1 wIf = true then sB (pE (pFa T 10) T (nx' T q.1) q.2.1) fun r => .inr (r.1, r.2.1, q.2.2, r.2.2) else .inr (q.1, q.2.1, q.2.2, [])) = .inl e ∧ _) ∨ ∃ q' m' p', (if wdIs T q.1 wIf = true then sB (pE (pFa T 10) T (nx' T q.1) q.2.1) fun r => .inr (r.1, r.2.1, q.2.2, r.2.2) else .inr (q.1, q.2.1, q.2.2, [])) = .inr q' ∧ _
        by_cases hI : wdIs T q.1 wIf = true
        · obtain ⟨w1, w2⟩ := wd_end (by decide) hI
          have w1 : rn isB T (q.1 + 2) = nx' T q.1 := w1
          have w2 : q.1 + 2 ≤ T.1 := w2
          have w3 := (nx_le g3).1
          rw [if_neg (z1 hI), if_pos hI, M_is hM, some_bind'] at b0
          have ht := v_testM (L := L) (xs := xs) (x := x) (p := q.1 + 2) (c := q.2.1) (l := l ++ q.2.2) d hM hV hB2 h342 (by omega) g5 (by rw [w1]; omega)
          rw [w1] at ht
          rw [if_pos hI]
          rcases ht with ⟨e, m3, p3, x1, x2, x3, x4, x5⟩ | ⟨r, m3, x1, x2, x3, x4⟩
          · rw [x3, some_bind', bX13_ruleClause_104, M_endAt hM, some_bind', M_entries hM, some_bind', Mu_endAt hM hix, some_bind'] at b0
            exact Or.inl ⟨e, mA m3 33 (12 * sl + n) _, p3, by rw [x1]; rfl, x2, cV_of b0, x4, RF2_A (RF2_trans rf2 (RF2_FRM x5)) (Or.inr (Or.inr rfl)) hn2 _⟩
          · obtain ⟨-, k2, k3, k4, k5, k6⟩ := pE_in (pFa_in 10) g5 x1
            have hl3 : (l ++ q.2.2 ++ r.2.2).length = l.length + q.2.2.length + r.2.2.length := by rw [List.length_append, hlq]
            rw [x2, some_bind', bX13_ruleClause_104, M_endAt hM, some_bind', M_entries hM, some_bind', show (mS (CR m3 sl (l ++ q.2.2 ++ r.2.2) r.2.1) r.1 0).1 33 = nI (l.length + q.2.2.length + r.2.2.length) from congrArg nI hl3, Mu_endAt hM hix, some_bind', CR_Aa _ _ _ _ _ _ (by decide) (by decide)] at b0
            refine Or.inr ⟨(r.1, r.2.1, q.2.2, r.2.2), mA m3 33 (12 * sl + n) _, r.1, by rw [x1]; rfl, cV_of b0, by omega, ?_, x3, CLo_mk (by rw [hm2]; exact x4)⟩
            exact pE_fx x1
        · rw [if_pos (z0 hI), if_neg hI, bX13_ruleClause_104, M_endAt hM, some_bind', M_entries hM, some_bind', show (mS (CR m2 sl (l ++ q.2.2) q.2.1) (q.1 + 0) 0).1 33 = nI (l.length + q.2.2.length) from congrArg nI hlq, Mu_endAt hM hix, some_bind', CR_Aa _ _ _ _ _ _ (by decide) (by decide)] at b0
          rw [if_neg hI]
          refine Or.inr ⟨(q.1, q.2.1, q.2.2, []), mA m2 33 (12 * sl + n) _, q.1 + 0, rfl, (cV_of b0).trans ?_, by omega, hfx, h342, CLo_mk (by rw [hm2]; exact BF_refl m2)⟩
          show _ = some (HP sh (pM x (mS (CR (mA m2 33 (12 * sl + n) (nI (l.length + q.2.2.length))) sl (l ++ q.2.2 ++ []) q.2.1) (q.1 + 0) 0)))
          rw [List.append_nil]
  · rw [if_neg (fun z => z (z0 hA)), M_is hM, some_bind', show cV (ZZ L xs) (d + 9) mX13_fails [.ref 259, .int 0, .int (nI (rn isB T p))] (HP sh (pM x (mS (CR m sl l c) (rn isB T p) 0))) = _ from v_failsM (d + 8) hM 0 (rn isB T p) (by decide), some_bind', fz_z] at b0
    rw [if_neg hA]
    exact Or.inl ⟨_, _, _, rfl, ftl 0 (by decide), cV_of b0, hr, RF2_FRM (FRM_CR m sl c (by omega))⟩
end RM6
