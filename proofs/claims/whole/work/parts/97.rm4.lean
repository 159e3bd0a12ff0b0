/-! rules in the model: tests -/
def fxB (T : TP) (a : Nat) : Prop := rn isB T a = a
theorem fx_nx (T : TP) (s : Nat) : fxB T (nx' T s) := rn_rn rfl T _
theorem tlp_fx {T : TP} : ∀ (f s c : Nat) (l : EL) (q : Nat × Nat × EL), fxB T s → tlp T f s c l = .inr q → fxB T q.1
  | 0, s, c, l, q, h, e => by
    cases e
    exact h
  | f + 1, s, c, l, q, h, e => by
    have e : (if mulK (Bt T s) = 0 then .inr (s, c, l) else sB (pV T (nx' T s) c) fun en => tlp T f (nx' T (nx' T s)) (c + 1) (l ++ [en, (mulK (Bt T s), 0)])) = .inr q := e
    by_cases hk : mulK (Bt T s) = 0
    · rw [if_pos hk] at e
      cases e
      exact h
    · rw [if_neg hk] at e
      obtain ⟨a, -, e2⟩ := sB_inr e
      exact tlp_fx f _ _ _ q (fx_nx T _) e2
theorem pT_fx {T : TP} {s c : Nat} {q : Nat × Nat × EL} (e : pT T s c = .inr q) : fxB T q.1 := by
  obtain ⟨a, -, e2⟩ := sB_inr e
  exact tlp_fx _ _ _ _ q (fx_nx T _) e2
theorem slp_fx {T : TP} : ∀ (f s c : Nat) (l : EL) (q : Nat × Nat × EL), fxB T s → slp T f s c l = .inr q → fxB T q.1
  | 0, s, c, l, q, h, e => by
    cases e
    exact h
  | f + 1, s, c, l, q, h, e => by
    have e : (if addK (Bt T s) = 0 then .inr (s, c, l) else sB (pT T (nx' T s) c) fun q => slp T f q.1 q.2.1 (l ++ q.2.2 ++ [(addK (Bt T s), 0)])) = .inr q := e
    by_cases hk : addK (Bt T s) = 0
    · rw [if_pos hk] at e
      cases e
      exact h
    · rw [if_neg hk] at e
      obtain ⟨a, e1, e2⟩ := sB_inr e
      exact slp_fx f _ _ _ q (pT_fx e1) e2
theorem pS_fx {T : TP} {s c : Nat} {q : Nat × Nat × EL} (e : pS T s c = .inr q) : fxB T q.1 := by
  obtain ⟨a, e1, e2⟩ := sB_inr e
  exact slp_fx _ _ _ _ q (pT_fx e1) e2
theorem pC_fx {T : TP} {s c : Nat} {q : Nat × Nat × EL} (e : pC T s c = .inr q) : fxB T q.1 := by
  obtain ⟨a, -, e2⟩ := sB_inr e
  by_cases h : cmK T a.1 = 0
  · rw [if_pos h] at e2
    cases e2
  · rw [if_neg h] at e2
    by_cases h6 : a.2.1 = 60
    · rw [if_pos h6] at e2
      cases e2
    · rw [if_neg h6] at e2
      obtain ⟨b, f1, f2⟩ := sB_inr e2
      cases f2
      exact pS_fx (q := b) f1
theorem wd_end {T : TP} {s : Nat} {w : List Nat} (hw : 2 ≤ w.length) (h : wdIs T s w = true) : rn isB T (s + w.length) = nx' T s ∧ s + w.length ≤ T.1 := by
  have hne : w ≠ [] := fun z => by rw [z] at hw; exact absurd hw (by decide)
  obtain ⟨h1, h2⟩ := wdIs_en hne h
  have hs : s ≤ T.1 := Nat.le_of_lt (wd_lt hw h).2
  have := en_le hs
  exact ⟨by unfold nx'; rw [h2], by omega⟩
section RM4
variable {L : Nat} {xs : Nat → Int32} {sh : List Sh} {x : ST} {T : TP} {sl : Nat}
noncomputable def TK (L : Nat) (xs : Nat → Int32) (sh : List Sh) (x : ST) (d : Nat) (w : Int32) (M : MM) : Option (PH × Option Value) := RS (ZZ L xs) (d + 9) mX13_test 9 [some (.ref 259), some (.int w), some (.int 1), none, none] [] (HP sh (pM x M))
theorem t_F (d : Nat) (hM : isMo sh) (w : Int32) {m : MM} {p f : Nat} (hf : f ≠ 0) (hf2 : f < 10000) : TK L xs sh x d w (mS m p f) = some (HP sh (pM x (mS m p f)), none) := by
  unfold TK
  rw [bX13_test_9, if_neg (by decide), M_fault hM, some_bind', show (mS m p f).1 30 = nI f from rfl, if_pos (nI_ne0 (by omega) (by omega)), bX13_test_202]
/-- one fact -/
theorem i_factM (d : Nat) (hM : isMo sh) {m : MM} {stk : List Nat} {dp p c : Nat} {l : EL} (hB : MB m T sl) (hV : VTa T) (hs : SKP m stk dp) (hl : stk.length < 402) (hdp : dp ≤ 10) (hp : p ≤ 450) (hc : c ≤ 60) (hlen : 3 * l.length ≤ rn isB T p + 4 * c) : (wdIs T (rn isB T p) wNot = true ∧ ∃ m', cI (ZZ L xs) (d + 8) mX13_fact [.ref 259] (HP sh (pM x (mS (CR m sl l c) p 0))) = some (HP sh (pM x (mS (CR m' sl l c) (rn isB T p + 3) (if dp = 10 then ft (rn isB T p) 2 else 0))), 0) ∧ SKP m' (stk ++ [9]) (dp + 1) ∧ BF m m') ∨ (¬ wdIs T (rn isB T p) wNot = true ∧ Bt T (rn isB T p) = 91 ∧ ∃ m', cI (ZZ L xs) (d + 8) mX13_fact [.ref 259] (HP sh (pM x (mS (CR m sl l c) p 0))) = some (HP sh (pM x (mS (CR m' sl l c) (rn isB T p + 1) (if dp = 10 then ft (rn isB T p) 2 else 0))), 0) ∧ SKP m' (stk ++ [12]) (dp + 1) ∧ BF m m') ∨ (¬ wdIs T (rn isB T p) wNot = true ∧ ¬ Bt T (rn isB T p) = 91 ∧ ∃ M', cI (ZZ L xs) (d + 8) mX13_fact [.ref 259] (HP sh (pM x (mS (CR m sl l c) p 0))) = some (HP sh (pM x M'), 1) ∧ MOut m sl l M' (pC T (rn isB T p) c)) := by
  have h400 := hV.1
  have hr : rn isB T p ≤ 450 := rn_top2 isB hp (by omega)
  have hrl := rn_le isB T p
  have b0 : CL (ZZ L xs) (d + 8) mX13_fact [.ref 259] (HP sh (pM x (mS (CR m sl l c) p 0))) = _ := bX13_fact_0 (d + 7) 259 (HP sh (pM x (mS (CR m sl l c) p 0)))
  have hst := i_stoodM (L := L) (xs := xs) (x := x) (m := CR m sl l c) (f := 0) (d + 6) hM hB.1 hV (show rn isB T p < 1000 by omega) (k := 27) (w := wNot) (by unfold isS; decide) (by decide) (by decide) (by decide)
  have hst : cI (ZZ L xs) (d + 7) mX13_stood [.ref 259, .retAddr 28] (HP sh (pM x (mS (CR m sl l c) (rn isB T p) 0))) = _ := hst
  rw [M_is hM, some_bind', v_blanksM (d + 5) hM (MTa_CR hB) hV T.1 p (by omega) (by omega), some_bind', M_is hM, some_bind', hst, some_bind'] at b0
  by_cases hN : wdIs T (rn isB T p) wNot = true
  · obtain ⟨m', a1, a2, a3⟩ := v_opensM (L := L) (xs := xs) (x := x) (p := rn isB T p) (c := c) (l := l) (sl := sl) (k := 9) (d + 5) hM hs hl (Or.inl rfl) hdp
    have a1 : cV (ZZ L xs) (d + 7) mX13_opens [.ref 259, .int 9] (HP sh (pM x (mS (CR m sl l c) (rn isB T p) 0))) = some (HP sh (pM x (mS (CR m' sl l c) (rn isB T p) (if dp = 10 then ft (rn isB T p) 2 else 0)))) := by
      refine a1.trans ?_
      by_cases h : dp = 10
      · rw [if_pos ⟨Or.inl rfl, h⟩, if_pos h]
      · rw [if_neg (fun z => h z.2), if_neg h]
    rw [if_pos (Or.inl rfl)] at a2
    refine Or.inl ⟨hN, m', cI_of (b0.trans ?_), a2, a3⟩
    rw [if_neg (z1 hN), M_is hM, some_bind', a1, some_bind', M_p hM, some_bind', show ∀ f, (mS (CR m' sl l c) (rn isB T p) f).1 29 = nI (rn isB T p) from fun _ => rfl, show nI (rn isB T p) + 3 = nI (rn isB T p + 3) from nI_add _ 3, Mw_p hM, some_bind', mS_p, if_pos (Or.inl rfl)]
  · rw [if_pos (z0 hN), M_is hM, some_bind', i_signM (d + 6) hM (MTa_CR hB) hV (by omega), some_bind'] at b0
    by_cases h9 : Bt T (rn isB T p) = 91
    · obtain ⟨m', a1, a2, a3⟩ := v_opensM (L := L) (xs := xs) (x := x) (p := rn isB T p) (c := c) (l := l) (sl := sl) (k := 12) (d + 5) hM hs hl (Or.inr (Or.inl rfl)) hdp
      have a1 : cV (ZZ L xs) (d + 7) mX13_opens [.ref 259, .int 12] (HP sh (pM x (mS (CR m sl l c) (rn isB T p) 0))) = some (HP sh (pM x (mS (CR m' sl l c) (rn isB T p) (if dp = 10 then ft (rn isB T p) 2 else 0)))) := by
        refine a1.trans ?_
        by_cases h : dp = 10
        · rw [if_pos ⟨Or.inr rfl, h⟩, if_pos h]
        · rw [if_neg (fun z => h z.2), if_neg h]
      rw [if_pos (Or.inr rfl)] at a2
      refine Or.inr (Or.inl ⟨hN, h9, m', cI_of (b0.trans ?_), a2, a3⟩)
      rw [if_neg (fun z => z (show sgn T (rn isB T p) = 91 from (sgn_eq hV (c := 91) (by decide)).mpr h9)), M_is hM, some_bind', a1, some_bind', M_p hM, some_bind', show ∀ f, (mS (CR m' sl l c) (rn isB T p) f).1 29 = nI (rn isB T p) from fun _ => rfl, nI_1, Mw_p hM, some_bind', mS_p, if_pos (Or.inl rfl)]
    · obtain ⟨M', a1, a2⟩ := v_cmpM (L := L) (xs := xs) (x := x) (m := m) (sl := sl) (p := rn isB T p) (l := l) (c := c) d hM hB hV hr hc (by rw [rn_rn rfl]; exact hlen)
      rw [rn_rn rfl] at a2
      refine Or.inr (Or.inr ⟨hN, h9, M', cI_of (b0.trans ?_), a2⟩)
      rw [if_pos (show ¬ sgn T (rn isB T p) = 91 from fun z => h9 ((sgn_eq hV (c := 91) (by decide)).mp z)), M_is hM, some_bind', a1, some_bind', if_pos (Or.inr rfl)]
/-- wanting: a fact, and on -/
theorem t_w (d : Nat) (hM : isMo sh) {m : MM} {p : Nat} {M' : MM} {r : Int32} (h : cI (ZZ L xs) (d + 8) mX13_fact [.ref 259] (HP sh (pM x (mS m p 0))) = some (HP sh (pM x M'), r)) (hr : r = 0 ∨ r = 1) : TK L xs sh x d 1 (mS m p 0) = TK L xs sh x d (1 - r) M' := by
  unfold TK
  rw [bX13_test_9, if_neg (by decide), M_fault hM, some_bind', show (mS m p 0).1 30 = 0 from rfl, if_neg (fun z => z rfl), if_neg (by decide), M_is hM, some_bind', h, some_bind']
  rcases hr with rfl | rfl
  · rw [if_neg (fun z => z rfl), bX13_test_36]
    rfl
  · rw [if_pos (show ¬ (1 : Int32) = 0 by decide), bX13_test_36]
    rfl
/-- what stands behind an answered "not" -/
noncomputable def tK9 (L : Nat) (xs : Nat → Int32) (d : Nat) (p43 : PH) : Option (PH × Option Value) := (iO p43 (.ref 259) 13).bind fun b47 => (cV (ZZ L xs) (d + 8) mX13_blanks [.ref b47] p43).bind fun p47 => (iO p47 (.ref 259) 13).bind fun b54 => (cI (ZZ L xs) (d + 8) mX13_stood [.ref b54, .retAddr 29] p47).bind fun p54 => (iO p54.1 (.ref 259) 13).bind fun b62 => (cI (ZZ L xs) (d + 8) mX13_stood [.ref b62, .retAddr 30] p54.1).bind fun p62 => (iO p62.1 (.ref 259) 13).bind fun b70 => (cV (ZZ L xs) (d + 8) mX13_answers [.ref b70, .int 10] p62.1).bind fun p70 => if ¬ (p54.2 : Int32) = 0 then RS (ZZ L xs) (d + 9) mX13_test 82 [some (.ref 259), some (.int 0), some (.int 1), some (.int p54.2), some (.int p62.2)] [] p70 else if (p62.2 : Int32) = 0 then (iO p70 (.ref 259) 13).bind fun b134 => (cV (ZZ L xs) (d + 8) mX13_answers [.ref b134, .int 11] p70).bind fun p134 => (iO p134 (.ref 259) 13).bind fun b138 => (cI (ZZ L xs) (d + 8) mX13_top [.ref b138] p134).bind fun p138 => if ¬ (p138.2 : Int32) = 12 then RS (ZZ L xs) (d + 9) mX13_test 199 [some (.ref 259), some (.int 0), some (.int 0), some (.int p54.2), some (.int p62.2)] [] p138.1 else (iO p138.1 (.ref 259) 13).bind fun b147 => (cI (ZZ L xs) (d + 8) mX13_sign [.ref b147] p138.1).bind fun p147 => if (p147.2 : Int32) = 93 then RS (ZZ L xs) (d + 9) mX13_test 164 [some (.ref 259), some (.int 0), some (.int 1), some (.int p54.2), some (.int p62.2)] [] p147.1 else (fI p147.1 (.ref 259) 13 29).bind fun x158 => (iO p147.1 (.ref 259) 13).bind fun b161 => (cV (ZZ L xs) (d + 8) mX13_fails [.ref b161, .int 0, .int x158] p147.1).bind fun p161 => RS (ZZ L xs) (d + 9) mX13_test 164 [some (.ref 259), some (.int 0), some (.int 1), some (.int p54.2), some (.int p62.2)] [] p161 else RS (ZZ L xs) (d + 9) mX13_test 82 [some (.ref 259), some (.int 0), some (.int 1), some (.int p54.2), some (.int p62.2)] [] p70
theorem t_9 (d : Nat) (hM : isMo sh) {M : MM} (h : M.1 30 = 0) : TK L xs sh x d 0 M = (cV (ZZ L xs) (d + 8) mX13_answers [.ref 259, .int 9] (HP sh (pM x M))).bind (tK9 L xs d) := by
  unfold TK
  rw [bX13_test_9, if_neg (by decide), M_fault hM, some_bind', h, if_neg (fun z => z rfl), if_pos rfl, M_is hM, some_bind']
  rfl
/-- a "not" ends with its fact -/
theorem t_not (d : Nat) (hM : isMo sh) {m : MM} {stk : List Nat} {dp p c : Nat} {l : EL} (hB : MB m T sl) (hs : SKP m (stk ++ [9]) (dp + 1)) (hl : stk.length < 401) (hln : l.length < 300) : ∃ m', BF m m' ∧ SKP m' stk dp ∧ TK L xs sh x d 0 (mS (CR m sl l c) p 0) = TK L xs sh x d 0 (mS (CR m' sl (l ++ [(9, 0)]) c) p 0) := by
  obtain ⟨m', a1, a2, a3⟩ := a_pop (L := L) (xs := xs) (x := x) (p := p) (c := c) (d + 6) hM hB hs hl (by decide) hln (fun _ => by omega)
  have a3 : cV (ZZ L xs) (d + 8) mX13_answers [.ref 259, .int 9] (HP sh (pM x (mS (CR m sl l c) p 0))) = cV (ZZ L xs) (d + 8) mX13_answers [.ref 259, .int 9] (HP sh (pM x (mS (CR m' sl (l ++ [(9, 0)]) c) p 0))) := a3
  rw [if_pos rfl, show dp + 1 - 1 = dp by omega] at a2
  refine ⟨m', a1, a2, ?_⟩
  rw [t_9 d hM rfl, t_9 d hM rfl, a3]
/-- where a test ends, or the bracket that it stands in -/
noncomputable def tEnd (L : Nat) (xs : Nat → Int32) (sh : List Sh) (x : ST) (d : Nat) (M : MM) : Option (PH × Option Value) := (cI (ZZ L xs) (d + 8) mX13_top [.ref 259] (HP sh (pM x M))).bind fun p138 => if ¬ (p138.2 : Int32) = 12 then RS (ZZ L xs) (d + 9) mX13_test 199 [some (.ref 259), some (.int 0), some (.int 0), some (.int 0), some (.int 0)] [] p138.1 else (iO p138.1 (.ref 259) 13).bind fun b147 => (cI (ZZ L xs) (d + 8) mX13_sign [.ref b147] p138.1).bind fun p147 => if (p147.2 : Int32) = 93 then RS (ZZ L xs) (d + 9) mX13_test 164 [some (.ref 259), some (.int 0), some (.int 1), some (.int 0), some (.int 0)] [] p147.1 else (fI p147.1 (.ref 259) 13 29).bind fun x158 => (iO p147.1 (.ref 259) 13).bind fun b161 => (cV (ZZ L xs) (d + 8) mX13_fails [.ref b161, .int 0, .int x158] p147.1).bind fun p161 => RS (ZZ L xs) (d + 9) mX13_test 164 [some (.ref 259), some (.int 0), some (.int 1), some (.int 0), some (.int 0)] [] p161
theorem t_end0 (d : Nat) (hM : isMo sh) {m : MM} {dp p c : Nat} {l : EL} (hs : SKP m [] dp) : tEnd L xs sh x d (mS (CR m sl l c) p 0) = some (HP sh (pM x (mS (CR m sl l c) p 0)), none) := by
  unfold tEnd
  rw [i_topM (d + 7) hM hs (by decide), some_bind', if_pos (show ¬ lastK [] = 12 by decide), bX13_test_199, bX13_test_9, if_pos rfl, bX13_test_202]
theorem t_end12 (d : Nat) (hM : isMo sh) {m : MM} {stk : List Nat} {dp p c : Nat} {l : EL} (hB : MB m T sl) (hV : VTa T) (hs : SKP m (stk ++ [12]) (dp + 1)) (hl : stk.length < 401) (hp : p ≤ 400) : ∃ m', BF m m' ∧ SKP m' stk dp ∧ tEnd L xs sh x d (mS (CR m sl l c) p 0) = TK L xs sh x d 0 (mS (CR m' sl l c) (p + 1) (if Bt T p = 93 then 0 else ft p 0)) := by
  have hlen : (stk ++ [12]).length = stk.length + 1 := by simp
  refine ⟨mI (mI m 36 (nI stk.length)) 34 (nI dp), ⟨fun j h1 h2 => by rw [mI_ne _ _ h1, mI_ne _ _ h2], fun _ _ => rfl⟩, ⟨by rw [mI_ne _ _ (by decide)]; exact mI_eq _ _ _, mI_eq _ _ _, fun j hj => ?_⟩, ?_⟩
  · show m.2.1 34 j = _
    rw [hs.2.2 j (by omega), nd_lt hj]
  · have b164 : ∀ f2, RS (ZZ L xs) (d + 9) mX13_test 164 [some (.ref 259), some (.int 0), some (.int 1), some (.int 0), some (.int 0)] [] (HP sh (pM x (mS (CR m sl l c) p f2))) = TK L xs sh x d 0 (mS (CR (mI (mI m 36 (nI stk.length)) 34 (nI dp)) sl l c) (p + 1) f2) := fun f2 => by
      rw [bX13_test_164, M_p hM, some_bind', show (mS (CR m sl l c) p f2).1 29 = nI p from rfl, nI_1, Mw_p hM, some_bind', mS_p, M_opened hM, some_bind', show (mS (CR m sl l c) (p + 1) f2).1 36 = nI (stk.length + 1) from hs.1.trans (by rw [hlen]), nI_pred, Mw_opened hM, some_bind', CR_I _ _ _ _ _ _ (Or.inr rfl), M_deep hM, some_bind', show (mS (CR (mI m 36 (nI stk.length)) sl l c) (p + 1) f2).1 34 = nI (dp + 1) from hs.2.1, nI_pred, Mw_deep hM, some_bind', CR_I _ _ _ _ _ _ (Or.inl rfl), bX13_test_199]
      rfl
    unfold tEnd
    rw [i_topM (d + 7) hM hs (by omega), some_bind', lastK_app, if_neg (show ¬ ¬ (nI 12 : Int32) = 12 by decide), M_is hM, some_bind', i_signM (d + 7) hM (MTa_CR hB) hV (by omega), some_bind']
    by_cases h : Bt T p = 93
    · rw [if_pos (show sgn T p = 93 from (sgn_eq hV (c := 93) (by decide)).mpr h), if_pos h, b164]
    · rw [if_neg (show ¬ sgn T p = 93 from fun z => h ((sgn_eq hV (c := 93) (by decide)).mp z)), if_neg h, M_p hM, some_bind', show (mS (CR m sl l c) p 0).1 29 = nI p from rfl, M_is hM, some_bind', show cV (ZZ L xs) (d + 8) mX13_fails [.ref 259, .int 0, .int (nI p)] (HP sh (pM x (mS (CR m sl l c) p 0))) = _ from v_failsM (d + 7) hM 0 p (by decide), some_bind', fz_z, b164]
end RM4
