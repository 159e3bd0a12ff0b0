/-! rules in the model: facts and tests, any depth -/
section RM5
variable {L : Nat} {xs : Nat → Int32} {sh : List Sh} {x : ST} {T : TP} {sl : Nat}
def jnt (b : Bool) (k : Nat) : List Nat := if b = true then [k] else []
theorem jnt_len (b : Bool) (k : Nat) : (jnt b k).length ≤ 1 := by
  cases b
  · exact Nat.zero_le _
  · exact Nat.le_refl _
theorem FRM_BF {m m' m2 : MM} {sl : Nat} (h : BF m m') (g : FRM m' m2 sl) : FRM m m2 sl := FRM_trans (BF_FRM sl h) g
def MFact (L : Nat) (xs : Nat → Int32) (sh : List Sh) (x : ST) (T : TP) (sl d g : Nat) : Prop := ∀ (dp : Nat) (stk : List Nat) (m : MM) (p c : Nat) (l : EL), dp + g = 10 → SKP m stk dp → stk.length ≤ 3 * dp + 2 → MB m T sl → p ≤ 450 → c ≤ 60 → 3 * l.length ≤ rn isB T p + 4 * c → (∃ e m' p', pFa T g (rn isB T p) c = .inl e ∧ (0 < e ∧ e < 10000) ∧ TK L xs sh x d 1 (mS (CR m sl l c) p 0) = some (HP sh (pM x (mS m' p' e)), none) ∧ p' ≤ 450 ∧ FRM m m' sl) ∨ ∃ q m' p', pFa T g (rn isB T p) c = .inr q ∧ TK L xs sh x d 1 (mS (CR m sl l c) p 0) = TK L xs sh x d 0 (mS (CR m' sl (l ++ q.2.2) q.2.1) p' 0) ∧ p' ≤ T.1 ∧ rn isB T p' = q.1 ∧ SKP m' stk dp ∧ BF m m'
def MEnd (L : Nat) (xs : Nat → Int32) (sh : List Sh) (x : ST) (sl d : Nat) (m : MM) (l : EL) (stk : List Nat) (dp : Nat) (X : Option (PH × Option Value)) (R : Er) : Prop := (∃ e m' p', R = .inl e ∧ (0 < e ∧ e < 10000) ∧ X = some (HP sh (pM x (mS m' p' e)), none) ∧ p' ≤ 450 ∧ FRM m m' sl) ∨ ∃ q m', R = .inr q ∧ X = tEnd L xs sh x d (mS (CR m' sl (l ++ q.2.2) q.2.1) q.1 0) ∧ SKP m' stk dp ∧ BF m m'
theorem t_elp (d : Nat) (hM : isMo sh) (hV : VTa T) {g dp : Nat} (hg : dp + g = 10) (hF : MFact L xs sh x T sl d g) {stk : List Nat} (hk : stk.length ≤ 3 * dp) (h9 : ¬ lastK stk = nI 9) (h10 : ¬ lastK stk = nI 10) (h11 : ¬ lastK stk = nI 11) : ∀ (f s c : Nat) (l lt : EL) (ho ha : Bool) (m : MM) (p : Nat), p ≤ T.1 → rn isB T p = s → c ≤ 60 → 61 ≤ c + f → SKP m (stk ++ jnt ho 11 ++ jnt ha 10) dp → MB m T sl → 3 * ((l ++ lt).length + (fl ha 10).length + (fl ho 11).length) ≤ s + 4 * c → MEnd L xs sh x sl d m l stk dp (TK L xs sh x d 0 (mS (CR m sl (l ++ lt) c) p 0)) (elp (pFa T g) T f s c lt ho ha) := by
  have h400 := hV.1
  intro f
  induction f with
  | zero => intro s c l lt ho ha m p _ _ h1 h2; omega
  | succ f ih =>
    intro s c l lt ho ha m p hp hs hc hf hsk hB hlen
    have hsT : s ≤ T.1 := by rw [← hs]; exact rn_top isB hp
    have j1 := jnt_len ho 11
    have j2 := jnt_len ha 10
    have l1 : (stk ++ jnt ho 11 ++ jnt ha 10).length = stk.length + (jnt ho 11).length + (jnt ha 10).length := by rw [List.length_append, List.length_append]
    have l2 : (stk ++ jnt ho 11).length = stk.length + (jnt ho 11).length := by rw [List.length_append]
    have l3 : (l ++ lt ++ fl ha 10).length = (l ++ lt).length + (fl ha 10).length := by rw [List.length_append]
    have l4 : (l ++ lt ++ fl ha 10 ++ fl ho 11).length = (l ++ lt ++ fl ha 10).length + (fl ho 11).length := by rw [List.length_append]
    have k9 : ¬ lastK (stk ++ jnt ho 11 ++ jnt ha 10) = nI 9 := by
      cases ha with
      | true =>
        rw [show jnt true 10 = [10] from rfl, lastK_app]
        decide
      | false =>
        cases ho with
        | true =>
          rw [show jnt false 10 = [] from rfl, List.append_nil, show jnt true 11 = [11] from rfl, lastK_app]
          decide
        | false =>
          rw [show jnt false 10 = [] from rfl, show jnt false 11 = [] from rfl, List.append_nil, List.append_nil]
          exact h9
    have k10 : ¬ lastK (stk ++ jnt ho 11) = nI 10 := by
      cases ho with
      | true =>
        rw [show jnt true 11 = [11] from rfl, lastK_app]
        decide
      | false =>
        rw [show jnt false 11 = [] from rfl, List.append_nil]
        exact h10
    have q9 : cV (ZZ L xs) (d + 8) mX13_answers [.ref 259, .int 9] (HP sh (pM x (mS (CR m sl (l ++ lt) c) p 0))) = _ := a_stop (k := 9) (d + 6) hM hsk (by omega) k9
    have hA0 := i_stoodM (L := L) (xs := xs) (x := x) (m := CR m sl (l ++ lt) c) (f := 0) (d + 7) hM hB.1 hV (show s < 1000 by omega) (k := 28) (w := wAnd) (by unfold isS; decide) (by decide) (by decide) (by decide)
    have hA0 : cI (ZZ L xs) (d + 8) mX13_stood [.ref 259, .retAddr 29] (HP sh (pM x (mS (CR m sl (l ++ lt) c) s 0))) = _ := hA0
    have hO0 := i_stoodM (L := L) (xs := xs) (x := x) (m := CR m sl (l ++ lt) c) (f := 0) (d + 7) hM hB.1 hV (show s < 1000 by omega) (k := 29) (w := wOr) (by unfold isS; decide) (by decide) (by decide) (by decide)
    have hO0 : cI (ZZ L xs) (d + 8) mX13_stood [.ref 259, .retAddr 30] (HP sh (pM x (mS (CR m sl (l ++ lt) c) s 0))) = _ := hO0
    obtain ⟨m1, a1, a2, a3⟩ := a_one (L := L) (xs := xs) (x := x) (p := s) (c := c) (s0 := stk ++ jnt ho 11) (k := 10) (b := ha) (l := l ++ lt) (d + 6) hM hB hsk (by omega) (Or.inl rfl) (by omega) k10
    have a3 : cV (ZZ L xs) (d + 8) mX13_answers [.ref 259, .int 10] (HP sh (pM x (mS (CR m sl (l ++ lt) c) s 0))) = _ := a3
    have hB1 := BF_MB a1 hB
    have e0 := t_9 (L := L) (xs := xs) (x := x) (M := mS (CR m sl (l ++ lt) c) p 0) d hM rfl
    rw [q9, some_bind'] at e0
    unfold tK9 at e0
    rw [M_is hM, some_bind', v_blanksM (d + 6) hM (MTa_CR hB) hV T.1 p (by omega) (by omega), some_bind', hs, M_is hM, some_bind', hA0, some_bind', M_is hM, some_bind', hO0, some_bind', M_is hM, some_bind', a3, some_bind'] at e0
    have hel : elp (pFa T g) T (f + 1) s c lt ho ha = if wdIs T s wAnd = true then sB (pFa T g (nx' T s) c) fun q => elp (pFa T g) T f q.1 q.2.1 (lt ++ fl ha 10 ++ q.2.2) ho true else if wdIs T s wOr = true then sB (pFa T g (nx' T s) c) fun q => elp (pFa T g) T f q.1 q.2.1 (lt ++ fl ha 10 ++ fl ho 11 ++ q.2.2) true false else .inr (s, c, lt ++ fl ha 10 ++ fl ho 11) := rfl
    rw [hel]
    by_cases hA : wdIs T s wAnd = true
    · have hO : ¬ wdIs T s wOr = true := fun z => by
        have y1 := (wdIs_en (by decide) hA).2
        have y2 := (wdIs_en (by decide) z).2
        have : s + 3 = s + 2 := y1.symm.trans y2
        omega
      obtain ⟨n1, n2⟩ := wd_end (by decide) hA
      have n1 : rn isB T (s + 3) = nx' T s := n1
      have n2 : s + 3 ≤ T.1 := n2
      have n3 := (nx_le hsT).1
      obtain ⟨m2, b1, b2, b3⟩ := v_opensM (L := L) (xs := xs) (x := x) (p := s) (c := c) (l := l ++ lt ++ fl ha 10) (sl := sl) (k := 10) (d + 6) hM a2 (by omega) (Or.inr (Or.inr (Or.inl rfl))) (by omega)
      have b1 : cV (ZZ L xs) (d + 8) mX13_opens [.ref 259, .int 10] (HP sh (pM x (mS (CR m1 sl (l ++ lt ++ fl ha 10) c) s 0))) = some (HP sh (pM x (mS (CR m2 sl (l ++ lt ++ fl ha 10) c) s 0))) := b1
      have b2 : SKP m2 (stk ++ jnt ho 11 ++ [10]) dp := b2
      rw [if_pos (z1 hA), bX13_test_82, if_pos (z0 hO), bX13_test_93, if_neg (z1 hA), bX13_test_105 (hw1 := rfl), M_is hM, some_bind', b1, some_bind', M_p hM, some_bind', if_neg (z1 hA), bX13_test_122 (hw2 := rfl), show (mS (CR m2 sl (l ++ lt ++ fl ha 10) c) s 0).1 29 = nI s from rfl, show nI s + 3 = nI (s + 3) from nI_add _ 3, Mw_p hM, some_bind', mS_p, bX13_test_199] at e0
      have e0 : _ = TK L xs sh x d 1 (mS (CR m2 sl (l ++ lt ++ fl ha 10) c) (s + 3) 0) := e0
      have b12 : BF m m2 := BF_trans a1 b3
      have hB2 := BF_MB b12 hB
      rw [e0, if_pos hA]
      have hfa := hF dp (stk ++ jnt ho 11 ++ [10]) m2 (s + 3) c (l ++ lt ++ fl ha 10) hg b2 (by rw [List.length_append, l2]; show _ + 1 ≤ _; omega) hB2 (by omega) hc (by rw [n1]; omega)
      rw [n1] at hfa
      rcases hfa with ⟨e, m3, p3, x1, x2, x3, x4, x5⟩ | ⟨q, m3, p3, x1, x2, x3, x4, x5, x6⟩
      · exact Or.inl ⟨e, m3, p3, by rw [x1]; rfl, x2, x3, x4, FRM_BF b12 x5⟩
      · obtain ⟨-, g1, g2, g3, g4, g5⟩ := pFa_in g _ _ _ hc x1
        have ll : l ++ lt ++ fl ha 10 ++ q.2.2 = l ++ (lt ++ fl ha 10 ++ q.2.2) := by simp
        have l5 : (l ++ (lt ++ fl ha 10 ++ q.2.2)).length = (l ++ lt ++ fl ha 10).length + q.2.2.length := by rw [← ll, List.length_append]
        rw [x2, x1, ll]
        have hi := ih q.1 q.2.1 l (lt ++ fl ha 10 ++ q.2.2) ho true m3 p3 x3 x4 g4 (by omega) x5 (BF_MB x6 hB2) (by rw [l5]; show 3 * (_ + 1 + _) ≤ _; omega)
        rcases hi with ⟨e, m4, p4, y1, y2, y3, y4, y5⟩ | ⟨q4, m4, y1, y2, y3, y4⟩
        · exact Or.inl ⟨e, m4, p4, y1, y2, y3, y4, FRM_BF (BF_trans b12 x6) y5⟩
        · exact Or.inr ⟨q4, m4, y1, y2, y3, BF_trans (BF_trans b12 x6) y4⟩
    · rw [if_neg (fun z => z (z0 hA))] at e0
      rw [if_neg hA]
      obtain ⟨m2, b1, b2, b3⟩ := a_one (L := L) (xs := xs) (x := x) (p := s) (c := c) (s0 := stk) (k := 11) (b := ho) (l := l ++ lt ++ fl ha 10) (d + 6) hM hB1 a2 (by omega) (Or.inr rfl) (by omega) h11
      have b3 : cV (ZZ L xs) (d + 8) mX13_answers [.ref 259, .int 11] (HP sh (pM x (mS (CR m1 sl (l ++ lt ++ fl ha 10) c) s 0))) = _ := b3
      have b12 : BF m m2 := BF_trans a1 b1
      have hB2 := BF_MB b12 hB
      by_cases hO : wdIs T s wOr = true
      · obtain ⟨n1, n2⟩ := wd_end (by decide) hO
        have n1 : rn isB T (s + 2) = nx' T s := n1
        have n2 : s + 2 ≤ T.1 := n2
        have n3 := (nx_le hsT).1
        obtain ⟨m3, c1, c2, c3⟩ := v_opensM (L := L) (xs := xs) (x := x) (p := s) (c := c) (l := l ++ lt ++ fl ha 10 ++ fl ho 11) (sl := sl) (k := 11) (d + 6) hM b2 (by omega) (Or.inr (Or.inr (Or.inr rfl))) (by omega)
        have c1 : cV (ZZ L xs) (d + 8) mX13_opens [.ref 259, .int 11] (HP sh (pM x (mS (CR m2 sl (l ++ lt ++ fl ha 10 ++ fl ho 11) c) s 0))) = some (HP sh (pM x (mS (CR m3 sl (l ++ lt ++ fl ha 10 ++ fl ho 11) c) s 0))) := c1
        have c2 : SKP m3 (stk ++ [11]) dp := c2
        rw [if_neg (z1 hO), bX13_test_82, if_neg (z1 hO), M_is hM, some_bind', b3, some_bind', bX13_test_93, if_pos (z0 hA), bX13_test_105 (hw1 := rfl), M_is hM, some_bind', c1, some_bind', M_p hM, some_bind', if_pos (z0 hA), bX13_test_122 (hw2 := rfl), show (mS (CR m3 sl (l ++ lt ++ fl ha 10 ++ fl ho 11) c) s 0).1 29 = nI s from rfl, show nI s + 2 = nI (s + 2) from nI_add _ 2, Mw_p hM, some_bind', mS_p, bX13_test_199] at e0
        have e0 : _ = TK L xs sh x d 1 (mS (CR m3 sl (l ++ lt ++ fl ha 10 ++ fl ho 11) c) (s + 2) 0) := e0
        have b13 : BF m m3 := BF_trans b12 c3
        have hB3 := BF_MB b13 hB
        rw [e0, if_pos hO]
        have hfa := hF dp (stk ++ [11]) m3 (s + 2) c (l ++ lt ++ fl ha 10 ++ fl ho 11) hg c2 (by rw [List.length_append]; show _ + 1 ≤ _; omega) hB3 (by omega) hc (by rw [n1]; omega)
        rw [n1] at hfa
        rcases hfa with ⟨e, m4, p4, x1, x2, x3, x4, x5⟩ | ⟨q, m4, p4, x1, x2, x3, x4, x5, x6⟩
        · exact Or.inl ⟨e, m4, p4, by rw [x1]; rfl, x2, x3, x4, FRM_BF b13 x5⟩
        · obtain ⟨-, g1, g2, g3, g4, g5⟩ := pFa_in g _ _ _ hc x1
          have ll : l ++ lt ++ fl ha 10 ++ fl ho 11 ++ q.2.2 = l ++ (lt ++ fl ha 10 ++ fl ho 11 ++ q.2.2) := by simp
          have l5 : (l ++ (lt ++ fl ha 10 ++ fl ho 11 ++ q.2.2)).length = (l ++ lt ++ fl ha 10 ++ fl ho 11).length + q.2.2.length := by rw [← ll, List.length_append]
          rw [x2, x1, ll]
          have hi := ih q.1 q.2.1 l (lt ++ fl ha 10 ++ fl ho 11 ++ q.2.2) true false m4 p4 x3 x4 g4 (by omega) (by rw [show jnt false 10 = [] from rfl, List.append_nil]; exact x5) (BF_MB x6 hB3) (by rw [l5]; show 3 * (_ + 0 + 1) ≤ _; omega)
          rcases hi with ⟨e, m5, p5, y1, y2, y3, y4, y5⟩ | ⟨q5, m5, y1, y2, y3, y4⟩
          · exact Or.inl ⟨e, m5, p5, y1, y2, y3, y4, FRM_BF (BF_trans b13 x6) y5⟩
          · exact Or.inr ⟨q5, m5, y1, y2, y3, BF_trans (BF_trans b13 x6) y4⟩
      · rw [if_pos (z0 hO), M_is hM, some_bind', b3, some_bind', M_is hM, some_bind', z0 hA, z0 hO] at e0
        rw [if_neg hO, e0]
        refine Or.inr ⟨(s, c, lt ++ fl ha 10 ++ fl ho 11), m2, rfl, ?_, b2, b12⟩
        rw [show l ++ (lt ++ fl ha 10 ++ fl ho 11) = l ++ lt ++ fl ha 10 ++ fl ho 11 by simp]
        rfl
def MTest (L : Nat) (xs : Nat → Int32) (sh : List Sh) (x : ST) (T : TP) (sl d g : Nat) : Prop := ∀ (dp : Nat) (stk : List Nat) (m : MM) (p c : Nat) (l : EL), dp + g = 10 → SKP m stk dp → stk.length ≤ 3 * dp → ¬ lastK stk = nI 9 → ¬ lastK stk = nI 10 → ¬ lastK stk = nI 11 → MB m T sl → p ≤ 450 → c ≤ 60 → 3 * l.length ≤ rn isB T p + 4 * c → MEnd L xs sh x sl d m l stk dp (TK L xs sh x d 1 (mS (CR m sl l c) p 0)) (pE (pFa T g) T (rn isB T p) c)
theorem mtest_of (d : Nat) (hM : isMo sh) (hV : VTa T) {g : Nat} (hF : MFact L xs sh x T sl d g) : MTest L xs sh x T sl d g := by
  have h400 := hV.1
  intro dp stk m p c l hg hs hk h9 h10 h11 hB hp hc hlen
  unfold pE
  rcases hF dp stk m p c l hg hs (by omega) hB hp hc hlen with ⟨e, m3, p3, x1, x2, x3, x4, x5⟩ | ⟨q, m3, p3, x1, x2, x3, x4, x5, x6⟩
  · exact Or.inl ⟨e, m3, p3, by rw [x1]; rfl, x2, x3, x4, x5⟩
  · obtain ⟨-, g1, g2, g3, g4, g5⟩ := pFa_in g _ _ _ hc x1
    have l5 : (l ++ q.2.2).length = l.length + q.2.2.length := by rw [List.length_append]
    rw [x2, x1]
    rcases t_elp (L := L) (xs := xs) (x := x) d hM hV hg hF hk h9 h10 h11 61 q.1 q.2.1 l q.2.2 false false m3 p3 x3 x4 g4 (by omega) (by rw [show jnt false 10 = [] from rfl, show jnt false 11 = [] from rfl, List.append_nil, List.append_nil]; exact x5) (BF_MB x6 hB) (by rw [l5]; show 3 * (_ + 0 + 0) ≤ _; omega) with ⟨e, m4, p4, y1, y2, y3, y4, y5⟩ | ⟨q4, m4, y1, y2, y3, y4⟩
    · exact Or.inl ⟨e, m4, p4, y1, y2, y3, y4, FRM_BF x6 y5⟩
    · exact Or.inr ⟨q4, m4, y1, y2, y3, BF_trans x6 y4⟩
theorem mfact (d : Nat) (hM : isMo sh) (hV : VTa T) : ∀ g, MFact L xs sh x T sl d g := by
  have h400 := hV.1
  have ftl : ∀ s k, s ≤ 450 → k ≤ 4 → 0 < ft s k ∧ ft s k < 10000 := fun s k h1 h2 => by unfold ft; omega
  have hcmp : ∀ (g dp : Nat) (stk : List Nat) (m : MM) (p c : Nat) (l : EL), SKP m stk dp → MB m T sl → p ≤ 450 → c ≤ 60 → 3 * l.length ≤ rn isB T p + 4 * c → pFa T g (rn isB T p) c = pC T (rn isB T p) c → (∃ M', cI (ZZ L xs) (d + 8) mX13_fact [.ref 259] (HP sh (pM x (mS (CR m sl l c) p 0))) = some (HP sh (pM x M'), 1) ∧ MOut m sl l M' (pC T (rn isB T p) c)) → (∃ e m' p', pFa T g (rn isB T p) c = .inl e ∧ (0 < e ∧ e < 10000) ∧ TK L xs sh x d 1 (mS (CR m sl l c) p 0) = some (HP sh (pM x (mS m' p' e)), none) ∧ p' ≤ 450 ∧ FRM m m' sl) ∨ ∃ q m' p', pFa T g (rn isB T p) c = .inr q ∧ TK L xs sh x d 1 (mS (CR m sl l c) p 0) = TK L xs sh x d 0 (mS (CR m' sl (l ++ q.2.2) q.2.1) p' 0) ∧ p' ≤ T.1 ∧ rn isB T p' = q.1 ∧ SKP m' stk dp ∧ BF m m' := by
    intro g dp stk m p c l hs hB hp hc hlen hpf ⟨M', a1, a2⟩
    have a0 := t_w (L := L) (xs := xs) (x := x) d hM a1 (Or.inr rfl)
    rw [hpf, a0]
    rcases a2 with ⟨e, m', p', e1, e2, e3, e4, e5⟩ | ⟨q, e1, e2⟩
    · exact Or.inl ⟨e, m', p', e1, e2, by rw [e3]; exact t_F d hM _ (by omega) e2.2, e4, e5⟩
    · obtain ⟨-, g1, g2, g3, g4, g5⟩ := pC_in hc e1
      exact Or.inr ⟨q, m, q.1, e1, by rw [e2]; rfl, g2, pC_fx e1, hs, BF_refl m⟩
  intro g
  induction g with
  | zero =>
    intro dp stk m p c l hg hs hk hB hp hc hlen
    have hr : rn isB T p ≤ 450 := rn_top2 isB hp (by omega)
    have hd : dp = 10 := by omega
    have hpf : pFa T 0 (rn isB T p) c = if wdIs T (rn isB T p) wNot = true ∨ Bt T (rn isB T p) = 91 then .inl (ft (rn isB T p) 2) else pC T (rn isB T p) c := rfl
    have f2 := ftl _ 2 hr (by decide)
    rcases i_factM (L := L) (xs := xs) (x := x) d hM hB hV hs (by omega) (by omega) hp hc hlen with ⟨hN, m', a1, a2, a3⟩ | ⟨hN, h9, m', a1, a2, a3⟩ | ⟨hN, h9, a⟩
    · have hsT := (wd_lt (by decide) hN).2
      have a0 := t_w (L := L) (xs := xs) (x := x) d hM a1 (Or.inl rfl)
      rw [if_pos hd, t_F d hM _ (by omega) f2.2] at a0
      exact Or.inl ⟨_, _, _, by rw [hpf, if_pos (Or.inl hN)], f2, a0, by omega, FRM_BF a3 (FRM_CR m' sl c (by omega))⟩
    · have hsT : rn isB T p < T.1 := Bt_in (by omega)
      have a0 := t_w (L := L) (xs := xs) (x := x) d hM a1 (Or.inl rfl)
      rw [if_pos hd, t_F d hM _ (by omega) f2.2] at a0
      exact Or.inl ⟨_, _, _, by rw [hpf, if_pos (Or.inr h9)], f2, a0, by omega, FRM_BF a3 (FRM_CR m' sl c (by omega))⟩
    · exact hcmp 0 dp stk m p c l hs hB hp hc hlen (by rw [hpf, if_neg (fun z => z.elim hN h9)]) a
  | succ g ih =>
    intro dp stk m p c l hg hs hk hB hp hc hlen
    have hr : rn isB T p ≤ 450 := rn_top2 isB hp (by omega)
    have hd : ¬ dp = 10 := by omega
    have hpf : pFa T (g + 1) (rn isB T p) c = if wdIs T (rn isB T p) wNot = true then sB (pFa T g (nx' T (rn isB T p)) c) fun q => .inr (q.1, q.2.1, q.2.2 ++ [(9, 0)]) else if Bt T (rn isB T p) = 91 then sB (pE (pFa T g) T (nx' T (rn isB T p)) c) fun q => if Bt T q.1 = 93 then .inr (nx' T q.1, q.2.1, q.2.2) else .inl (ft q.1 0) else pC T (rn isB T p) c := rfl
    rcases i_factM (L := L) (xs := xs) (x := x) d hM hB hV hs (by omega) (by omega) hp hc hlen with ⟨hN, m', a1, a2, a3⟩ | ⟨hN, h9, m', a1, a2, a3⟩ | ⟨hN, h9, a⟩
    · obtain ⟨n1, n2⟩ := wd_end (by decide) hN
      have n1 : rn isB T (rn isB T p + 3) = nx' T (rn isB T p) := n1
      have n2 : rn isB T p + 3 ≤ T.1 := n2
      have n3 := (nx_le (show rn isB T p ≤ T.1 by omega)).1
      have a0 := t_w (L := L) (xs := xs) (x := x) d hM a1 (Or.inl rfl)
      rw [if_neg hd] at a0
      have hi := ih (dp + 1) (stk ++ [9]) m' (rn isB T p + 3) c l (by omega) a2 (by rw [List.length_append]; show _ + 1 ≤ _; omega) (BF_MB a3 hB) (by omega) hc (by rw [n1]; omega)
      rw [n1] at hi
      rw [hpf, if_pos hN, a0]
      rcases hi with ⟨e, m3, p3, x1, x2, x3, x4, x5⟩ | ⟨q, m3, p3, x1, x2, x3, x4, x5, x6⟩
      · exact Or.inl ⟨e, m3, p3, by rw [x1]; rfl, x2, x3, x4, FRM_BF a3 x5⟩
      · obtain ⟨-, g1, g2, g3, g4, g5⟩ := pFa_in g _ _ _ hc x1
        have l5 : (l ++ q.2.2).length = l.length + q.2.2.length := by rw [List.length_append]
        obtain ⟨m4, y1, y2, y3⟩ := t_not (L := L) (xs := xs) (x := x) (p := p3) (c := q.2.1) (l := l ++ q.2.2) d hM (BF_MB x6 (BF_MB a3 hB)) x5 (by omega) (by omega)
        refine Or.inr ⟨(q.1, q.2.1, q.2.2 ++ [(9, 0)]), m4, p3, by rw [x1]; rfl, ?_, x3, x4, y2, BF_trans (BF_trans a3 x6) y1⟩
        show _ = TK L xs sh x d 0 (mS (CR m4 sl (l ++ (q.2.2 ++ [(9, 0)])) q.2.1) p3 0)
        rw [show l ++ (q.2.2 ++ [(9, 0)]) = l ++ q.2.2 ++ [(9, 0)] by simp]
        exact x2.trans y3
    · have hsT : rn isB T p < T.1 := Bt_in (by omega)
      have n1 : rn isB T (rn isB T p + 1) = nx' T (rn isB T p) := en_sg (by rw [h9]; decide) (by rw [h9]; decide) (by omega) (fun z => by have := jE_iff.mp z; omega)
      have n3 := (nx_le (Nat.le_of_lt hsT)).1
      have a0 := t_w (L := L) (xs := xs) (x := x) d hM a1 (Or.inl rfl)
      rw [if_neg hd] at a0
      have hl12 : lastK (stk ++ [12]) = nI 12 := lastK_app _ _
      have hi := mtest_of d hM hV ih (dp + 1) (stk ++ [12]) m' (rn isB T p + 1) c l (by omega) a2 (by rw [List.length_append]; show _ + 1 ≤ _; omega) (by rw [hl12]; decide) (by rw [hl12]; decide) (by rw [hl12]; decide) (BF_MB a3 hB) (by omega) hc (by rw [n1]; omega)
      rw [n1] at hi
      rw [hpf, if_neg hN, if_pos h9, a0]
      rcases hi with ⟨e, m3, p3, x1, x2, x3, x4, x5⟩ | ⟨q, m3, x1, x2, x3, x4⟩
      · exact Or.inl ⟨e, m3, p3, by rw [x1]; rfl, x2, x3, x4, FRM_BF a3 x5⟩
      · obtain ⟨-, g1, g2, g3, g4, g5⟩ := pE_in (pFa_in g) hc x1
        have l5 : (l ++ q.2.2).length = l.length + q.2.2.length := by rw [List.length_append]
        obtain ⟨m4, y1, y2, y3⟩ := t_end12 (L := L) (xs := xs) (x := x) (p := q.1) (c := q.2.1) (l := l ++ q.2.2) d hM (BF_MB x4 (BF_MB a3 hB)) hV x3 (by omega) (by omega)
        have hbf := BF_trans (BF_trans a3 x4) y1
        have f0 := ftl q.1 0 (by omega) (by decide)
        have y3 := Eq.trans (show TK L xs sh x d (1 - 0) _ = _ from x2) y3
        by_cases h93 : Bt T q.1 = 93
        · have hq : q.1 < T.1 := Bt_in (by omega)
          rw [if_pos h93] at y3
          refine Or.inr ⟨(nx' T q.1, q.2.1, q.2.2), m4, q.1 + 1, ?_, y3, by omega, en_sg (by rw [h93]; decide) (by rw [h93]; decide) (by omega) (fun z => by have := jE_iff.mp z; omega), y2, hbf⟩
          rw [x1]
          show (if Bt T q.1 = 93 then _ else _) = _
          rw [if_pos h93]
        · rw [if_neg h93, t_F d hM _ (by omega) f0.2] at y3
          refine Or.inl ⟨ft q.1 0, _, q.1 + 1, ?_, f0, y3, by omega, FRM_BF hbf (FRM_CR m4 sl _ (by omega))⟩
          rw [x1]
          show (if Bt T q.1 = 93 then _ else _) = _
          rw [if_neg h93]
    · exact hcmp (g + 1) dp stk m p c l hs hB hp hc hlen (by rw [hpf, if_neg hN, if_neg h9]) a
/-- a test, read -/
theorem v_testM (d : Nat) (hM : isMo sh) (hV : VTa T) {m : MM} {p c : Nat} {l : EL} (hB : MB m T sl) (h34 : m.1 34 = 0) (hp : p ≤ 450) (hc : c ≤ 60) (hlen : 3 * l.length ≤ rn isB T p + 4 * c) : (∃ e m' p', pE (pFa T 10) T (rn isB T p) c = .inl e ∧ (0 < e ∧ e < 10000) ∧ cV (ZZ L xs) (d + 9) mX13_test [.ref 259] (HP sh (pM x (mS (CR m sl l c) p 0))) = some (HP sh (pM x (mS m' p' e))) ∧ p' ≤ 450 ∧ FRM m m' sl) ∨ ∃ q m', pE (pFa T 10) T (rn isB T p) c = .inr q ∧ cV (ZZ L xs) (d + 9) mX13_test [.ref 259] (HP sh (pM x (mS (CR m sl l c) p 0))) = some (HP sh (pM x (mS (CR m' sl (l ++ q.2.2) q.2.1) q.1 0))) ∧ m'.1 34 = 0 ∧ BF m m' := by
  have b0 : CL (ZZ L xs) (d + 9) mX13_test [.ref 259] (HP sh (pM x (mS (CR m sl l c) p 0))) = _ := bX13_test_0 (d + 8) 259 (HP sh (pM x (mS (CR m sl l c) p 0)))
  rw [Mw_opened hM, some_bind', CR_I _ _ _ _ _ _ (Or.inr rfl)] at b0
  have b0 : CL (ZZ L xs) (d + 9) mX13_test [.ref 259] (HP sh (pM x (mS (CR m sl l c) p 0))) = TK L xs sh x d 1 (mS (CR (mI m 36 0) sl l c) p 0) := b0
  have hbf : BF m (mI m 36 0) := ⟨fun j h1 h2 => mI_ne _ _ h2, fun _ _ => rfl⟩
  have hs : SKP (mI m 36 0) [] 0 := ⟨mI_eq _ _ _, by rw [mI_ne _ _ (by decide)]; exact h34, fun j hj => absurd hj (Nat.not_lt_zero j)⟩
  rcases mtest_of d hM hV (mfact (L := L) (xs := xs) (x := x) (sl := sl) d hM hV 10) 0 [] (mI m 36 0) p c l rfl hs (Nat.le_refl _) (by decide) (by decide) (by decide) (BF_MB hbf hB) hp hc hlen with ⟨e, m3, p3, x1, x2, x3, x4, x5⟩ | ⟨q, m3, x1, x2, x3, x4⟩
  · exact Or.inl ⟨e, m3, p3, x1, x2, cV_of (b0.trans x3), x4, FRM_BF hbf x5⟩
  · exact Or.inr ⟨q, m3, x1, cV_of (b0.trans (x2.trans (t_end0 d hM x3))), x3.2.1, BF_trans hbf x4⟩
end RM5
