/-! rules in the model: terms, sums, comparisons -/
theorem FRM_MB {m m' : MM} {T : TP} {sl : Nat} (h : FRM m m' sl) (hB : MB m T sl) : MB m' T sl := ⟨⟨(h.1 28 (by decide) (by decide) (by decide) (by decide)).trans hB.1.1, fun i hi => by rw [h.2.1 27 (by decide) (by decide) (by decide)]; exact hB.1.2 i hi⟩, (h.1 31 (by decide) (by decide) (by decide) (by decide)).trans hB.2.1, (h.1 37 (by decide) (by decide) (by decide) (by decide)).trans hB.2.2.1, hB.2.2.2⟩
/-- what a piece of the reader leaves -/
def MOut (m : MM) (sl : Nat) (l : EL) (M' : MM) (R : Er) : Prop := (∃ e m' p', R = .inl e ∧ (0 < e ∧ e < 10000) ∧ M' = mS m' p' e ∧ p' ≤ 450 ∧ FRM m m' sl) ∨ ∃ q, R = .inr q ∧ M' = mS (CR m sl (l ++ q.2.2) q.2.1) q.1 0
theorem en_sg {T : TP} {s : Nat} (h1 : isL (Bt T s) = false) (h2 : isD (Bt T s) = false) (h3 : Bt T s < 256) (hj : ¬ jE T s = true) : rn isB T (s + 1) = nx' T s := by
  have hk := (kd_sg rfl h1 h2 h3).1
  unfold nx' en
  rw [hk, if_neg (by decide), if_neg (by decide), if_neg (by decide), if_neg hj]
theorem en_sgj {T : TP} {s : Nat} (h1 : isL (Bt T s) = false) (h2 : isD (Bt T s) = false) (h3 : Bt T s < 256) (hj : jE T s = true) : rn isB T (s + 2) = nx' T s := by
  have hk := (kd_sg rfl h1 h2 h3).1
  unfold nx' en
  rw [hk, if_neg (by decide), if_neg (by decide), if_neg (by decide), if_pos hj]
section RM2
variable {L : Nat} {xs : Nat → Int32} {sh : List Sh} {x : ST} {m : MM} {T : TP} {sl p f : Nat}
theorem v_termF (d : Nat) (hM : isMo sh) (hi : MTa m T) (hw : m.1 37 = 12) (hV : VTa T) (hp : p ≤ 450) (hf : f ≠ 0) (hf2 : f < 10000) : ∃ w p', cV (ZZ L xs) (d + 5) mX13_term [.ref 259] (HP sh (pM x (mS m p f))) = some (HP sh (pM x (mS (mI m 35 w) p' f))) ∧ p' ≤ 450 := by
  have h400 := hV.1
  obtain ⟨w, p', a1, a2⟩ := v_valueF (L := L) (xs := xs) (x := x) (d) hM hi hw hV hp hf hf2
  have hi2 : MTa (mI m 35 w) T := hi
  refine ⟨w, rn isB T p', cV_of ?_, rn_top2 isB a2 (by omega)⟩
  show RS (ZZ L xs) (d + 5) mX13_term 0 [some (.ref 259), none] [] _ = _
  rw [bX13_term_0, M_is hM, some_bind', a1, some_bind', M_is hM, some_bind', v_blM (d + 2) hM hi2 hV (by omega), some_bind', bX13_term_8, M_fault hM, some_bind', show (mS (mI m 35 w) (rn isB T p') f).1 30 = nI f from rfl, if_pos (nI_ne0 (by omega) (by omega)), bX13_term_100]
theorem v_sumF (d : Nat) (hM : isMo sh) (hi : MTa m T) (hw : m.1 37 = 12) (hV : VTa T) (hp : p ≤ 450) (hf : f ≠ 0) (hf2 : f < 10000) : ∃ w p', cV (ZZ L xs) (d + 6) mX13_sum [.ref 259] (HP sh (pM x (mS m p f))) = some (HP sh (pM x (mS (mI m 35 w) p' f))) ∧ p' ≤ 450 := by
  obtain ⟨w, p', a1, a2⟩ := v_termF (L := L) (xs := xs) (x := x) (d) hM hi hw hV hp hf hf2
  refine ⟨w, p', cV_of ?_, a2⟩
  show RS (ZZ L xs) (d + 6) mX13_sum 0 [some (.ref 259), none] [] _ = _
  rw [bX13_sum_0, M_is hM, some_bind', a1, some_bind', bX13_sum_4, M_fault hM, some_bind', show (mS (mI m 35 w) p' f).1 30 = nI f from rfl, if_pos (nI_ne0 (by omega) (by omega)), bX13_sum_67]
theorem v_term8F {d : Nat} {u1 : Option Value} (hM : isMo sh) (hf : f ≠ 0) (hf2 : f < 10000) : RS (ZZ L xs) (d + 1) mX13_term 8 [some (.ref 259), u1] [] (HP sh (pM x (mS m p f))) = some (HP sh (pM x (mS m p f)), none) := by
  rw [bX13_term_8, M_fault hM, some_bind', show (mS m p f).1 30 = nI f from rfl, if_pos (nI_ne0 (by omega) (by omega)), bX13_term_100]
theorem v_sum4F {d : Nat} {u1 : Option Value} (hM : isMo sh) (hf : f ≠ 0) (hf2 : f < 10000) : RS (ZZ L xs) (d + 1) mX13_sum 4 [some (.ref 259), u1] [] (HP sh (pM x (mS m p f))) = some (HP sh (pM x (mS m p f)), none) := by
  rw [bX13_sum_4, M_fault hM, some_bind', show (mS m p f).1 30 = nI f from rfl, if_pos (nI_ne0 (by omega) (by omega)), bX13_sum_67]
theorem v_tlpM (d : Nat) (hM : isMo sh) (hB : MB m T sl) (hV : VTa T) (l : EL) : ∀ (g s c : Nat) (lt : EL) (u1 : Option Value), s ≤ T.1 → c ≤ 60 → 61 ≤ c + g → 3 * (l ++ lt).length ≤ s + 4 * c → ∃ M', RS (ZZ L xs) (d + 5) mX13_term 8 [some (.ref 259), u1] [] (HP sh (pM x (mS (CR m sl (l ++ lt) c) s 0))) = some (HP sh (pM x M'), none) ∧ MOut m sl l M' (tlp T g s c lt) := by
  have h400 := hV.1
  intro g
  induction g with
  | zero => intro s c lt u1 h1 h2 h3; omega
  | succ g ih =>
    intro s c lt u1 hs hc hg hlen
    have hi : MTa (CR m sl (l ++ lt) c) T := hB.1
    have ht : tlp T (g + 1) s c lt = if mulK (Bt T s) = 0 then .inr (s, c, lt) else sB (pV T (nx' T s) c) fun en => tlp T g (nx' T (nx' T s)) (c + 1) (lt ++ [en, (mulK (Bt T s), 0)]) := rfl
    rw [ht]
    have hsn := fun (k : Nat) (hk : k < 256) => sgn_eq (p := s) hV hk
    have hsig := i_signM (L := L) (xs := xs) (x := x) (f := 0) (p := s) (d + 3) hM hi hV (by omega)
    have b8 : RS (ZZ L xs) (d + 5) mX13_term 8 [some (.ref 259), u1] [] (HP sh (pM x (mS (CR m sl (l ++ lt) c) s 0))) = if mulK (Bt T s) = 0 then some (HP sh (pM x (mS (CR m sl (l ++ lt) c) s 0)), none) else RS (ZZ L xs) (d + 5) mX13_term 72 [some (.ref 259), none] [.int (nI (mulK (Bt T s)))] (HP sh (pM x (mS (CR m sl (l ++ lt) c) s 0))) := by
      rw [bX13_term_8, M_fault hM, some_bind', show (mS (CR m sl (l ++ lt) c) s 0).1 30 = 0 from rfl, if_neg (fun z => z rfl), M_is hM, some_bind', hsig, some_bind']
      have b42 : ∀ u : Option Value, RS (ZZ L xs) (d + 5) mX13_term 42 [some (.ref 259), u] [] (HP sh (pM x (mS (CR m sl (l ++ lt) c) s 0))) = if ¬ sgn T s = 42 then (if ¬ sgn T s = 47 then RS (ZZ L xs) (d + 5) mX13_term 72 [some (.ref 259), none] [.int 15] (HP sh (pM x (mS (CR m sl (l ++ lt) c) s 0))) else RS (ZZ L xs) (d + 5) mX13_term 72 [some (.ref 259), none] [.int 14] (HP sh (pM x (mS (CR m sl (l ++ lt) c) s 0)))) else RS (ZZ L xs) (d + 5) mX13_term 72 [some (.ref 259), none] [.int 13] (HP sh (pM x (mS (CR m sl (l ++ lt) c) s 0))) := fun u => by
        rw [bX13_term_42, M_is hM, some_bind', hsig, some_bind', M_is hM, some_bind', hsig, some_bind']
      unfold mulK
      by_cases c42 : Bt T s = 42
      · rw [if_pos (show sgn T s = 42 from (hsn 42 (by decide)).mpr c42), b42, if_neg (fun z => z ((hsn 42 (by decide)).mpr c42)), if_pos c42, if_neg (by decide)]
        rfl
      · rw [if_neg (show ¬ sgn T s = 42 from fun z => c42 ((hsn 42 (by decide)).mp z)), M_is hM, some_bind', hsig, some_bind', if_neg c42]
        by_cases c47 : Bt T s = 47
        · rw [if_pos (show sgn T s = 47 from (hsn 47 (by decide)).mpr c47), b42, if_pos (show ¬ sgn T s = 42 from fun z => c42 ((hsn 42 (by decide)).mp z)), if_neg (fun z => z ((hsn 47 (by decide)).mpr c47)), if_pos c47, if_neg (by decide)]
          rfl
        · rw [if_neg (show ¬ sgn T s = 47 from fun z => c47 ((hsn 47 (by decide)).mp z)), M_is hM, some_bind', hsig, some_bind', if_neg c47]
          by_cases c37 : Bt T s = 37
          · rw [if_neg (fun z => z (show sgn T s = 37 from (hsn 37 (by decide)).mpr c37)), b42, if_pos (show ¬ sgn T s = 42 from fun z => c42 ((hsn 42 (by decide)).mp z)), if_pos (show ¬ sgn T s = 47 from fun z => c47 ((hsn 47 (by decide)).mp z)), if_pos c37, if_neg (by decide)]
            rfl
          · rw [if_pos (show ¬ sgn T s = 37 from fun z => c37 ((hsn 37 (by decide)).mp z)), bX13_term_100, if_neg c37, if_pos rfl]
    by_cases hm : mulK (Bt T s) = 0
    · rw [if_pos hm] at b8 ⊢
      exact ⟨_, b8, Or.inr ⟨(s, c, lt), rfl, rfl⟩⟩
    · rw [if_neg hm] at b8 ⊢
      obtain ⟨k1, k2⟩ := mulK_b _ hm
      have hlt := nx_lt (Bt_s (T := T) (s := s) (by omega))
      have hsT := Bt_s (T := T) (s := s) (by omega)
      have hen : rn isB T (s + 1) = nx' T s := en_sg (by rcases k2 with q | q | q <;> rw [q] <;> decide) (by rcases k2 with q | q | q <;> rw [q] <;> decide) (by omega) (fun z => by have := jE_iff.mp z; omega)
      obtain ⟨M1, a1, a2⟩ := v_valueM (L := L) (xs := xs) (x := x) (d) hM hB hV (p := s + 1) (by omega) hc (show (l ++ lt).length < 299 by omega)
      rw [hen] at a2
      rw [bX13_term_72, M_p hM, some_bind', show (mS (CR m sl (l ++ lt) c) s 0).1 29 = nI s from rfl, nI_1, Mw_p hM, some_bind', mS_p, M_is hM, some_bind', a1, some_bind', M_is hM, some_bind'] at b8
      rcases a2 with ⟨e, m', p', e1, e2, e3, e4, e5, -⟩ | ⟨en, p', e1, e2, e3, e4⟩
      · have hB' := FRM_MB e5 hB
        rw [e3, v_entryF (d + 3) hM (by omega) (by omega), some_bind', M_is hM, some_bind', v_blM (d + 2) hM hB'.1 hV (by omega), some_bind', v_term8F (m := m') (f := e) hM (by omega) (by omega)] at b8
        exact ⟨_, b8, Or.inl ⟨e, m', rn isB T p', by rw [e1]; rfl, e2, rfl, rn_top2 isB e4 (by omega), e5⟩⟩
      · obtain ⟨g1, g2, -⟩ := pV_in e1
        have hlt2 := nx_lt g1
        have hle := nx_le (Nat.le_of_lt g1)
        have hl2 : (l ++ lt ++ [en]).length = (l ++ lt).length + 1 := by rw [List.length_append]; rfl
        rw [e2, show cV (ZZ L xs) (d + 4) mX13_entry [.ref 259, .int (nI (mulK (Bt T s))), .int 0] (HP sh (pM x (mS (CR m sl (l ++ lt ++ [en]) (c + 1)) p' 0))) = _ from v_entryM (d + 3) hM hB (by omega) (mulK (Bt T s)) 0, some_bind', M_is hM, some_bind', v_blM (d + 2) hM (MTa_CR hB) hV (by omega), some_bind', e4, show l ++ lt ++ [en] ++ [(mulK (Bt T s), 0)] = l ++ (lt ++ [en, (mulK (Bt T s), 0)]) by simp] at b8
        obtain ⟨M2, x1, x2⟩ := ih (nx' T (nx' T s)) (c + 1) (lt ++ [en, (mulK (Bt T s), 0)]) (some (.int (nI (mulK (Bt T s))))) hle.2 (by omega) (by omega) (by
          have : (l ++ (lt ++ [en, (mulK (Bt T s), 0)])).length = (l ++ lt).length + 2 := by rw [← List.append_assoc, List.length_append]; rfl
          omega)
        rw [e1]
        exact ⟨M2, b8.trans x1, x2⟩
theorem v_termM (d : Nat) (hM : isMo sh) (hB : MB m T sl) (hV : VTa T) (hp : p ≤ 450) {l : EL} {c : Nat} (hc : c ≤ 60) (hlen : 3 * l.length ≤ rn isB T p + 4 * c) : ∃ M', cV (ZZ L xs) (d + 5) mX13_term [.ref 259] (HP sh (pM x (mS (CR m sl l c) p 0))) = some (HP sh (pM x M')) ∧ MOut m sl l M' (pT T (rn isB T p) c) := by
  have h400 := hV.1
  have hs := rn_top2 isB (T := T) hp (by omega)
  obtain ⟨M1, a1, a2⟩ := v_valueM (L := L) (xs := xs) (x := x) (d) hM hB hV hp hc (show l.length < 299 by omega)
  have b0 : CL (ZZ L xs) (d + 5) mX13_term [.ref 259] (HP sh (pM x (mS (CR m sl l c) p 0))) = _ := bX13_term_0 (d + 4) 259 (HP sh (pM x (mS (CR m sl l c) p 0)))
  rw [M_is hM, some_bind', a1, some_bind', M_is hM, some_bind'] at b0
  unfold pT
  rcases a2 with ⟨e, m', p', e1, e2, e3, e4, e5, -⟩ | ⟨en, p', e1, e2, e3, e4⟩
  · have hB' := FRM_MB e5 hB
    rw [e3, v_blM (d + 2) hM hB'.1 hV (by omega), some_bind', v_term8F (m := m') (f := e) hM (by omega) (by omega)] at b0
    exact ⟨_, cV_of b0, Or.inl ⟨e, m', rn isB T p', by rw [e1]; rfl, e2, rfl, rn_top2 isB e4 (by omega), e5⟩⟩
  · obtain ⟨g1, g2, -⟩ := pV_in e1
    have hlt2 := nx_lt g1
    have hle := nx_le (Nat.le_of_lt g1)
    rw [e2, v_blM (d + 2) hM (MTa_CR hB) hV (by omega), some_bind', e4] at b0
    obtain ⟨M2, x1, x2⟩ := v_tlpM (L := L) (xs := xs) (x := x) d hM hB hV l 61 (nx' T (rn isB T p)) (c + 1) [en] none hle.2 (by omega) (by omega) (by
      rw [List.length_append]
      have : [en].length = 1 := rfl
      omega)
    rw [e1]
    exact ⟨M2, cV_of (b0.trans x1), x2⟩
theorem v_slpM (d : Nat) (hM : isMo sh) (hB : MB m T sl) (hV : VTa T) (l : EL) : ∀ (g s c : Nat) (lt : EL) (u1 : Option Value), s ≤ T.1 → c ≤ 60 → 61 ≤ c + g → 3 * (l ++ lt).length ≤ s + 4 * c → ∃ M', RS (ZZ L xs) (d + 6) mX13_sum 4 [some (.ref 259), u1] [] (HP sh (pM x (mS (CR m sl (l ++ lt) c) s 0))) = some (HP sh (pM x M'), none) ∧ MOut m sl l M' (slp T g s c lt) := by
  have h400 := hV.1
  intro g
  induction g with
  | zero => intro s c lt u1 h1 h2 h3; omega
  | succ g ih =>
    intro s c lt u1 hs hc hg hlen
    have hi : MTa (CR m sl (l ++ lt) c) T := hB.1
    have ht : slp T (g + 1) s c lt = if addK (Bt T s) = 0 then .inr (s, c, lt) else sB (pT T (nx' T s) c) fun q => slp T g q.1 q.2.1 (lt ++ q.2.2 ++ [(addK (Bt T s), 0)]) := rfl
    rw [ht]
    have hsn := fun (k : Nat) (hk : k < 256) => sgn_eq (p := s) hV hk
    have hsig := i_signM (L := L) (xs := xs) (x := x) (f := 0) (p := s) (d + 4) hM hi hV (by omega)
    have b4 : RS (ZZ L xs) (d + 6) mX13_sum 4 [some (.ref 259), u1] [] (HP sh (pM x (mS (CR m sl (l ++ lt) c) s 0))) = if addK (Bt T s) = 0 then some (HP sh (pM x (mS (CR m sl (l ++ lt) c) s 0)), none) else RS (ZZ L xs) (d + 6) mX13_sum 43 [some (.ref 259), none] [.int (nI (addK (Bt T s)))] (HP sh (pM x (mS (CR m sl (l ++ lt) c) s 0))) := by
      rw [bX13_sum_4, M_fault hM, some_bind', show (mS (CR m sl (l ++ lt) c) s 0).1 30 = 0 from rfl, if_neg (fun z => z rfl), M_is hM, some_bind', hsig, some_bind']
      unfold addK
      by_cases c43 : Bt T s = 43
      · rw [if_pos (show sgn T s = 43 from (hsn 43 (by decide)).mpr c43), bX13_sum_29, M_is hM, some_bind', hsig, some_bind', if_neg (fun z => z ((hsn 43 (by decide)).mpr c43)), if_pos c43, if_neg (by decide)]
        rfl
      · rw [if_neg (show ¬ sgn T s = 43 from fun z => c43 ((hsn 43 (by decide)).mp z)), M_is hM, some_bind', hsig, some_bind', if_neg c43]
        by_cases c45 : Bt T s = 45
        · rw [if_neg (fun z => z (show sgn T s = 45 from (hsn 45 (by decide)).mpr c45)), bX13_sum_29, M_is hM, some_bind', hsig, some_bind', if_pos (show ¬ sgn T s = 43 from fun z => c43 ((hsn 43 (by decide)).mp z)), if_pos c45, if_neg (by decide)]
          rfl
        · rw [if_pos (show ¬ sgn T s = 45 from fun z => c45 ((hsn 45 (by decide)).mp z)), bX13_sum_67, if_neg c45, if_pos rfl]
    by_cases hm : addK (Bt T s) = 0
    · rw [if_pos hm] at b4 ⊢
      exact ⟨_, b4, Or.inr ⟨(s, c, lt), rfl, rfl⟩⟩
    · rw [if_neg hm] at b4 ⊢
      obtain ⟨k1, k2⟩ := addK_b _ hm
      have hlt := nx_lt (Bt_s (T := T) (s := s) (by omega))
      have hsT := Bt_s (T := T) (s := s) (by omega)
      have hen : rn isB T (s + 1) = nx' T s := en_sg (by rcases k2 with q | q <;> rw [q] <;> decide) (by rcases k2 with q | q <;> rw [q] <;> decide) (by omega) (fun z => by have := jE_iff.mp z; omega)
      obtain ⟨M1, a1, a2⟩ := v_termM (L := L) (xs := xs) (x := x) (d) hM hB hV (p := s + 1) (by omega) hc (show 3 * (l ++ lt).length ≤ rn isB T (s + 1) + 4 * c by rw [hen]; omega)
      rw [hen] at a2
      rw [bX13_sum_43, M_p hM, some_bind', show (mS (CR m sl (l ++ lt) c) s 0).1 29 = nI s from rfl, nI_1, Mw_p hM, some_bind', mS_p, M_is hM, some_bind', a1, some_bind', M_is hM, some_bind'] at b4
      rcases a2 with ⟨e, m', p', e1, e2, e3, e4, e5⟩ | ⟨q, e1, e2⟩
      · rw [e3, v_entryF (d + 4) hM (by omega) (by omega), some_bind', v_sum4F (m := m') (f := e) hM (by omega) (by omega)] at b4
        exact ⟨_, b4, Or.inl ⟨e, m', p', by rw [e1]; rfl, e2, rfl, e4, e5⟩⟩
      · obtain ⟨g1, g2, g3, g4, g5, g6⟩ := pT_in hc e1
        have hl2 : (l ++ lt ++ q.2.2).length = (l ++ lt).length + q.2.2.length := by rw [List.length_append]
        rw [e2, show cV (ZZ L xs) (d + 5) mX13_entry [.ref 259, .int (nI (addK (Bt T s))), .int 0] (HP sh (pM x (mS (CR m sl (l ++ lt ++ q.2.2) q.2.1) q.1 0))) = _ from v_entryM (d + 4) hM hB (by omega) (addK (Bt T s)) 0, some_bind', show l ++ lt ++ q.2.2 ++ [(addK (Bt T s), 0)] = l ++ (lt ++ q.2.2 ++ [(addK (Bt T s), 0)]) by simp] at b4
        obtain ⟨M2, x1, x2⟩ := ih q.1 q.2.1 (lt ++ q.2.2 ++ [(addK (Bt T s), 0)]) (some (.int (nI (addK (Bt T s))))) g3 g5 (by omega) (by
          have : (l ++ (lt ++ q.2.2 ++ [(addK (Bt T s), 0)])).length = (l ++ lt).length + q.2.2.length + 1 := by rw [← List.append_assoc, ← List.append_assoc, List.length_append, List.length_append]; rfl
          omega)
        rw [e1]
        exact ⟨M2, b4.trans x1, x2⟩
theorem v_sumM (d : Nat) (hM : isMo sh) (hB : MB m T sl) (hV : VTa T) (hp : p ≤ 450) {l : EL} {c : Nat} (hc : c ≤ 60) (hlen : 3 * l.length ≤ rn isB T p + 4 * c) : ∃ M', cV (ZZ L xs) (d + 6) mX13_sum [.ref 259] (HP sh (pM x (mS (CR m sl l c) p 0))) = some (HP sh (pM x M')) ∧ MOut m sl l M' (pS T (rn isB T p) c) := by
  have h400 := hV.1
  obtain ⟨M1, a1, a2⟩ := v_termM (L := L) (xs := xs) (x := x) (d) hM hB hV hp hc hlen
  have b0 : CL (ZZ L xs) (d + 6) mX13_sum [.ref 259] (HP sh (pM x (mS (CR m sl l c) p 0))) = _ := bX13_sum_0 (d + 5) 259 (HP sh (pM x (mS (CR m sl l c) p 0)))
  rw [M_is hM, some_bind', a1, some_bind'] at b0
  unfold pS
  rcases a2 with ⟨e, m', p', e1, e2, e3, e4, e5⟩ | ⟨q, e1, e2⟩
  · rw [e3, v_sum4F (m := m') (f := e) hM (by omega) (by omega)] at b0
    exact ⟨_, cV_of b0, Or.inl ⟨e, m', p', by rw [e1]; rfl, e2, rfl, e4, e5⟩⟩
  · obtain ⟨g1, g2, g3, g4, g5, g6⟩ := pT_in hc e1
    rw [e2] at b0
    obtain ⟨M2, x1, x2⟩ := v_slpM (L := L) (xs := xs) (x := x) d hM hB hV l 61 q.1 q.2.1 q.2.2 none g3 g5 (by omega) (by rw [List.length_append]; omega)
    rw [e1]
    exact ⟨M2, cV_of (b0.trans x1), x2⟩
/-- behind a comparison's sign -/
theorem c_sum (d : Nat) (hM : isMo sh) (hi : MTa m T) (hV : VTa T) {s b : Nat} (hs : s < T.1) (hb : Bt T s = b) (hbc : b = 60 ∨ b = 61 ∨ b = 62) : (if (nI b : Int32) = 61 then RS (ZZ L xs) (d + 7) mX13_compared 74 [some (.ref 259), some (.int (nI b)), none] [] (HP sh (pM x (mS m (s + 1) f))) else (iO (HP sh (pM x (mS m (s + 1) f))) (.ref 259) 13).bind fun b62 => (cI (ZZ L xs) (d + 6) mX13_sign [.ref b62] (HP sh (pM x (mS m (s + 1) f)))).bind fun p62 => if ¬ (p62.2 : Int32) = 61 then RS (ZZ L xs) (d + 7) mX13_compared 74 [some (.ref 259), some (.int (nI b)), none] [] p62.1 else RS (ZZ L xs) (d + 7) mX13_compared 75 [some (.ref 259), some (.int (nI b)), none] [.int 1] p62.1) = (cV (ZZ L xs) (d + 6) mX13_sum [.ref 259] (HP sh (pM x (mS m (if jE T s = true then s + 2 else s + 1) f)))).bind fun p95 => (iO p95 (.ref 259) 13).bind fun b140 => (cV (ZZ L xs) (d + 6) mX13_entry [.ref b140, .int (nI (cmK T s)), .int 0] p95).bind fun p140 => some (p140, none) := by
  have h400 := hV.1
  have b139 : ∀ (p95 : PH) (k : Int32) (u0 u1 u2 : Option Value), RS (ZZ L xs) (d + 7) mX13_compared 139 [u0, u1, u2] [.int k, .ref 259] p95 = (iO p95 (.ref 259) 13).bind fun b140 => (cV (ZZ L xs) (d + 6) mX13_entry [.ref b140, .int k, .int 0] p95).bind fun p140 => some (p140, none) := fun p95 k u0 u1 u2 => bX13_compared_139 (d + 6) u0 u1 u2 k (.ref 259) rfl p95
  have b75 : ∀ (j : Bool) (q : Nat), q = (if j = true then s + 2 else s + 1) → RS (ZZ L xs) (d + 7) mX13_compared 75 [some (.ref 259), some (.int (nI b)), none] [.int (z01 j)] (HP sh (pM x (mS m (s + 1) f))) = (cV (ZZ L xs) (d + 6) mX13_sum [.ref 259] (HP sh (pM x (mS m q f)))).bind fun p95 => if ¬ (nI b : Int32) = 61 then if ¬ (nI b : Int32) = 60 then if z01 j = 0 then RS (ZZ L xs) (d + 7) mX13_compared 139 [some (.ref 259), some (.int (nI b)), some (.int (z01 j))] [.int 8, .ref 259] p95 else RS (ZZ L xs) (d + 7) mX13_compared 139 [some (.ref 259), some (.int (nI b)), some (.int (z01 j))] [.int 7, .ref 259] p95 else if z01 j = 0 then RS (ZZ L xs) (d + 7) mX13_compared 139 [some (.ref 259), some (.int (nI b)), some (.int (z01 j))] [.int 4, .ref 259] p95 else RS (ZZ L xs) (d + 7) mX13_compared 139 [some (.ref 259), some (.int (nI b)), some (.int (z01 j))] [.int 5, .ref 259] p95 else RS (ZZ L xs) (d + 7) mX13_compared 139 [some (.ref 259), some (.int (nI b)), some (.int (z01 j))] [.int 6, .ref 259] p95 := fun j q hq => by
    subst hq
    rw [bX13_compared_75, M_p hM, some_bind', show (mS m (s + 1) f).1 29 = nI (s + 1) from rfl]
    cases j with
    | true =>
      rw [if_neg (show ¬ z01 true = 0 by decide), bX13_compared_90 (hw2 := rfl), nI_1, Mw_p hM, some_bind', mS_p, M_is hM, some_bind', if_pos rfl]
    | false =>
      rw [if_pos (show z01 false = 0 by decide), bX13_compared_90 (hw2 := rfl), show nI (s + 1) + 0 = nI (s + 1) from Int32.add_zero _, Mw_p hM, some_bind', mS_p, M_is hM, some_bind', if_neg (show ¬ false = true by decide)]
  have hsn := fun (k : Nat) (hk : k < 256) => sgn_eq (p := s + 1) hV hk
  have hsig := i_signM (L := L) (xs := xs) (x := x) (m := m) (f := f) (p := s + 1) (d + 5) hM hi hV (by omega)
  unfold cmK
  rw [hb]
  rcases hbc with rfl | rfl | rfl
  · rw [if_neg (show ¬ (nI 60 : Int32) = 61 by decide), M_is hM, some_bind', hsig, some_bind', if_neg (show ¬ (60 : Nat) = 61 by decide), if_pos rfl]
    by_cases hj : jE T s = true
    · have h61 := (jE_iff.mp hj).2
      rw [if_neg (fun z => z (show sgn T (s + 1) = 61 from (hsn 61 (by decide)).mpr h61)), if_pos hj, if_pos hj]
      refine Eq.trans (b75 true (s + 2) rfl) (congrArg (Option.bind _) (funext fun p95 => ?_))
      rw [if_pos (show ¬ (nI 60 : Int32) = 61 by decide), if_neg (show ¬ ¬ (nI 60 : Int32) = 60 by decide), if_neg (show ¬ z01 true = 0 by decide)]
      exact b139 p95 5 _ _ _
    · have h61 : ¬ Bt T (s + 1) = 61 := fun z => hj (jE_iff.mpr ⟨Or.inl hb, z⟩)
      rw [if_pos (show ¬ sgn T (s + 1) = 61 from fun z => h61 ((hsn 61 (by decide)).mp z)), bX13_compared_74, if_neg hj, if_neg hj]
      refine Eq.trans (b75 false (s + 1) rfl) (congrArg (Option.bind _) (funext fun p95 => ?_))
      rw [if_pos (show ¬ (nI 60 : Int32) = 61 by decide), if_neg (show ¬ ¬ (nI 60 : Int32) = 60 by decide), if_pos (show z01 false = 0 by decide)]
      exact b139 p95 4 _ _ _
  · have hj : ¬ jE T s = true := fun z => by have := jE_iff.mp z; omega
    rw [if_pos (show (nI 61 : Int32) = 61 by decide), bX13_compared_74, if_neg hj, if_pos rfl]
    refine Eq.trans (b75 false (s + 1) rfl) (congrArg (Option.bind _) (funext fun p95 => ?_))
    rw [if_neg (show ¬ ¬ (nI 61 : Int32) = 61 by decide)]
    exact b139 p95 6 _ _ _
  · rw [if_neg (show ¬ (nI 62 : Int32) = 61 by decide), M_is hM, some_bind', hsig, some_bind', if_neg (show ¬ (62 : Nat) = 61 by decide), if_neg (show ¬ (62 : Nat) = 60 by decide), if_pos rfl]
    by_cases hj : jE T s = true
    · have h61 := (jE_iff.mp hj).2
      rw [if_neg (fun z => z (show sgn T (s + 1) = 61 from (hsn 61 (by decide)).mpr h61)), if_pos hj, if_pos hj]
      refine Eq.trans (b75 true (s + 2) rfl) (congrArg (Option.bind _) (funext fun p95 => ?_))
      rw [if_pos (show ¬ (nI 62 : Int32) = 61 by decide), if_pos (show ¬ (nI 62 : Int32) = 60 by decide), if_neg (show ¬ z01 true = 0 by decide)]
      exact b139 p95 7 _ _ _
    · have h61 : ¬ Bt T (s + 1) = 61 := fun z => hj (jE_iff.mpr ⟨Or.inr hb, z⟩)
      rw [if_pos (show ¬ sgn T (s + 1) = 61 from fun z => h61 ((hsn 61 (by decide)).mp z)), bX13_compared_74, if_neg hj, if_neg hj]
      refine Eq.trans (b75 false (s + 1) rfl) (congrArg (Option.bind _) (funext fun p95 => ?_))
      rw [if_pos (show ¬ (nI 62 : Int32) = 61 by decide), if_pos (show ¬ (nI 62 : Int32) = 60 by decide), if_pos (show z01 false = 0 by decide)]
      exact b139 p95 8 _ _ _
/-- the first piece of a comparison -/
theorem c_beg (d : Nat) (hM : isMo sh) (hi : MTa m T) (hV : VTa T) {s : Nat} (hs : s ≤ 450) (hf : f < 10000) : (cI (ZZ L xs) (d + 6) mX13_sign [.ref 259] (HP sh (pM x (mS m s f)))).bind (fun p5 => if (p5.2 : Int32) = 60 then RS (ZZ L xs) (d + 7) mX13_compared 37 [some (.ref 259), some (.int p5.2), none] [] p5.1 else if (p5.2 : Int32) = 61 then RS (ZZ L xs) (d + 7) mX13_compared 37 [some (.ref 259), some (.int p5.2), none] [] p5.1 else if (p5.2 : Int32) = 62 then RS (ZZ L xs) (d + 7) mX13_compared 37 [some (.ref 259), some (.int p5.2), none] [] p5.1 else (fI p5.1 (.ref 259) 13 29).bind fun x30 => (iO p5.1 (.ref 259) 13).bind fun b33 => (cV (ZZ L xs) (d + 6) mX13_fails [.ref b33, .int 0, .int x30] p5.1).bind fun p33 => some (p33, none)) = if cmK T s = 0 then some (HP sh (pM x (mS m s (fz f (ft s 0)))), none) else (cV (ZZ L xs) (d + 6) mX13_isCounted [.ref 259, .int (nI s)] (HP sh (pM x (mS m s f)))).bind fun p42 => (fI p42 (.ref 259) 13 29).bind fun x47 => (fP p42 (.ref 259) 13 29 (.int (x47 + 1))).bind fun h52 => if (nI (Bt T s) : Int32) = 61 then RS (ZZ L xs) (d + 7) mX13_compared 74 [some (.ref 259), some (.int (nI (Bt T s))), none] [] h52 else (iO h52 (.ref 259) 13).bind fun b62 => (cI (ZZ L xs) (d + 6) mX13_sign [.ref b62] h52).bind fun p62 => if ¬ (p62.2 : Int32) = 61 then RS (ZZ L xs) (d + 7) mX13_compared 74 [some (.ref 259), some (.int (nI (Bt T s))), none] [] p62.1 else RS (ZZ L xs) (d + 7) mX13_compared 75 [some (.ref 259), some (.int (nI (Bt T s))), none] [.int 1] p62.1 := by
  have hsn := fun (k : Nat) (hk : k < 256) => sgn_eq (p := s) hV hk
  rw [i_signM (d + 5) hM hi hV (by omega), some_bind']
  have go : ∀ (b : Nat), b < 256 → Bt T s = b → RS (ZZ L xs) (d + 7) mX13_compared 37 [some (.ref 259), some (.int (sgn T s)), none] [] (HP sh (pM x (mS m s f))) = (cV (ZZ L xs) (d + 6) mX13_isCounted [.ref 259, .int (nI s)] (HP sh (pM x (mS m s f)))).bind fun p42 => (fI p42 (.ref 259) 13 29).bind fun x47 => (fP p42 (.ref 259) 13 29 (.int (x47 + 1))).bind fun h52 => if (nI (Bt T s) : Int32) = 61 then RS (ZZ L xs) (d + 7) mX13_compared 74 [some (.ref 259), some (.int (nI (Bt T s))), none] [] h52 else (iO h52 (.ref 259) 13).bind fun b62 => (cI (ZZ L xs) (d + 6) mX13_sign [.ref b62] h52).bind fun p62 => if ¬ (p62.2 : Int32) = 61 then RS (ZZ L xs) (d + 7) mX13_compared 74 [some (.ref 259), some (.int (nI (Bt T s))), none] [] p62.1 else RS (ZZ L xs) (d + 7) mX13_compared 75 [some (.ref 259), some (.int (nI (Bt T s))), none] [.int 1] p62.1 := fun b hb h => by
    rw [(hsn b hb).mpr h, bX13_compared_37, M_p hM, some_bind', show (mS m s f).1 29 = nI s from rfl, M_is hM, some_bind', h]
  by_cases hk : cmK T s = 0
  · rw [if_pos hk]
    have h3 : ¬ (Bt T s = 60 ∨ Bt T s = 61 ∨ Bt T s = 62) := fun q => by
      unfold cmK at hk
      rcases q with q | q | q
      · rw [q, if_neg (by decide), if_pos rfl] at hk
        split at hk <;> omega
      · rw [if_pos q] at hk
        omega
      · rw [q, if_neg (by decide), if_neg (by decide), if_pos rfl] at hk
        split at hk <;> omega
    rw [if_neg (show ¬ sgn T s = 60 from fun z => h3 (Or.inl ((hsn 60 (by decide)).mp z))), if_neg (show ¬ sgn T s = 61 from fun z => h3 (Or.inr (Or.inl ((hsn 61 (by decide)).mp z)))), if_neg (show ¬ sgn T s = 62 from fun z => h3 (Or.inr (Or.inr ((hsn 62 (by decide)).mp z)))), M_p hM, some_bind', show (mS m s f).1 29 = nI s from rfl, M_is hM, some_bind', show cV (ZZ L xs) (d + 6) mX13_fails [.ref 259, .int 0, .int (nI s)] (HP sh (pM x (mS m s f))) = _ from v_failsM (d + 5) hM 0 s (by omega), some_bind']
  · rw [if_neg hk]
    rcases (cmK_b hk).2.2 with h | h | h
    · rw [if_pos (show sgn T s = 60 from (hsn 60 (by decide)).mpr h)]
      exact go 60 (by decide) h
    · rw [if_neg (show ¬ sgn T s = 60 from fun z => by have := (hsn 60 (by decide)).mp z; omega), if_pos (show sgn T s = 61 from (hsn 61 (by decide)).mpr h)]
      exact go 61 (by decide) h
    · rw [if_neg (show ¬ sgn T s = 60 from fun z => by have := (hsn 60 (by decide)).mp z; omega), if_neg (show ¬ sgn T s = 61 from fun z => by have := (hsn 61 (by decide)).mp z; omega), if_pos (show sgn T s = 62 from (hsn 62 (by decide)).mpr h)]
      exact go 62 (by decide) h
/-- behind a fault, from there on -/
theorem c_F (d : Nat) (hM : isMo sh) (hi : MTa m T) (hw : m.1 37 = 12) (hV : VTa T) {s : Nat} (hs : s ≤ 450) (hf : f ≠ 0) (hf2 : f < 10000) (hk : cmK T s ≠ 0) : ∃ w p', ((fI (HP sh (pM x (mS m s f))) (.ref 259) 13 29).bind fun x47 => (fP (HP sh (pM x (mS m s f))) (.ref 259) 13 29 (.int (x47 + 1))).bind fun h52 => if (nI (Bt T s) : Int32) = 61 then RS (ZZ L xs) (d + 7) mX13_compared 74 [some (.ref 259), some (.int (nI (Bt T s))), none] [] h52 else (iO h52 (.ref 259) 13).bind fun b62 => (cI (ZZ L xs) (d + 6) mX13_sign [.ref b62] h52).bind fun p62 => if ¬ (p62.2 : Int32) = 61 then RS (ZZ L xs) (d + 7) mX13_compared 74 [some (.ref 259), some (.int (nI (Bt T s))), none] [] p62.1 else RS (ZZ L xs) (d + 7) mX13_compared 75 [some (.ref 259), some (.int (nI (Bt T s))), none] [.int 1] p62.1) = some (HP sh (pM x (mS (mI m 35 w) p' f)), none) ∧ p' ≤ 450 := by
  have h400 := hV.1
  have hb := (cmK_b hk).2.2
  have hsT : s < T.1 := Bt_in (by omega)
  obtain ⟨w, p', a1, a2⟩ := v_sumF (L := L) (xs := xs) (x := x) (m := m) (p := if jE T s = true then s + 2 else s + 1) (d) hM hi hw hV (by split <;> omega) hf hf2
  refine ⟨w, p', ?_, a2⟩
  rw [M_p hM, some_bind', show (mS m s f).1 29 = nI s from rfl, nI_1, Mw_p hM, some_bind', mS_p, c_sum d hM hi hV hsT rfl hb, a1, some_bind', M_is hM, some_bind', v_entryF (d + 5) hM hf (by omega), some_bind']
theorem v_cmpM (d : Nat) (hM : isMo sh) (hB : MB m T sl) (hV : VTa T) (hp : p ≤ 450) {l : EL} {c : Nat} (hc : c ≤ 60) (hlen : 3 * l.length ≤ rn isB T p + 4 * c) : ∃ M', cV (ZZ L xs) (d + 7) mX13_compared [.ref 259] (HP sh (pM x (mS (CR m sl l c) p 0))) = some (HP sh (pM x M')) ∧ MOut m sl l M' (pC T (rn isB T p) c) := by
  have h400 := hV.1
  obtain ⟨M1, a1, a2⟩ := v_sumM (L := L) (xs := xs) (x := x) (d) hM hB hV hp hc hlen
  have b0 : CL (ZZ L xs) (d + 7) mX13_compared [.ref 259] (HP sh (pM x (mS (CR m sl l c) p 0))) = _ := bX13_compared_0 (d + 6) 259 (HP sh (pM x (mS (CR m sl l c) p 0)))
  rw [M_is hM, some_bind', a1, some_bind', M_is hM, some_bind'] at b0
  unfold pC
  rcases a2 with ⟨e, m', p', e1, e2, e3, e4, e5⟩ | ⟨q, e1, e2⟩
  · have hB' := FRM_MB e5 hB
    have cb := c_beg (L := L) (xs := xs) (x := x) (m := m') (f := e) (s := p') d hM hB'.1 hV e4 e2.2
    rw [e3] at b0
    rw [e1]
    have b0 := b0.trans cb
    by_cases hk : cmK T p' = 0
    · rw [if_pos hk, fz_n _ (by omega)] at b0
      exact ⟨_, cV_of b0, Or.inl ⟨e, m', p', rfl, e2, rfl, e4, e5⟩⟩
    · rw [if_neg hk, v_countF (d + 4) hM (by omega) (by omega) p', some_bind'] at b0
      obtain ⟨w, p2, x1, x2⟩ := c_F (L := L) (xs := xs) (x := x) (m := mI m' 35 (m'.1 35 + 1)) (f := e) d hM hB'.1 hB'.2.2.1 hV e4 (by omega) e2.2 hk
      exact ⟨_, cV_of (b0.trans x1), Or.inl ⟨e, _, p2, rfl, e2, rfl, x2, FRM_I (FRM_I e5 (by omega) _) (by omega) _⟩⟩
  · obtain ⟨g1, g2, g3, g4, g5, g6⟩ := pS_in hc e1
    have cb := c_beg (L := L) (xs := xs) (x := x) (m := CR m sl (l ++ q.2.2) q.2.1) (f := 0) (s := q.1) d hM hB.1 hV (by omega) (by decide)
    rw [e2] at b0
    rw [e1]
    have b0 := b0.trans cb
    have hlq : (l ++ q.2.2).length = l.length + q.2.2.length := by rw [List.length_append]
    have ftl : ∀ k, k ≤ 4 → 0 < ft q.1 k ∧ ft q.1 k < 10000 := fun k hk => by unfold ft; omega
    show ∃ M', _ ∧ MOut m sl l M' (if cmK T q.1 = 0 then .inl (ft q.1 0) else if q.2.1 = 60 then .inl (ft q.1 3) else sB (pS T (nx' T q.1) (q.2.1 + 1)) fun r => .inr (r.1, r.2.1, q.2.2 ++ r.2.2 ++ [(cmK T q.1, 0)]))
    by_cases hk : cmK T q.1 = 0
    · rw [if_pos hk, fz_z] at b0
      rw [if_pos hk]
      exact ⟨_, cV_of b0, Or.inl ⟨_, _, _, rfl, ftl 0 (by decide), rfl, by omega, FRM_CR m sl _ (by omega)⟩⟩
    · rw [if_neg hk, v_countM (d + 4) hM g5 (by decide) q.1, some_bind'] at b0
      rw [if_neg hk]
      have hb := (cmK_b hk).2.2
      by_cases h60 : q.2.1 = 60
      · rw [if_pos h60, fz_z] at b0
        rw [if_pos h60]
        have f3 := ftl 3 (by decide)
        obtain ⟨w, p2, x1, x2⟩ := c_F (L := L) (xs := xs) (x := x) (m := CR m sl (l ++ q.2.2) (q.2.1 + 1)) (f := ft q.1 3) d hM hB.1 hB.2.2.1 hV (by omega) (by omega) f3.2 hk
        exact ⟨_, cV_of (b0.trans x1), Or.inl ⟨_, _, p2, rfl, f3, rfl, x2, FRM_I (FRM_CR m sl _ (by omega)) (by omega) _⟩⟩
      · rw [if_neg h60] at b0
        rw [if_neg h60]
        have hsT : q.1 < T.1 := Bt_in (by omega)
        have hlt := nx_lt hsT
        have hnx : rn isB T (if jE T q.1 = true then q.1 + 2 else q.1 + 1) = nx' T q.1 := by
          have l1 : isL (Bt T q.1) = false := by rcases hb with h | h | h <;> rw [h] <;> decide
          have l2 : isD (Bt T q.1) = false := by rcases hb with h | h | h <;> rw [h] <;> decide
          by_cases hj : jE T q.1 = true
          · rw [if_pos hj]
            exact en_sgj l1 l2 (by omega) hj
          · rw [if_neg hj]
            exact en_sg l1 l2 (by omega) hj
        obtain ⟨M2, x1, x2⟩ := v_sumM (L := L) (xs := xs) (x := x) (p := if jE T q.1 = true then q.1 + 2 else q.1 + 1) (l := l ++ q.2.2) (c := q.2.1 + 1) (d) hM hB hV (by split <;> omega) (by omega) (by rw [hnx]; omega)
        rw [hnx] at x2
        rw [M_p hM, some_bind', show (mS (CR m sl (l ++ q.2.2) (q.2.1 + 1)) q.1 0).1 29 = nI q.1 from rfl, nI_1, Mw_p hM, some_bind', mS_p, c_sum d hM (MTa_CR hB) hV hsT rfl hb, x1, some_bind'] at b0
        rcases x2 with ⟨e, m', p', j1, j2, j3, j4, j5⟩ | ⟨r, j1, j2⟩
        · rw [j3, M_is hM, some_bind', v_entryF (d + 5) hM (by omega) (by omega), some_bind'] at b0
          exact ⟨_, cV_of b0, Or.inl ⟨e, m', p', by rw [j1]; rfl, j2, rfl, j4, j5⟩⟩
        · obtain ⟨k1, k2, k3, k4, k5, k6⟩ := pS_in (show q.2.1 + 1 ≤ 60 by omega) j1
          have hl2 : (l ++ q.2.2 ++ r.2.2).length = (l ++ q.2.2).length + r.2.2.length := by rw [List.length_append]
          rw [j2, M_is hM, some_bind', show cV (ZZ L xs) (d + 6) mX13_entry [.ref 259, .int (nI (cmK T q.1)), .int 0] (HP sh (pM x (mS (CR m sl (l ++ q.2.2 ++ r.2.2) r.2.1) r.1 0))) = _ from v_entryM (d + 5) hM hB (by omega) (cmK T q.1) 0, some_bind', show l ++ q.2.2 ++ r.2.2 ++ [(cmK T q.1, 0)] = l ++ (q.2.2 ++ r.2.2 ++ [(cmK T q.1, 0)]) by simp] at b0
          exact ⟨_, cV_of b0, Or.inr ⟨(r.1, r.2.1, q.2.2 ++ r.2.2 ++ [(cmK T q.1, 0)]), by rw [j1]; rfl, rfl⟩⟩
end RM2
