section TOWNM2
variable {L : Nat} {xs : Nat → Int32} {sh : List Sh} {x : ST} {m : MM} {T : TP} {p : Nat}
theorem v_personM (d : Nat) (hM : isMo sh) (hi : MTa m T) (hV : VTa T) (hp : p ≤ 450) {b : TB} (hb : TBm m b) (hv : TV b) (hnp : b.2.2.1 < 6) (u1 u3 u4 : Option Value) : ∃ m' p' f', RS (ZZ L xs) (d + 6) mX13_townPart 117 [some (.ref 259), u1, some (.int (nI (b.2.1 - 1))), u3, u4] [] (HP sh (pM x (mS m p 0))) = some (HP sh (pM x (mS m' p' f')), none) ∧ TMs T m m' p' f' (tPerson T (rn isB T p) b) := by
  have h400 := hV.1
  have h1 : 1 ≤ b.2.1 := by have := hv.2.1; omega
  have h8 : b.2.1 ≤ 8 := (TV_k hv).2.2.2.1
  have hs := rn_top2 isB (T := T) hp (by omega)
  obtain ⟨v1, p1, a1, a2, a3⟩ := i_amountM (L := L) (xs := xs) (x := x) (m := m) (p := p) (f := 0) (d + 1) hM hi hV hp (by decide) (lo := 0) (M := (b.2.1 - 1)) (by decide) (by omega)
  have hl1 := tkE_lt2 (T := T) (lo := 0) (M := (b.2.1 - 1)) (u := -1) hs
  have hs1 := rn_top2 isB (T := T) a2 (by omega)
  obtain ⟨v2, p2, b1, b2, b3⟩ := i_amountM (L := L) (xs := xs) (x := x) (m := mA m 20 b.2.2.1 v1) (p := p1) (f := fz 0 (tkE T (rn isB T p) 0 (b.2.1 - 1) (-1))) (d + 1) hM (MTa_N (NwO_A (NwO_refl m) (a := 20) (by decide) (by decide) b.2.2.1 v1) hi) hV a2 (by rw [fz_z]; exact hl1) (lo := 0) (M := 9) (by decide) (by omega)
  have hl2 := tkE_lt2 (T := T) (lo := 0) (M := 9) (u := -1) hs1
  have hs2 := rn_top2 isB (T := T) b2 (by omega)
  have hl12 : fz (fz 0 (tkE T (rn isB T p) 0 (b.2.1 - 1) (-1))) (tkE T (rn isB T p1) 0 9 (-1)) < 10000 := by
    rw [fz_z]
    unfold fz
    split <;> omega
  obtain ⟨v3, p3, c1, c2, c3⟩ := i_amountM (L := L) (xs := xs) (x := x) (m := mA (mA m 20 b.2.2.1 v1) 21 b.2.2.1 v2) (p := p2) (f := fz (fz 0 (tkE T (rn isB T p) 0 (b.2.1 - 1) (-1))) (tkE T (rn isB T p1) 0 9 (-1))) (d + 1) hM (MTa_N (NwO_A (NwO_A (NwO_refl m) (a := 20) (by decide) (by decide) b.2.2.1 v1) (a := 21) (by decide) (by decide) b.2.2.1 v2) hi) hV b2 hl12 (lo := 0) (M := 1) (by decide) (by omega)
  have hl3 := tkE_lt2 (T := T) (lo := 0) (M := 1) (u := -1) hs2
  have a1 : cI (ZZ L xs) (d + 5) mX13_amount [.ref 259, .int 0, .int (nI (b.2.1 - 1))] (HP sh (pM x (mS (m) p (0)))) = _ := a1
  have b1 : cI (ZZ L xs) (d + 5) mX13_amount [.ref 259, .int 0, .int 9] (HP sh (pM x (mS (mA m 20 b.2.2.1 v1) p1 (fz 0 (tkE T (rn isB T p) 0 (b.2.1 - 1) (-1)))))) = _ := b1
  have c1 : cI (ZZ L xs) (d + 5) mX13_amount [.ref 259, .int 0, .int 1] (HP sh (pM x (mS (mA (mA m 20 b.2.2.1 v1) 21 b.2.2.1 v2) p2 (fz (fz 0 (tkE T (rn isB T p) 0 (b.2.1 - 1) (-1))) (tkE T (rn isB T p1) 0 9 (-1)))))) = _ := c1
  refine ⟨mA (mA (mA (mA m 20 b.2.2.1 v1) 21 b.2.2.1 v2) 22 b.2.2.1 v3) 19 2 (nI (b.2.2.1 + 1)), p3, fz (fz (fz 0 (tkE T (rn isB T p) 0 (b.2.1 - 1) (-1))) (tkE T (rn isB T p1) 0 9 (-1))) (tkE T (rn isB T p2) 0 1 (-1)), ?_, NwO_A (NwO_A (NwO_A (NwO_A (NwO_refl m) (a := 20) (by decide) (by decide) b.2.2.1 v1) (a := 21) (by decide) (by decide) b.2.2.1 v2) (a := 22) (by decide) (by decide) b.2.2.1 v3) (by decide) (by decide) _ _, c2, ?_⟩
  · rw [bX13_townPart_117, M_newScalar hM, some_bind', eI_l2, Me_newScalar hM (by decide), some_bind', show (mS m p 0).2.1 19 2 = nI b.2.2.1 from hb.1.2.2.1, M_newAt hM, some_bind', M_is hM, some_bind', a1, some_bind', Mu_newAt hM (by omega), some_bind', M_newKind hM, some_bind', M_is hM, some_bind', mS_A, b1, some_bind', Mu_newKind hM (by omega), some_bind', M_newWrong hM, some_bind', M_is hM, some_bind', mS_A, c1, some_bind', Mu_newWrong hM (by omega), some_bind', mS_A, M_newScalar hM, some_bind', eI_l2, Me_newScalar hM (by decide), some_bind', show (mS (mA (mA (mA m 20 b.2.2.1 v1) 21 b.2.2.1 v2) 22 b.2.2.1 v3) p3 (fz (fz (fz 0 (tkE T (rn isB T p) 0 (b.2.1 - 1) (-1))) (tkE T (rn isB T p1) 0 9 (-1))) (tkE T (rn isB T p2) 0 1 (-1)))).2.1 19 2 = nI b.2.2.1 by show (mA (mA (mA m 20 b.2.2.1 v1) 21 b.2.2.1 v2) 22 b.2.2.1 v3).2.1 19 2 = _; rw [mA_ne _ _ _ (by decide), mA_ne _ _ _ (by decide), mA_ne _ _ _ (by decide)]; exact hb.1.2.2.1, nI_1, wI_l2, Mu_newScalar hM (by decide), some_bind', bX13_townPart_232, mS_A]
  · rw [fz_z] at b3 c3 hl12 ⊢
    unfold tPerson
    by_cases e1 : tkE T (rn isB T p) 0 (b.2.1 - 1) (-1) = 0
    · obtain ⟨g1, g2⟩ := a3 rfl e1
      have i1 := tkE_in e1
      rw [if_pos e1, e1, fz_z]
      rw [e1, fz_z] at c3 hl12
      rw [e1] at b3
      rw [g2] at b3 c3 hl12 hl2 ⊢
      by_cases e2 : tkE T (nx' T (rn isB T p)) 0 9 (-1) = 0
      · obtain ⟨k1, k2⟩ := b3 rfl e2
        have i2 := tkE_in e2
        rw [if_pos e2, e2, fz_z]
        rw [e2] at c3
        rw [k2] at c3 hl3 ⊢
        by_cases e3 : tkE T (nx' T (nx' T (rn isB T p))) 0 1 (-1) = 0
        · obtain ⟨n1, n2⟩ := c3 rfl e3
          have i3 := tkE_in e3
          rw [if_pos e3]
          refine Or.inr ⟨_, _, rfl, e3, n2, ⟨?_, ?_, ?_, ?_⟩, fun q hq => ?_, fun g hg => ?_, fun i hi8 => ?_⟩
          · rw [mA_eq, upd_ne _ _ (by decide), mA_ne _ _ _ (by decide), mA_ne _ _ _ (by decide), mA_ne _ _ _ (by decide)]
            exact hb.1.1
          · rw [mA_eq, upd_ne _ _ (by decide), mA_ne _ _ _ (by decide), mA_ne _ _ _ (by decide), mA_ne _ _ _ (by decide)]
            exact hb.1.2.1
          · rw [mA_eq, upd_at]
          · rw [mA_eq, upd_ne _ _ (by decide), mA_ne _ _ _ (by decide), mA_ne _ _ _ (by decide), mA_ne _ _ _ (by decide)]
            exact hb.1.2.2.2
          · have hq : q < b.2.2.1 + 1 := hq
            rw [mA_ne (a := 19) _ _ _ (by decide), mA_ne (a := 22) _ _ _ (by decide), mA_ne (a := 21) _ _ _ (by decide), mA_eq, mA_ne (a := 19) _ _ _ (by decide), mA_ne (a := 22) (b := 21) _ _ _ (by decide), mA_eq, mA_ne (a := 20) (b := 21) _ _ _ (by decide), mA_ne (a := 19) (b := 22) _ _ _ (by decide), mA_eq, mA_ne (a := 21) (b := 22) _ _ _ (by decide), mA_ne (a := 20) (b := 22) _ _ _ (by decide)]
            show upd (m.2.1 20) b.2.2.1 v1 q = upd (b.1.2.2 0) b.2.2.1 (nI (nv T (rn isB T p))) q ∧ upd (m.2.1 21) b.2.2.1 v2 q = upd (b.1.2.2 1) b.2.2.1 (nI (nv T (nx' T (rn isB T p)))) q ∧ upd (m.2.1 22) b.2.2.1 v3 q = iShr (b.1.1 5 ||| iShl (nI (nv T (nx' T (nx' T (rn isB T p))))) (nI b.2.2.1)) (nI q) &&& 1
            rw [sh_1 (by omega), bt_or, bt_shlv i3.2.2.2.1 (by omega) (by omega)]
            by_cases e : q = b.2.2.1
            · rw [e, upd_at, upd_at, upd_at, upd_at, upd_at, hv.2.2 b.2.2.1 (Nat.le_refl _) (by omega), n1, decide_eq_true (rfl : b.2.2.1 = b.2.2.1), Bool.and_true, Bool.false_or]
              refine ⟨g1, k1, ?_⟩
              have h3 : nv T (nx' T (nx' T (rn isB T p))) = 0 ∨ nv T (nx' T (nx' T (rn isB T p))) = 1 := by have := i3.2.2.2.1; omega
              rcases h3 with h3 | h3
              · rw [h3]
                rfl
              · rw [h3]
                rfl
            · rw [upd_ne _ _ e, upd_ne _ _ e, upd_ne _ _ e, upd_ne _ _ e, upd_ne _ _ e, decide_eq_false e, Bool.and_false, Bool.or_false, ← sh_1 (by omega)]
              exact hb.2.1 q (by omega)
          · rw [mA_ne _ _ _ (by decide), mA_ne _ _ _ (by decide), mA_ne _ _ _ (by decide), mA_ne _ _ _ (by decide), mA_ne _ _ _ (by decide), mA_ne _ _ _ (by decide), mA_ne _ _ _ (by decide), mA_ne _ _ _ (by decide), mA_ne _ _ _ (by decide), mA_ne _ _ _ (by decide), mA_ne _ _ _ (by decide), mA_ne _ _ _ (by decide)]
            exact hb.2.2.1 g hg
          · rw [mA_ne _ _ _ (by decide), mA_ne _ _ _ (by decide), mA_ne _ _ _ (by decide), mA_ne _ _ _ (by decide)]
            exact hb.2.2.2 i hi8
        · rw [if_neg e3]
          exact Or.inl ⟨_, rfl, ⟨Nat.pos_of_ne_zero e3, hl3⟩, rfl⟩
      · rw [if_neg e2, fz_n _ e2]
        exact Or.inl ⟨_, rfl, ⟨Nat.pos_of_ne_zero e2, hl2⟩, rfl⟩
    · rw [if_neg e1, fz_n _ e1, fz_n _ e1]
      exact Or.inl ⟨_, rfl, ⟨Nat.pos_of_ne_zero e1, hl1⟩, rfl⟩
theorem v_strangerM (d : Nat) (hM : isMo sh) (hi : MTa m T) (hV : VTa T) (hp : p ≤ 450) {b : TB} (hb : TBm m b) (hv : TV b) (hnp : b.2.2.2 < 5) (u1 u3 u4 : Option Value) : ∃ m' p' f', RS (ZZ L xs) (d + 6) mX13_townPart 174 [some (.ref 259), u1, some (.int (nI (b.2.1 - 1))), u3, u4] [] (HP sh (pM x (mS m p 0))) = some (HP sh (pM x (mS m' p' f')), none) ∧ TMs T m m' p' f' (tStranger T (rn isB T p) b) := by
  have h400 := hV.1
  have h1 : 1 ≤ b.2.1 := by have := hv.2.1; omega
  have h8 : b.2.1 ≤ 8 := (TV_k hv).2.2.2.1
  have hs := rn_top2 isB (T := T) hp (by omega)
  obtain ⟨v1, p1, a1, a2, a3⟩ := i_amountM (L := L) (xs := xs) (x := x) (m := m) (p := p) (f := 0) (d + 1) hM hi hV hp (by decide) (lo := 0) (M := (b.2.1 - 1)) (by decide) (by omega)
  have hl1 := tkE_lt2 (T := T) (lo := 0) (M := (b.2.1 - 1)) (u := -1) hs
  have hs1 := rn_top2 isB (T := T) a2 (by omega)
  obtain ⟨v2, p2, b1, b2, b3⟩ := i_unlikeM (L := L) (xs := xs) (x := x) (m := mA m 23 b.2.2.2 v1) (p := p1) (f := fz 0 (tkE T (rn isB T p) 0 (b.2.1 - 1) (-1))) (d) hM (MTa_N (NwO_A (NwO_refl m) (a := 23) (by decide) (by decide) b.2.2.2 v1) hi) hV a2 (by rw [fz_z]; exact hl1) h1 h8 (pl := b.2.1) (by rw [mA_ne _ _ _ (by decide)]; exact hb.1.1) v1
  have hl2 := tkE_lt2 (T := T) (lo := 0) (M := (b.2.1 - 1)) (u := v1) hs1
  have hs2 := rn_top2 isB (T := T) b2 (by omega)
  have hl12 : fz (fz 0 (tkE T (rn isB T p) 0 (b.2.1 - 1) (-1))) (tkE T (rn isB T p1) 0 (b.2.1 - 1) v1) < 10000 := by
    rw [fz_z]
    unfold fz
    split <;> omega
  obtain ⟨v3, p3, c1, c2, c3⟩ := i_amountM (L := L) (xs := xs) (x := x) (m := mA (mA m 23 b.2.2.2 v1) 24 b.2.2.2 v2) (p := p2) (f := fz (fz 0 (tkE T (rn isB T p) 0 (b.2.1 - 1) (-1))) (tkE T (rn isB T p1) 0 (b.2.1 - 1) v1)) (d + 1) hM (MTa_N (NwO_A (NwO_A (NwO_refl m) (a := 23) (by decide) (by decide) b.2.2.2 v1) (a := 24) (by decide) (by decide) b.2.2.2 v2) hi) hV b2 hl12 (lo := 1) (M := 20) (by decide) (by omega)
  have hl3 := tkE_lt2 (T := T) (lo := 1) (M := 20) (u := -1) hs2
  have a1 : cI (ZZ L xs) (d + 5) mX13_amount [.ref 259, .int 0, .int (nI (b.2.1 - 1))] (HP sh (pM x (mS (m) p (0)))) = _ := a1
  have c1 : cI (ZZ L xs) (d + 5) mX13_amount [.ref 259, .int 1, .int 20] (HP sh (pM x (mS (mA (mA m 23 b.2.2.2 v1) 24 b.2.2.2 v2) p2 (fz (fz 0 (tkE T (rn isB T p) 0 (b.2.1 - 1) (-1))) (tkE T (rn isB T p1) 0 (b.2.1 - 1) v1))))) = _ := c1
  refine ⟨mA (mA (mA (mA m 23 b.2.2.2 v1) 24 b.2.2.2 v2) 25 b.2.2.2 v3) 19 3 (nI (b.2.2.2 + 1)), p3, fz (fz (fz 0 (tkE T (rn isB T p) 0 (b.2.1 - 1) (-1))) (tkE T (rn isB T p1) 0 (b.2.1 - 1) v1)) (tkE T (rn isB T p2) 1 20 (-1)), ?_, NwO_A (NwO_A (NwO_A (NwO_A (NwO_refl m) (a := 23) (by decide) (by decide) b.2.2.2 v1) (a := 24) (by decide) (by decide) b.2.2.2 v2) (a := 25) (by decide) (by decide) b.2.2.2 v3) (by decide) (by decide) _ _, c2, ?_⟩
  · rw [bX13_townPart_174, M_newScalar hM, some_bind', eI_l3, Me_newScalar hM (by decide), some_bind', show (mS m p 0).2.1 19 3 = nI b.2.2.2 from hb.1.2.2.2, M_newFrom hM, some_bind', M_is hM, some_bind', a1, some_bind', Mu_newFrom hM (by omega), some_bind', M_newTo hM, some_bind', M_newFrom hM, some_bind', mS_A, Me_newFrom hM (by omega), some_bind', show (mS (mA m 23 b.2.2.2 v1) p1 (fz 0 (tkE T (rn isB T p) 0 (b.2.1 - 1) (-1)))).2.1 23 b.2.2.2 = v1 by show (mA m 23 b.2.2.2 v1).2.1 23 b.2.2.2 = v1; rw [mA_eq, upd_at], M_is hM, some_bind', b1, some_bind', Mu_newTo hM (by omega), some_bind', M_newEvery hM, some_bind', M_is hM, some_bind', mS_A, c1, some_bind', Mu_newEvery hM (by omega), some_bind', mS_A, M_newScalar hM, some_bind', eI_l3, Me_newScalar hM (by decide), some_bind', show (mS (mA (mA (mA m 23 b.2.2.2 v1) 24 b.2.2.2 v2) 25 b.2.2.2 v3) p3 (fz (fz (fz 0 (tkE T (rn isB T p) 0 (b.2.1 - 1) (-1))) (tkE T (rn isB T p1) 0 (b.2.1 - 1) v1)) (tkE T (rn isB T p2) 1 20 (-1)))).2.1 19 3 = nI b.2.2.2 by show (mA (mA (mA m 23 b.2.2.2 v1) 24 b.2.2.2 v2) 25 b.2.2.2 v3).2.1 19 3 = _; rw [mA_ne _ _ _ (by decide), mA_ne _ _ _ (by decide), mA_ne _ _ _ (by decide)]; exact hb.1.2.2.2, nI_1, wI_l3, Mu_newScalar hM (by decide), some_bind', bX13_townPart_232, mS_A]
  · rw [fz_z] at b3 c3 hl12 ⊢
    unfold tStranger
    by_cases e1 : tkE T (rn isB T p) 0 (b.2.1 - 1) (-1) = 0
    · obtain ⟨g1, g2⟩ := a3 rfl e1
      have i1 := tkE_in e1
      rw [if_pos e1, e1, fz_z]
      rw [e1, fz_z] at c3 hl12
      rw [e1] at b3
      rw [g1, g2] at b3 c3 hl12 hl2 ⊢
      by_cases e2 : tkE T (nx' T (rn isB T p)) 0 (b.2.1 - 1) (nI (nv T (rn isB T p))) = 0
      · obtain ⟨k1, k2⟩ := b3 rfl e2
        have i2 := tkE_in e2
        rw [if_pos e2, e2, fz_z]
        rw [e2] at c3
        rw [k2] at c3 hl3 ⊢
        by_cases e3 : tkE T (nx' T (nx' T (rn isB T p))) 1 20 (-1) = 0
        · obtain ⟨n1, n2⟩ := c3 rfl e3
          have i3 := tkE_in e3
          rw [if_pos e3]
          refine Or.inr ⟨_, _, rfl, e3, n2, ⟨?_, ?_, ?_, ?_⟩, fun q hq => ?_, fun g hg => ?_, fun i hi8 => ?_⟩
          · rw [mA_eq, upd_ne _ _ (by decide), mA_ne _ _ _ (by decide), mA_ne _ _ _ (by decide), mA_ne _ _ _ (by decide)]
            exact hb.1.1
          · rw [mA_eq, upd_ne _ _ (by decide), mA_ne _ _ _ (by decide), mA_ne _ _ _ (by decide), mA_ne _ _ _ (by decide)]
            exact hb.1.2.1
          · rw [mA_eq, upd_ne _ _ (by decide), mA_ne _ _ _ (by decide), mA_ne _ _ _ (by decide), mA_ne _ _ _ (by decide)]
            exact hb.1.2.2.1
          · rw [mA_eq, upd_at]
          · rw [mA_ne _ _ _ (by decide), mA_ne _ _ _ (by decide), mA_ne _ _ _ (by decide), mA_ne _ _ _ (by decide), mA_ne _ _ _ (by decide), mA_ne _ _ _ (by decide), mA_ne _ _ _ (by decide), mA_ne _ _ _ (by decide), mA_ne _ _ _ (by decide), mA_ne _ _ _ (by decide), mA_ne _ _ _ (by decide), mA_ne _ _ _ (by decide)]
            exact hb.2.1 q hq
          · have hg : g < b.2.2.2 + 1 := hg
            rw [mA_ne (a := 19) _ _ _ (by decide), mA_ne (a := 25) _ _ _ (by decide), mA_ne (a := 24) _ _ _ (by decide), mA_eq, mA_ne (a := 19) _ _ _ (by decide), mA_ne (a := 25) (b := 24) _ _ _ (by decide), mA_eq, mA_ne (a := 23) (b := 24) _ _ _ (by decide), mA_ne (a := 19) (b := 25) _ _ _ (by decide), mA_eq, mA_ne (a := 24) (b := 25) _ _ _ (by decide), mA_ne (a := 23) (b := 25) _ _ _ (by decide)]
            show upd (m.2.1 23) b.2.2.2 (nI (nv T (rn isB T p))) g = upd (b.1.2.2 2) b.2.2.2 (nI (nv T (rn isB T p))) g ∧ upd (m.2.1 24) b.2.2.2 v2 g = upd (b.1.2.2 3) b.2.2.2 (nI (nv T (nx' T (rn isB T p)))) g ∧ upd (m.2.1 25) b.2.2.2 v3 g = upd (b.1.2.2 4) b.2.2.2 (nI (nv T (nx' T (nx' T (rn isB T p))))) g
            by_cases e : g = b.2.2.2
            · rw [e, upd_at, upd_at, upd_at, upd_at, upd_at, upd_at]
              exact ⟨rfl, k1, n1⟩
            · rw [upd_ne _ _ e, upd_ne _ _ e, upd_ne _ _ e, upd_ne _ _ e, upd_ne _ _ e, upd_ne _ _ e]
              exact hb.2.2.1 g (by omega)
          · rw [mA_ne _ _ _ (by decide), mA_ne _ _ _ (by decide), mA_ne _ _ _ (by decide), mA_ne _ _ _ (by decide)]
            exact hb.2.2.2 i hi8
        · rw [if_neg e3]
          exact Or.inl ⟨_, rfl, ⟨Nat.pos_of_ne_zero e3, hl3⟩, rfl⟩
      · rw [if_neg e2, fz_n _ e2]
        exact Or.inl ⟨_, rfl, ⟨Nat.pos_of_ne_zero e2, hl2⟩, rfl⟩
    · rw [if_neg e1, fz_n _ e1, fz_n _ e1]
      exact Or.inl ⟨_, rfl, ⟨Nat.pos_of_ne_zero e1, hl1⟩, rfl⟩
end TOWNM2
