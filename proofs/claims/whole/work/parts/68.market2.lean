section MARKET2
variable {L : Nat} {xs : Nat → Int32} {W : WD}
theorem grp2 {a x y b : Int32} (h : x + a = y + b) : a + (x - y) = b := by
  have h2 := congrArg (fun q => q - y) h
  simp only [Int32.add_comm y b, Int32.add_sub_cancel] at h2
  rw [← h2, Int32.add_comm x a, Int32.sub_eq_add_neg, Int32.sub_eq_add_neg, Int32.add_assoc]
theorem mkP_lt (c : Int32) (k : Nat) (s : SV) : (mkP W c k s).1 < 2 ^ 31 := by
  unfold mkP
  split
  · exact dnx_lt _
  · split
    · exact dnx_lt _
    · exact dnx_lt _
theorem mkF_lt (c : Int32) : ∀ (f : Nat) (t : Nat × SV × Int32), t.1 < 2 ^ 31 → (mkF W c f t).1 < 2 ^ 31
  | 0, _, h => h
  | f + 1, t, _ => mkF_lt c f _ (mkP_lt c t.1 t.2.1)
noncomputable def mkA (W : WD) (c e : Int32) (n hr k : Nat) : Int32 := if e = 0 then (lp (mkG W c hr) n 0 (k, 0, 0)).2.1 else (lp (mkG W c hr) n 0 (k, 0, 0)).2.2
section
variable {sh : List Sh} {y z : ST} {s : SV} {k : Nat}
theorem mkt_in (d : Nat) (hv : VW W) (hp : 0 < W.2.1.1.2.1) {n hr : Nat} (hh : hr ≤ 60) {c : Int32} (e : Int32) (r : Nat) (i5 : Int32) : ∀ (f j : Nat), f + j = hr → ∀ (z : ST) (s : SV) (k : Nat) (a : Int32), QD L xs sh W z s k → ∃ (z' : ST) (u8 : Option Value), RS (ZZ L xs) (d + 59) mX2_drawn 43 [some (.ref 205), some (.int (nI n)), some (.int (nI hr)), some (.int c), some (.int e), some (.int i5), some (.int a), some (.int (nI r)), some (.int (nI j))] [] (HP sh z) = RS (ZZ L xs) (d + 59) mX2_drawn 20 [some (.ref 205), some (.int (nI n)), some (.int (nI hr)), some (.int c), some (.int e), some (.int (i5 + ((mkF W c f (k, s, a)).2.1.1.2.2 - W.2.1.2.1.1.2.2))), some (.int (mkF W c f (k, s, a)).2.2), some (.int (nI (r + 1))), u8] [] (HP sh z') ∧ Off Dm z z' ∧ QD L xs sh W z' (mkF W c f (k, s, a)).2.1 (mkF W c f (k, s, a)).1 := by
  intro f
  have hb : trq 206 := Or.inl rfl
  induction f with
  | zero =>
    intro j hj z s k a h
    have hx := h.1.1
    have hS : isSc sh 3 := hx.1.1.2.2.1
    have hW : isWM sh 0 := hx.1.1.1
    have hC : isCk sh 183 := hx.1.1.2.2.2
    have hO : isOl sh 205 := hx.1.2.2.1
    have hB : isSt sh 206 := hO.2.1
    have hN : isSt sh 10 := hS.2.2.2.2.1
    refine ⟨z, some (.int (nI j)), ?_, Off_refl _ _, h⟩
    rw [bX2_drawn_43, if_pos (nI_le (by omega) (by omega))]
    simp only [Ol_now hO, Ol_clock hO, Ol_trial hO, Ol_turns hO, Ol_gainOfOne hO, Ol_gainOfOther hO, Ol_one hO, Ol_other hO, Ol_turnCount hO, Ol_firstMove hO, Ol_x hO, Olw_one hO, Olw_other hO, Olw_turnCount hO, Olw_firstMove hO, Olw_x hO, Ol_is hO, Ole_gainOfOne hO, Ole_gainOfOther hO, Olu_gainOfOne hO, Olu_gainOfOther hO, Sc_state hS, Sc_past hS, Sc_force hS, Sc_x hS, Sc_notes hS, Sc_noteHour hS, Sc_noteStranger hS, Sc_notePerson hS, Scw_town hS, Scw_force hS, Scw_x hS, Scw_notes hS, Sc_is hS, Sce_noteHour hS, Sce_noteStranger hS, Sce_notePerson hS, Scu_noteHour hS, Scu_noteStranger hS, Scu_notePerson hS, WM_tape hW, WM_townReader hW, WM_ruleReader hW, WM_rules hW, WM_ruleCount hW, WM_now hW, WM_images hW, WM_clock hW, WM_outlook hW, WM_history hW, WMw_ruleCount hW, WMw_blankRule hW, WM_is hW, St_hour hB, St_chain hB, St_come hB, St_open hB, St_place hB, St_kind hB, St_asked hB, St_total hB, St_chains hB, St_at hB, St_before hB, Stw_hour hB, Stw_chain hB, Stw_come hB, Stw_open hB, St_is hB, Ste_place hB, Ste_kind hB, Ste_asked hB, Ste_total hB, Ste_chains hB, Ste_at hB, Ste_before hB, Stu_place hB, Stu_kind hB, Stu_asked hB, Stu_total hB, Stu_chains hB, Stu_at hB, Stu_before hB, St_hour hN, St_chain hN, St_come hN, St_open hN, St_place hN, St_kind hN, St_asked hN, St_total hN, St_chains hN, St_at hN, St_before hN, Stw_hour hN, Stw_chain hN, Stw_come hN, Stw_open hN, St_is hN, Ste_place hN, Ste_kind hN, Ste_asked hN, Ste_total hN, Ste_chains hN, Ste_at hN, Ste_before hN, Stu_place hN, Stu_kind hN, Stu_asked hN, Stu_total hN, Stu_chains hN, Stu_at hN, Stu_before hN, Ck_is hC, some_bind', (Q_int h.1).2.2, (XI_ints hx).2.2, nI_1]
    rfl
  | succ f ih =>
    intro j hj z s k a h
    have hx := h.1.1
    have hS : isSc sh 3 := hx.1.1.2.2.1
    have hW : isWM sh 0 := hx.1.1.1
    have hC : isCk sh 183 := hx.1.1.2.2.2
    have hO : isOl sh 205 := hx.1.2.2.1
    have hB : isSt sh 206 := hO.2.1
    have hN : isSt sh 10 := hS.2.2.2.2.1
    have tail : ∀ (z1 : ST) (s1 : SV) (k1 : Nat), QD L xs sh W z1 s1 k1 → Off Dm z z1 → mkP W c k s = (k1, s1) → ∃ (z' : ST) (u8 : Option Value), RS (ZZ L xs) (d + 59) mX2_drawn 64 [some (.ref 205), some (.int (nI n)), some (.int (nI hr)), some (.int c), some (.int e), some (.int i5), some (.int a), some (.int (nI r)), some (.int (nI j))] [] (HP sh z1) = RS (ZZ L xs) (d + 59) mX2_drawn 20 [some (.ref 205), some (.int (nI n)), some (.int (nI hr)), some (.int c), some (.int e), some (.int (i5 + ((mkF W c (f + 1) (k, s, a)).2.1.1.2.2 - W.2.1.2.1.1.2.2))), some (.int (mkF W c (f + 1) (k, s, a)).2.2), some (.int (nI (r + 1))), u8] [] (HP sh z') ∧ Off Dm z z' ∧ QD L xs sh W z' (mkF W c (f + 1) (k, s, a)).2.1 (mkF W c (f + 1) (k, s, a)).1 := fun z1 s1 k1 h1 o1 hm => by
      obtain ⟨w, w1, w2, w3, -⟩ := Q_pass (L := L) (xs := xs) (d + 54) hv hb h1.1
      obtain ⟨z', u8, p1, p2, p3⟩ := ih (j + 1) (by omega) w _ k1 (a + woN W s1) (QD_off h1 w2 w3)
      have e0 : mkF W c (f + 1) (k, s, a) = mkF W c f (k1, woS W s1, a + woN W s1) := by
        show mkF W c f ((mkP W c k s).1, woS W (mkP W c k s).2, a + woN W (mkP W c k s).2) = _
        rw [hm]
      rw [e0]
      refine ⟨z', u8, ?_, Off_trans (Off_trans o1 (Off_mono w2 (fun o q => Or.inl q))) p2, p3⟩
      rw [bX2_drawn_64]
      simp only [Ol_now hO, Ol_clock hO, Ol_trial hO, Ol_turns hO, Ol_gainOfOne hO, Ol_gainOfOther hO, Ol_one hO, Ol_other hO, Ol_turnCount hO, Ol_firstMove hO, Ol_x hO, Olw_one hO, Olw_other hO, Olw_turnCount hO, Olw_firstMove hO, Olw_x hO, Ol_is hO, Ole_gainOfOne hO, Ole_gainOfOther hO, Olu_gainOfOne hO, Olu_gainOfOther hO, Sc_state hS, Sc_past hS, Sc_force hS, Sc_x hS, Sc_notes hS, Sc_noteHour hS, Sc_noteStranger hS, Sc_notePerson hS, Scw_town hS, Scw_force hS, Scw_x hS, Scw_notes hS, Sc_is hS, Sce_noteHour hS, Sce_noteStranger hS, Sce_notePerson hS, Scu_noteHour hS, Scu_noteStranger hS, Scu_notePerson hS, WM_tape hW, WM_townReader hW, WM_ruleReader hW, WM_rules hW, WM_ruleCount hW, WM_now hW, WM_images hW, WM_clock hW, WM_outlook hW, WM_history hW, WMw_ruleCount hW, WMw_blankRule hW, WM_is hW, St_hour hB, St_chain hB, St_come hB, St_open hB, St_place hB, St_kind hB, St_asked hB, St_total hB, St_chains hB, St_at hB, St_before hB, Stw_hour hB, Stw_chain hB, Stw_come hB, Stw_open hB, St_is hB, Ste_place hB, Ste_kind hB, Ste_asked hB, Ste_total hB, Ste_chains hB, Ste_at hB, Ste_before hB, Stu_place hB, Stu_kind hB, Stu_asked hB, Stu_total hB, Stu_chains hB, Stu_at hB, Stu_before hB, St_hour hN, St_chain hN, St_come hN, St_open hN, St_place hN, St_kind hN, St_asked hN, St_total hN, St_chains hN, St_at hN, St_before hN, Stw_hour hN, Stw_chain hN, Stw_come hN, Stw_open hN, St_is hN, Ste_place hN, Ste_kind hN, Ste_asked hN, Ste_total hN, Ste_chains hN, Ste_at hN, Ste_before hN, Stu_place hN, Stu_kind hN, Stu_asked hN, Stu_total hN, Stu_chains hN, Stu_at hN, Stu_before hN, Ck_is hC, some_bind', w1, nI_1]
      exact p1
    have l1 := dnx_lt k
    obtain ⟨a1, a2⟩ := QD_x h (dnx k)
    have d1 := i_draw (L := L) (xs := xs) (d + 57) h
    have r1 : iRem (nI (dnx k / 65536)) 100 = nI (dnx k / 65536 % 100) := rem_nI (b := 100) (by omega) (by omega) (by omega)
    generalize sI z 205 10 (nI (dnx k)) = za at *
    rw [bX2_drawn_43, if_neg (nI_ge (by omega) (by omega)), Ol_is hO, some_bind', d1, some_bind', if_neg (by decide), r1]
    by_cases c1 : c ≤ nI (dnx k / 65536 % 100)
    · rw [if_pos c1]
      exact tail za s (dnx k) a1 a2 (by unfold mkP; rw [if_pos c1])
    · obtain ⟨zb, b1, b2, b3⟩ := v_place (L := L) (xs := xs) (d + 56) hv hp a1
      rw [if_neg c1, Ol_is hO, some_bind', b1, some_bind']
      refine tail zb _ _ b3 (Off_trans a2 b2) ?_
      unfold mkP
      rw [if_neg c1]
      by_cases h0 : W.2.1.1.2.2.1 = 0
      · rw [if_pos h0, if_pos h0, if_pos h0]
      · rw [if_neg h0, if_neg h0, if_neg h0]
theorem mkt_out (d : Nat) (hv : VW W) (hp : 0 < W.2.1.1.2.1) {n hr : Nat} (hn : n ≤ 10) (hh : hr ≤ 60) {c : Int32} (e : Int32) : ∀ (f r : Nat), f + r = n → ∀ (z : ST) (s : SV) (t : Nat × Int32 × Int32) (u8 : Option Value), QD L xs sh W z s t.1 → ∃ z', RS (ZZ L xs) (d + 59) mX2_drawn 20 [some (.ref 205), some (.int (nI n)), some (.int (nI hr)), some (.int c), some (.int e), some (.int t.2.1), some (.int t.2.2), some (.int (nI r)), u8] [] (HP sh z) = some (HP sh z', some (.int (if e = 0 then (lp (mkG W c hr) f r t).2.1 else (lp (mkG W c hr) f r t).2.2))) ∧ Off Dm z z' ∧ XI L xs sh z' W := by
  intro f
  have hb : trq 206 := Or.inl rfl
  induction f with
  | zero =>
    intro r hrr z s t u8 h
    refine ⟨z, ?_, Off_refl _ _, h.1.1⟩
    rw [bX2_drawn_20, if_pos (nI_le (by omega) (by omega))]
    by_cases c0 : e = 0
    · rw [if_neg (fun z => z c0), if_pos c0, bX2_drawn_127]
      rfl
    · rw [if_pos c0, if_neg c0, bX2_drawn_127]
      rfl
  | succ f ih =>
    intro r hrr z s t u8 h
    have hx := h.1.1
    have hS : isSc sh 3 := hx.1.1.2.2.1
    have hW : isWM sh 0 := hx.1.1.1
    have hC : isCk sh 183 := hx.1.1.2.2.2
    have hO : isOl sh 205 := hx.1.2.2.1
    have hB : isSt sh 206 := hO.2.1
    have hN : isSt sh 10 := hS.2.2.2.2.1
    obtain ⟨v, v1, v2, v3⟩ := Q_now (L := L) (xs := xs) (d + 57) hb h.1
    have v2' := Off_mono (E := Dt 206) v2 (fun o q => Or.inl q)
    obtain ⟨w, v8, w1, w2, w3⟩ := mkt_in (L := L) (xs := xs) d hv hp (n := n) hh (c := c) e r t.2.1 _ 0 rfl v _ t.1 t.2.2 (QD_off h v2' v3)
    obtain ⟨z', p1, p2, p3⟩ := ih (r + 1) (by omega) w _ (mkG W c _ r t) v8 w3
    refine ⟨z', ?_, Off_trans (Off_trans (Off_mono v2' (fun o q => Or.inl q)) w2) p2, p3⟩
    rw [bX2_drawn_20, if_neg (nI_ge (by omega) (by omega))]
    simp only [Ol_now hO, Ol_clock hO, Ol_trial hO, Ol_turns hO, Ol_gainOfOne hO, Ol_gainOfOther hO, Ol_one hO, Ol_other hO, Ol_turnCount hO, Ol_firstMove hO, Ol_x hO, Olw_one hO, Olw_other hO, Olw_turnCount hO, Olw_firstMove hO, Olw_x hO, Ol_is hO, Ole_gainOfOne hO, Ole_gainOfOther hO, Olu_gainOfOne hO, Olu_gainOfOther hO, Sc_state hS, Sc_past hS, Sc_force hS, Sc_x hS, Sc_notes hS, Sc_noteHour hS, Sc_noteStranger hS, Sc_notePerson hS, Scw_town hS, Scw_force hS, Scw_x hS, Scw_notes hS, Sc_is hS, Sce_noteHour hS, Sce_noteStranger hS, Sce_notePerson hS, Scu_noteHour hS, Scu_noteStranger hS, Scu_notePerson hS, WM_tape hW, WM_townReader hW, WM_ruleReader hW, WM_rules hW, WM_ruleCount hW, WM_now hW, WM_images hW, WM_clock hW, WM_outlook hW, WM_history hW, WMw_ruleCount hW, WMw_blankRule hW, WM_is hW, St_hour hB, St_chain hB, St_come hB, St_open hB, St_place hB, St_kind hB, St_asked hB, St_total hB, St_chains hB, St_at hB, St_before hB, Stw_hour hB, Stw_chain hB, Stw_come hB, Stw_open hB, St_is hB, Ste_place hB, Ste_kind hB, Ste_asked hB, Ste_total hB, Ste_chains hB, Ste_at hB, Ste_before hB, Stu_place hB, Stu_kind hB, Stu_asked hB, Stu_total hB, Stu_chains hB, Stu_at hB, Stu_before hB, St_hour hN, St_chain hN, St_come hN, St_open hN, St_place hN, St_kind hN, St_asked hN, St_total hN, St_chains hN, St_at hN, St_before hN, Stw_hour hN, Stw_chain hN, Stw_come hN, Stw_open hN, St_is hN, Ste_place hN, Ste_kind hN, Ste_asked hN, Ste_total hN, Ste_chains hN, Ste_at hN, Ste_before hN, Stu_place hN, Stu_kind hN, Stu_asked hN, Stu_total hN, Stu_chains hN, Stu_at hN, Stu_before hN, Ck_is hC, some_bind', v1]
    exact w1.trans p1
end
end MARKET2
