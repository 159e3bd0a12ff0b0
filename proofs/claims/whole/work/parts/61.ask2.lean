/-! mayor, pitch, smile, came, way -/
section ASK2
variable {L : Nat} {xs : Nat → Int32} {W : WD}
/-- in how many hours a person has the chain -/
def mayF (W : WD) (p : Int32) : Nat → SV → Int32
  | 0, _ => -2
  | f + 1, s => if s.1.2.1 = p then s.1.1 else mayF W p f (woS W s)
theorem Sp_mayor (hv : VW W) (a : Int32) : Step L xs W mX12_mayor mX13_mayor [.int a] := by
  have h6 : W.2.1.1.2.2.1 ≤ 6 := hv.2.1.1.1.1.2.1
  have hb : trq 206 := Or.inl rfl
  by_cases ha : iN W.2.1.1.2.2.1 a = true
  · obtain ⟨q, hq, rfl⟩ := iN_ex (by omega) ha
    have hVT := hv.2.1.1.1.2.2.2.1 (pl_of_np hv hq)
    refine ⟨W, mayF W (nI q) 100 W.2.1.2.1, Xask fun sh y d hx => ?_, Mask hv fun sh x m d hM hi => ?_⟩
    · have hS : isSc sh 3 := hx.1.1.2.2.1
      have hW : isWM sh 0 := hx.1.1.1
      have hC : isCk sh 183 := hx.1.1.2.2.2
      have hO : isOl sh 205 := hx.1.2.2.1
      have hB : isSt sh 206 := hO.2.1
      have hN : isSt sh 10 := hS.2.2.2.2.1
      obtain ⟨u, u1, u2, u3⟩ := Q_wind (L := L) (xs := xs) (d + 57) hv hx 206
      obtain ⟨v, v1, v2, v3⟩ := Q_now (L := L) (xs := xs) (d + 57) hb u3
      have loop : ∀ (f i : Nat), f + i = 100 → ∀ (z : ST) (s : SV), QT L xs sh W 206 (RF W W.2.1.2.2.2.1.1) (W.2.1.1.1.1 5) z s → ∃ z', RS (ZZ L xs) (d + 59) mX2_firstChain 16 [some (.ref 205), some (.int (nI q)), some (.int (nI i))] [] (HP sh z) = some (HP sh z', some (.int (mayF W (nI q) f s))) ∧ Off (Dt 206) z z' ∧ XI L xs sh z' W := by
        intro f
        induction f with
        | zero =>
          intro i hi z s h
          have : i = 100 := by omega
          subst this
          refine ⟨z, ?_, Off_refl _ _, h.1⟩
          rw [bX2_firstChain_16, if_pos (by decide)]
          rfl
        | succ f ih =>
          intro i hi z s h
          obtain ⟨i0, i1, i2⟩ := Q_int h
          rw [bX2_firstChain_16, if_neg (show ¬ (100 : Int32) ≤ nI i from nI_ge (b := 100) (by omega) (by decide))]
          unfold mayF
          by_cases e : s.1.2.1 = nI q
          · refine ⟨z, ?_, Off_refl _ _, h.1⟩
            rw [if_pos e]
            simp only [Ol_now hO, Ol_clock hO, Ol_trial hO, Ol_turns hO, Ol_gainOfOne hO, Ol_gainOfOther hO, Ol_one hO, Ol_other hO, Ol_turnCount hO, Ol_firstMove hO, Ol_x hO, Olw_one hO, Olw_other hO, Olw_turnCount hO, Olw_firstMove hO, Olw_x hO, Ol_is hO, Ole_gainOfOne hO, Ole_gainOfOther hO, Olu_gainOfOne hO, Olu_gainOfOther hO, Sc_state hS, Sc_past hS, Sc_force hS, Sc_x hS, Sc_notes hS, Sc_noteHour hS, Sc_noteStranger hS, Sc_notePerson hS, Scw_town hS, Scw_force hS, Scw_x hS, Scw_notes hS, Sc_is hS, Sce_noteHour hS, Sce_noteStranger hS, Sce_notePerson hS, Scu_noteHour hS, Scu_noteStranger hS, Scu_notePerson hS, WM_tape hW, WM_townReader hW, WM_ruleReader hW, WM_rules hW, WM_ruleCount hW, WM_now hW, WM_images hW, WM_clock hW, WM_outlook hW, WM_history hW, WMw_ruleCount hW, WMw_blankRule hW, WM_is hW, St_hour hB, St_chain hB, St_come hB, St_open hB, St_place hB, St_kind hB, St_asked hB, St_total hB, St_chains hB, St_at hB, St_before hB, Stw_hour hB, Stw_chain hB, Stw_come hB, Stw_open hB, St_is hB, Ste_place hB, Ste_kind hB, Ste_asked hB, Ste_total hB, Ste_chains hB, Ste_at hB, Ste_before hB, Stu_place hB, Stu_kind hB, Stu_asked hB, Stu_total hB, Stu_chains hB, Stu_at hB, Stu_before hB, St_hour hN, St_chain hN, St_come hN, St_open hN, St_place hN, St_kind hN, St_asked hN, St_total hN, St_chains hN, St_at hN, St_before hN, Stw_hour hN, Stw_chain hN, Stw_come hN, Stw_open hN, St_is hN, Ste_place hN, Ste_kind hN, Ste_asked hN, Ste_total hN, Ste_chains hN, Ste_at hN, Ste_before hN, Stu_place hN, Stu_kind hN, Stu_asked hN, Stu_total hN, Stu_chains hN, Stu_at hN, Stu_before hN, Ck_is hC, some_bind', i0, i1]
            rw [if_neg (fun z => z e)]
          · obtain ⟨z1', p1, p2, p3, -⟩ := Q_pass (L := L) (xs := xs) (d + 54) hv hb h
            obtain ⟨z2, r1, r2, r3⟩ := ih (i + 1) (by omega) z1' _ p3
            refine ⟨z2, ?_, Off_trans p2 r2, r3⟩
            rw [if_neg e]
            simp only [Ol_now hO, Ol_clock hO, Ol_trial hO, Ol_turns hO, Ol_gainOfOne hO, Ol_gainOfOther hO, Ol_one hO, Ol_other hO, Ol_turnCount hO, Ol_firstMove hO, Ol_x hO, Olw_one hO, Olw_other hO, Olw_turnCount hO, Olw_firstMove hO, Olw_x hO, Ol_is hO, Ole_gainOfOne hO, Ole_gainOfOther hO, Olu_gainOfOne hO, Olu_gainOfOther hO, Sc_state hS, Sc_past hS, Sc_force hS, Sc_x hS, Sc_notes hS, Sc_noteHour hS, Sc_noteStranger hS, Sc_notePerson hS, Scw_town hS, Scw_force hS, Scw_x hS, Scw_notes hS, Sc_is hS, Sce_noteHour hS, Sce_noteStranger hS, Sce_notePerson hS, Scu_noteHour hS, Scu_noteStranger hS, Scu_notePerson hS, WM_tape hW, WM_townReader hW, WM_ruleReader hW, WM_rules hW, WM_ruleCount hW, WM_now hW, WM_images hW, WM_clock hW, WM_outlook hW, WM_history hW, WMw_ruleCount hW, WMw_blankRule hW, WM_is hW, St_hour hB, St_chain hB, St_come hB, St_open hB, St_place hB, St_kind hB, St_asked hB, St_total hB, St_chains hB, St_at hB, St_before hB, Stw_hour hB, Stw_chain hB, Stw_come hB, Stw_open hB, St_is hB, Ste_place hB, Ste_kind hB, Ste_asked hB, Ste_total hB, Ste_chains hB, Ste_at hB, Ste_before hB, Stu_place hB, Stu_kind hB, Stu_asked hB, Stu_total hB, Stu_chains hB, Stu_at hB, Stu_before hB, St_hour hN, St_chain hN, St_come hN, St_open hN, St_place hN, St_kind hN, St_asked hN, St_total hN, St_chains hN, St_at hN, St_before hN, Stw_hour hN, Stw_chain hN, Stw_come hN, Stw_open hN, St_is hN, Ste_place hN, Ste_kind hN, Ste_asked hN, Ste_total hN, Ste_chains hN, Ste_at hN, Ste_before hN, Stu_place hN, Stu_kind hN, Stu_asked hN, Stu_total hN, Stu_chains hN, Stu_at hN, Stu_before hN, Ck_is hC, some_bind', i1, p1, nI_1]
            rw [if_pos e]
            exact r1
      obtain ⟨w, w1, w2, w3⟩ := loop 100 0 rfl v _ v3
      have hoff : Off Dq y w := Off_trans (Off_trans (Off_mono u2 (fun o q => by unfold Dq; omega)) (Off_mono v2 (fun o q => Dt_q hb (Or.inl q)))) (Off_mono w2 (fun o q => Dt_q hb q))
      have haf : cI (ZZ L xs) (d + 59) mX2_firstChain [.ref 205, .int (nI q)] (HP sh u) = some (HP sh w, mayF W (nI q) 100 W.2.1.2.1) := by
        refine cI_of ?_
        show RS (ZZ L xs) (d + 59) mX2_firstChain 0 [some (.ref 205), some (.int (nI q)), none] [] _ = _
        rw [bX2_firstChain_0]
        simp only [Ol_now hO, Ol_clock hO, Ol_trial hO, Ol_turns hO, Ol_gainOfOne hO, Ol_gainOfOther hO, Ol_one hO, Ol_other hO, Ol_turnCount hO, Ol_firstMove hO, Ol_x hO, Olw_one hO, Olw_other hO, Olw_turnCount hO, Olw_firstMove hO, Olw_x hO, Ol_is hO, Ole_gainOfOne hO, Ole_gainOfOther hO, Olu_gainOfOne hO, Olu_gainOfOther hO, Sc_state hS, Sc_past hS, Sc_force hS, Sc_x hS, Sc_notes hS, Sc_noteHour hS, Sc_noteStranger hS, Sc_notePerson hS, Scw_town hS, Scw_force hS, Scw_x hS, Scw_notes hS, Sc_is hS, Sce_noteHour hS, Sce_noteStranger hS, Sce_notePerson hS, Scu_noteHour hS, Scu_noteStranger hS, Scu_notePerson hS, WM_tape hW, WM_townReader hW, WM_ruleReader hW, WM_rules hW, WM_ruleCount hW, WM_now hW, WM_images hW, WM_clock hW, WM_outlook hW, WM_history hW, WMw_ruleCount hW, WMw_blankRule hW, WM_is hW, St_hour hB, St_chain hB, St_come hB, St_open hB, St_place hB, St_kind hB, St_asked hB, St_total hB, St_chains hB, St_at hB, St_before hB, Stw_hour hB, Stw_chain hB, Stw_come hB, Stw_open hB, St_is hB, Ste_place hB, Ste_kind hB, Ste_asked hB, Ste_total hB, Ste_chains hB, Ste_at hB, Ste_before hB, Stu_place hB, Stu_kind hB, Stu_asked hB, Stu_total hB, Stu_chains hB, Stu_at hB, Stu_before hB, St_hour hN, St_chain hN, St_come hN, St_open hN, St_place hN, St_kind hN, St_asked hN, St_total hN, St_chains hN, St_at hN, St_before hN, Stw_hour hN, Stw_chain hN, Stw_come hN, Stw_open hN, St_is hN, Ste_place hN, Ste_kind hN, Ste_asked hN, Ste_total hN, Ste_chains hN, Ste_at hN, Ste_before hN, Stu_place hN, Stu_kind hN, Stu_asked hN, Stu_total hN, Stu_chains hN, Stu_at hN, Stu_before hN, Ck_is hC, some_bind', v1]
        exact w1
      refine ⟨w, ?_, w3, hoff⟩
      show RS (ZZ L xs) (d + 60) mX12_mayor 0 [some (.ref 0), some (.int (nI q))] [] _ = _
      rw [bX12_mayor_0, WM_is hW, some_bind', i_isPerson _ hx hv, some_bind', if_pos (z1 ha), WM_is hW, some_bind', u1, some_bind', WM_outlook hW, some_bind', Ol_is hO, some_bind', haf, some_bind']
    · obtain ⟨m1, k1, k2, k3⟩ := Q_keep (L := L) (xs := xs) (x := x) (d + 56) hM hv hi
      have done : ∀ (f i : Nat), f + i = 100 → ∀ (m1 : MM) (s : SV) (r : Int32), QM L xs sh x W m (RF W W.2.1.2.2.2.1.1) (W.2.1.1.1.1 5) m1 s → ¬ r = -2 → ∃ m2, RS (ZZ L xs) (d + 60) mX13_mayor 19 [some (.ref 259), some (.int (nI q)), some (.int r), some (.int (nI i))] [] (HP sh (pM x m1)) = some (HP sh (pM x m2), some (.int r)) ∧ MJ m m2 := fun f i hf m1 s r h hr => by
        obtain ⟨m3, l1, l2, l3, l4⟩ := Q_lay (L := L) (xs := xs) (x := x) (d + 56) hM hv hi h.1
        refine ⟨m3, ?_, l2⟩
        rw [bX13_mayor_19]
        by_cases h100 : (100 : Int32) ≤ nI i
        · rw [if_pos h100, bX13_mayor_64, M_is hM, some_bind', l1, some_bind']
        · rw [if_neg h100, if_pos hr, bX13_mayor_64, M_is hM, some_bind', l1, some_bind']
      have loop : ∀ (f i h : Nat), f + i = 100 → h + f ≤ 2000 → ∀ (m1 : MM) (s : SV), s.1.1 = nI h → QM L xs sh x W m (RF W W.2.1.2.2.2.1.1) (W.2.1.1.1.1 5) m1 s → (∃ B, VB W.2.1.1.2.2.1 s B) → ∃ m2, RS (ZZ L xs) (d + 60) mX13_mayor 19 [some (.ref 259), some (.int (nI q)), some (.int (-2)), some (.int (nI i))] [] (HP sh (pM x m1)) = some (HP sh (pM x m2), some (.int (mayF W (nI q) f s))) ∧ MJ m m2 := by
        intro f
        induction f with
        | zero =>
          intro i h hi2 hh m1 s hs hq2 _
          have : i = 100 := by omega
          subst this
          obtain ⟨m3, l1, l2, l3, l4⟩ := Q_lay (L := L) (xs := xs) (x := x) (d + 56) hM hv hi hq2.1
          refine ⟨m3, ?_, l2⟩
          rw [bX13_mayor_19, if_pos (by decide), bX13_mayor_64, M_is hM, some_bind', l1, some_bind']
          rfl
        | succ f ih =>
          intro i h hi2 hh m1 s hs hq2 hB
          obtain ⟨B, hB⟩ := hB
          obtain ⟨g, g1, g2, g3, -⟩ := Q_goes (L := L) (xs := xs) (x := x) (d + 52) hM hVT hq2
          obtain ⟨b1, b2, b3⟩ := VB_hoS (R := RF W W.2.1.2.2.2.1.1) (w := W.2.1.1.1) (ns := W.2.1.1.2.2.2) (wr := W.2.1.1.1.1 5) h6 hB
          have hD := hq2.2.2.2.1
          unfold mayF
          by_cases e : s.1.2.1 = nI q
          · have hne : ¬ nI h = -2 := fun z => nI_pos (n := h) (by omega) (by rw [z]; decide)
            obtain ⟨m3, l1, l2⟩ := done f (i + 1) (by omega) g _ (nI h) g3 hne
            refine ⟨m3, ?_, l2⟩
            rw [if_pos e, bX13_mayor_19, if_neg (show ¬ (100 : Int32) ≤ nI i from nI_ge (b := 100) (by omega) (by decide)), if_neg (fun z => z rfl), M_scalar hM, some_bind', eI_l5, Me_scalar hM (by decide), some_bind', hD.2.1, if_neg (fun z => z e), some_bind', eI_l4, Me_scalar hM (by decide), some_bind', bX13_mayor_52, M_is hM, some_bind', g1, some_bind', nI_1, hD.1, hs]
            exact l1
          · obtain ⟨m3, l1, l2⟩ := ih (i + 1) (h + 1) (by omega) (by omega) g _ (b2.trans (by rw [hs, nI_1])) g3 ⟨_, b1⟩
            refine ⟨m3, ?_, l2⟩
            rw [if_neg e, bX13_mayor_19, if_neg (show ¬ (100 : Int32) ≤ nI i from nI_ge (b := 100) (by omega) (by decide)), if_neg (fun z => z rfl), M_scalar hM, some_bind', eI_l5, Me_scalar hM (by decide), some_bind', hD.2.1, if_pos e, bX13_mayor_52, M_is hM, some_bind', g1, some_bind', nI_1]
            exact l1
      obtain ⟨-, h, hh, hho, hvb⟩ := id hv.2.1.1.2.1
      obtain ⟨m2, l1, l2⟩ := loop 100 0 h rfl (by omega) m1 _ hho k3 ⟨_, hvb⟩
      refine ⟨m2, ?_, l2⟩
      show RS (ZZ L xs) (d + 60) mX13_mayor 0 [some (.ref 259), some (.int (nI q)), none, none] [] _ = _
      rw [bX13_mayor_0, M_is hM, some_bind', i_personM _ hM hi hv, some_bind', if_pos (z1 ha), M_is hM, some_bind', k1, some_bind']
      exact l1
  · refine ⟨W, -1, Xsame fun sh y d hx => ?_, Msame hv fun sh x m d hM hi => ?_⟩
    · show RS (ZZ L xs) (d + 60) mX12_mayor 0 [some (.ref 0), some (.int a)] [] _ = _
      rw [bX12_mayor_0, WM_is hx.1.1.1, some_bind', i_isPerson _ hx hv, some_bind', if_neg (fun z => z (z0 ha))]
    · show RS (ZZ L xs) (d + 60) mX13_mayor 0 [some (.ref 259), some (.int a), none, none] [] _ = _
      rw [bX13_mayor_0, M_is hM, some_bind', i_personM _ hM hi hv, some_bind', if_neg (fun z => z (z0 ha))]
def pitV (W : WD) (q n p : Nat) : Int32 := (woR W n (stR W.2.1.2.1 0 (upd (W.2.1.2.1.2.2 0) q (nI p)))).2.2 3 q - W.2.1.2.1.2.2 3 q
def pitG (W : WD) (q n p : Nat) (a : Int32 × Int32) : Int32 × Int32 := if pitV W q n p ≤ a.2 then a else (nI p, pitV W q n p)
theorem Sp_pitch (hv : VW W) (a b c : Int32) : Step L xs W mX12_pitch mX13_pitch [.int a, .int b, .int c] := by
  have h6 : W.2.1.1.2.2.1 ≤ 6 := hv.2.1.1.1.1.2.1
  have h8 : W.2.1.1.2.1 ≤ 8 := hv.2.1.1.1.2.2.2.2.1.1
  have hb : trq 206 := Or.inl rfl
  by_cases ha : iN W.2.1.1.2.2.1 a = true
  · obtain ⟨q, hq, rfl⟩ := iN_ex (by omega) ha
    have hVT := hv.2.1.1.1.2.2.2.1 (pl_of_np hv hq)
    by_cases hwb : wiB 1 60 b = true
    · obtain ⟨n, -, hn, rfl⟩ := wiB_ex (lo := 1) (hi := 60) rfl rfl (by decide) (by decide) hwb
      by_cases hwc : wiB 0 1 c = true
      · refine ⟨W, if c = 0 then (lp (pitG W q n) W.2.1.1.2.1 0 (-1, -1)).1 else (lp (pitG W q n) W.2.1.1.2.1 0 (-1, -1)).2, Xask fun sh y d hx => ?_, Mask hv fun sh x m d hM hi => ?_⟩
        · have hS : isSc sh 3 := hx.1.1.2.2.1
          have hW : isWM sh 0 := hx.1.1.1
          have hC : isCk sh 183 := hx.1.1.2.2.2
          have hO : isOl sh 205 := hx.1.2.2.1
          have hB : isSt sh 206 := hO.2.1
          have hN : isSt sh 10 := hS.2.2.2.2.1
          obtain ⟨u, u1, u2, u3⟩ := Q_wind (L := L) (xs := xs) (d + 57) hv hx 206
          have loop : ∀ (f i : Nat), f + i = W.2.1.1.2.1 → ∀ (z : ST) (s : SV) (r : Int32 × Int32) (u7 : Option Value), QT L xs sh W 206 (RF W W.2.1.2.2.2.1.1) (W.2.1.1.1.1 5) z s → ∃ z', RS (ZZ L xs) (d + 59) mX2_bestPitch 9 [some (.ref 205), some (.int (nI q)), some (.int (nI n)), some (.int c), some (.int r.1), some (.int r.2), some (.int (nI i)), u7] [] (HP sh z) = some (HP sh z', some (.int (if c = 0 then (lp (pitG W q n) f i r).1 else (lp (pitG W q n) f i r).2))) ∧ Off (Dt 206) z z' ∧ XI L xs sh z' W := by
            intro f
            induction f with
            | zero =>
              intro i hi z s r u7 h
              obtain ⟨t, t1, t2, -⟩ := Q_places h.1 hv
              refine ⟨z, ?_, Off_refl _ _, h.1⟩
              rw [bX2_bestPitch_9, Ol_now hO, some_bind', t1, some_bind', t2, some_bind', if_pos (nI_le (by omega) (by omega))]
              by_cases c0 : c = 0
              · rw [if_neg (fun z => z c0), if_pos c0, bX2_bestPitch_117]
                rfl
              · rw [if_pos c0, if_neg c0, bX2_bestPitch_117]
                rfl
            | succ f ih =>
              intro i hi z s r u7 h
              obtain ⟨t, t1, t2, -⟩ := Q_places h.1 hv
              obtain ⟨v, v1, v2, v3⟩ := Q_now (L := L) (xs := xs) (d + 57) hb h
              obtain ⟨o1, o2⟩ := Q_set hb v3 (j := 0) (by decide) q (nI i)
              obtain ⟨w, w1, w2, w3⟩ := Q_run (L := L) (xs := xs) (d + 53) hv hb o2 n (by omega)
              have e1 : w.2.2.2.1 210 q = (woR W n (stR W.2.1.2.1 0 (upd (W.2.1.2.1.2.2 0) q (nI i)))).2.2 3 q := Q_row w3 (j := 3) (by decide) (show q < 6 by omega)
              have e2 : w.2.2.2.1 14 q = W.2.1.2.1.2.2 3 q := Xst w3.1 (j := 3) (by decide) (show q < 6 by omega)
              have hoff : Off (Dt 206) z w := Off_trans (Off_trans (Off_mono v2 (fun o q => Or.inl q)) (Off_mono o1 (fun o q => Or.inl q))) w2
              have key : ∀ r' : Int32 × Int32, r' = pitG W q n i r → ∃ z', RS (ZZ L xs) (d + 59) mX2_bestPitch 9 [some (.ref 205), some (.int (nI q)), some (.int (nI n)), some (.int c), some (.int r'.1), some (.int r'.2), some (.int (nI (i + 1))), none] [] (HP sh w) = some (HP sh z', some (.int (if c = 0 then (lp (pitG W q n) (f + 1) i r).1 else (lp (pitG W q n) (f + 1) i r).2))) ∧ Off (Dt 206) z z' ∧ XI L xs sh z' W := fun r' hr => by
                obtain ⟨z', p1, p2, p3⟩ := ih (i + 1) (by omega) w _ r' none w3
                rw [hr] at p1
                refine ⟨z', ?_, Off_trans hoff p2, p3⟩
                rw [hr]
                exact p1
              rw [bX2_bestPitch_9, Ol_now hO, some_bind', t1, some_bind', t2, some_bind', if_neg (nI_ge (by omega) (by omega))]
              simp (disch := omega) only [Ol_now hO, Ol_clock hO, Ol_trial hO, Ol_turns hO, Ol_gainOfOne hO, Ol_gainOfOther hO, Ol_one hO, Ol_other hO, Ol_turnCount hO, Ol_firstMove hO, Ol_x hO, Olw_one hO, Olw_other hO, Olw_turnCount hO, Olw_firstMove hO, Olw_x hO, Ol_is hO, Ole_gainOfOne hO, Ole_gainOfOther hO, Olu_gainOfOne hO, Olu_gainOfOther hO, Sc_state hS, Sc_past hS, Sc_force hS, Sc_x hS, Sc_notes hS, Sc_noteHour hS, Sc_noteStranger hS, Sc_notePerson hS, Scw_town hS, Scw_force hS, Scw_x hS, Scw_notes hS, Sc_is hS, Sce_noteHour hS, Sce_noteStranger hS, Sce_notePerson hS, Scu_noteHour hS, Scu_noteStranger hS, Scu_notePerson hS, WM_tape hW, WM_townReader hW, WM_ruleReader hW, WM_rules hW, WM_ruleCount hW, WM_now hW, WM_images hW, WM_clock hW, WM_outlook hW, WM_history hW, WMw_ruleCount hW, WMw_blankRule hW, WM_is hW, St_hour hB, St_chain hB, St_come hB, St_open hB, St_place hB, St_kind hB, St_asked hB, St_total hB, St_chains hB, St_at hB, St_before hB, Stw_hour hB, Stw_chain hB, Stw_come hB, Stw_open hB, St_is hB, Ste_place hB, Ste_kind hB, Ste_asked hB, Ste_total hB, Ste_chains hB, Ste_at hB, Ste_before hB, Stu_place hB, Stu_kind hB, Stu_asked hB, Stu_total hB, Stu_chains hB, Stu_at hB, Stu_before hB, St_hour hN, St_chain hN, St_come hN, St_open hN, St_place hN, St_kind hN, St_asked hN, St_total hN, St_chains hN, St_at hN, St_before hN, Stw_hour hN, Stw_chain hN, Stw_come hN, Stw_open hN, St_is hN, Ste_place hN, Ste_kind hN, Ste_asked hN, Ste_total hN, Ste_chains hN, Ste_at hN, Ste_before hN, Stu_place hN, Stu_kind hN, Stu_asked hN, Stu_total hN, Stu_chains hN, Stu_at hN, Stu_before hN, Ck_is hC, some_bind', v1]
              rw [show (206 + 1 : Nat) = 206 + 1 + 0 from rfl] at *
              rw [w1, some_bind']
              simp (disch := omega) only [Ol_now hO, Ol_clock hO, Ol_trial hO, Ol_turns hO, Ol_gainOfOne hO, Ol_gainOfOther hO, Ol_one hO, Ol_other hO, Ol_turnCount hO, Ol_firstMove hO, Ol_x hO, Olw_one hO, Olw_other hO, Olw_turnCount hO, Olw_firstMove hO, Olw_x hO, Ol_is hO, Ole_gainOfOne hO, Ole_gainOfOther hO, Olu_gainOfOne hO, Olu_gainOfOther hO, Sc_state hS, Sc_past hS, Sc_force hS, Sc_x hS, Sc_notes hS, Sc_noteHour hS, Sc_noteStranger hS, Sc_notePerson hS, Scw_town hS, Scw_force hS, Scw_x hS, Scw_notes hS, Sc_is hS, Sce_noteHour hS, Sce_noteStranger hS, Sce_notePerson hS, Scu_noteHour hS, Scu_noteStranger hS, Scu_notePerson hS, WM_tape hW, WM_townReader hW, WM_ruleReader hW, WM_rules hW, WM_ruleCount hW, WM_now hW, WM_images hW, WM_clock hW, WM_outlook hW, WM_history hW, WMw_ruleCount hW, WMw_blankRule hW, WM_is hW, St_hour hB, St_chain hB, St_come hB, St_open hB, St_place hB, St_kind hB, St_asked hB, St_total hB, St_chains hB, St_at hB, St_before hB, Stw_hour hB, Stw_chain hB, Stw_come hB, Stw_open hB, St_is hB, Ste_place hB, Ste_kind hB, Ste_asked hB, Ste_total hB, Ste_chains hB, Ste_at hB, Ste_before hB, Stu_place hB, Stu_kind hB, Stu_asked hB, Stu_total hB, Stu_chains hB, Stu_at hB, Stu_before hB, St_hour hN, St_chain hN, St_come hN, St_open hN, St_place hN, St_kind hN, St_asked hN, St_total hN, St_chains hN, St_at hN, St_before hN, Stw_hour hN, Stw_chain hN, Stw_come hN, Stw_open hN, St_is hN, Ste_place hN, Ste_kind hN, Ste_asked hN, Ste_total hN, Ste_chains hN, Ste_at hN, Ste_before hN, Stu_place hN, Stu_kind hN, Stu_asked hN, Stu_total hN, Stu_chains hN, Stu_at hN, Stu_before hN, Ck_is hC, some_bind', e1, e2]
              rw [show (woR W n (stR W.2.1.2.1 0 (upd (W.2.1.2.1.2.2 0) q (nI i)))).2.2 3 q - W.2.1.2.1.2.2 3 q = pitV W q n i from rfl]
              by_cases hle : pitV W q n i ≤ r.2
              · rw [if_pos hle, bX2_bestPitch_100, nI_1]
                exact key r (if_pos hle).symm
              · rw [if_neg hle, bX2_bestPitch_100, nI_1]
                exact key (nI i, pitV W q n i) (if_neg hle).symm
          obtain ⟨w, w1, w2, w3⟩ := loop W.2.1.1.2.1 0 rfl u _ (-1, -1) none u3
          have hoff : Off Dq y w := Off_trans (Off_mono u2 (fun o q => by unfold Dq; omega)) (Off_mono w2 (fun o q => Dt_q hb q))
          have haf : cI (ZZ L xs) (d + 59) mX2_bestPitch [.ref 205, .int (nI q), .int (nI n), .int c] (HP sh u) = some (HP sh w, if c = 0 then (lp (pitG W q n) W.2.1.1.2.1 0 (-1, -1)).1 else (lp (pitG W q n) W.2.1.1.2.1 0 (-1, -1)).2) := by
            refine cI_of ?_
            show RS (ZZ L xs) (d + 59) mX2_bestPitch 0 [some (.ref 205), some (.int (nI q)), some (.int (nI n)), some (.int c), none, none, none, none] [] _ = _
            rw [bX2_bestPitch_0]
            exact w1
          refine ⟨w, ?_, w3, hoff⟩
          show RS (ZZ L xs) (d + 60) mX12_pitch 0 [some (.ref 0), some (.int (nI q)), some (.int (nI n)), some (.int c)] [] _ = _
          rw [bX12_pitch_0, WM_is hW, some_bind', i_isPerson _ hx hv, some_bind', if_neg (z1 ha), i_within, some_bind', if_neg (z1 hwb), i_within, some_bind', if_pos (z1 hwc), WM_is hW, some_bind', u1, some_bind', WM_outlook hW, some_bind', Ol_is hO, some_bind', haf, some_bind']
        · obtain ⟨m1, k1, k2, k3⟩ := Q_keep (L := L) (xs := xs) (x := x) (d + 56) hM hv hi
          have loop : ∀ (f i : Nat), f + i = W.2.1.1.2.1 → ∀ (m1 : MM) (r : Int32 × Int32) (u7 : Option Value), MJ m m1 → QM L xs sh x W m (RF W W.2.1.2.2.2.1.1) (W.2.1.1.1.1 5) m1 W.2.1.2.1 → ∃ m2, RS (ZZ L xs) (d + 60) mX13_pitch 45 [some (.ref 259), some (.int (nI q)), some (.int (nI n)), some (.int c), some (.int r.1), some (.int r.2), some (.int (nI i)), u7] [] (HP sh (pM x m1)) = some (HP sh (pM x m2), some (.int (if c = 0 then (lp (pitG W q n) f i r).1 else (lp (pitG W q n) f i r).2))) ∧ MJ m m2 := by
            intro f
            induction f with
            | zero =>
              intro i hi2 m1 r u7 hj h
              refine ⟨m1, ?_, hj⟩
              rw [bX13_pitch_45, M_scalar hM, some_bind', eI_l0, Me_scalar hM (by decide), some_bind', h.2.1.1, if_pos (nI_le (by omega) (by omega))]
              by_cases c0 : c = 0
              · rw [if_neg (fun z => z c0), if_pos c0, bX13_pitch_104]
                rfl
              · rw [if_pos c0, if_neg c0, bX13_pitch_104]
                rfl
            | succ f ih =>
              intro i hi2 m1 r u7 hj h
              have h1 := QM_at h (q := q) (p := i) (by omega)
              obtain ⟨g, g1, g2, g3⟩ := Q_goFor (L := L) (xs := xs) (x := x) (d + 50) hM hVT h1 n (by omega)
              obtain ⟨l, l1, l2, l3, l4⟩ := Q_lay (L := L) (xs := xs) (x := x) (d + 55) hM hv hi g3.1
              have e1 : g.2.1 4 q = (woR W n (stR W.2.1.2.1 0 (upd (W.2.1.2.1.2.2 0) q (nI i)))).2.2 3 q := Md_all g3.2.2.2.1 hq
              have e2 : (mA m1 1 q (nI i)).2.1 4 q = W.2.1.2.1.2.2 3 q := Md_all h1.2.2.2.1 hq
              have hask : cI (ZZ L xs) (d + 59) mX13_askedIn [.ref 259, .int (nI q), .int (nI n)] (HP sh (pM x (mA m1 1 q (nI i)))) = some (HP sh (pM x l), pitV W q n i) := by
                refine cI_of ?_
                show RS (ZZ L xs) (d + 59) mX13_askedIn 0 [some (.ref 259), some (.int (nI q)), some (.int (nI n)), none, none] [] _ = _
                rw [bX13_askedIn_0, M_askedAll hM, some_bind', Me_askedAll hM (by omega), some_bind', e2, M_is hM, some_bind', g1, some_bind', M_askedAll hM, some_bind', Me_askedAll hM (by omega), some_bind', e1, M_is hM, some_bind', l1, some_bind']
                rfl
              rw [bX13_pitch_45, M_scalar hM, some_bind', eI_l0, Me_scalar hM (by decide), some_bind', h.2.1.1, if_neg (nI_ge (by omega) (by omega)), M_at hM, some_bind', Mu_at hM (by omega), some_bind', M_is hM, some_bind', hask, some_bind']
              show ∃ m2, (if pitV W q n i ≤ r.2 then _ else _) = _ ∧ _
              by_cases hle : pitV W q n i ≤ r.2
              · obtain ⟨m2, p1, p2⟩ := ih (i + 1) (by omega) l r none l2 l3
                refine ⟨m2, ?_, p2⟩
                rw [if_pos hle, bX13_pitch_87, nI_1, show lp (pitG W q n) (f + 1) i r = lp (pitG W q n) f (i + 1) r from congrArg (lp (pitG W q n) f (i + 1)) (if_pos hle)]
                exact p1
              · obtain ⟨m2, p1, p2⟩ := ih (i + 1) (by omega) l (nI i, pitV W q n i) none l2 l3
                refine ⟨m2, ?_, p2⟩
                rw [if_neg hle, bX13_pitch_87, nI_1, show lp (pitG W q n) (f + 1) i r = lp (pitG W q n) f (i + 1) (nI i, pitV W q n i) from congrArg (lp (pitG W q n) f (i + 1)) (if_neg hle)]
                exact p1
          obtain ⟨m2, l1, l2⟩ := loop W.2.1.1.2.1 0 rfl m1 (-1, -1) none k2 k3
          refine ⟨m2, ?_, l2⟩
          show RS (ZZ L xs) (d + 60) mX13_pitch 0 [some (.ref 259), some (.int (nI q)), some (.int (nI n)), some (.int c), none, none, none, none] [] _ = _
          rw [bX13_pitch_0, M_is hM, some_bind', i_personM _ hM hi hv, some_bind', if_neg (z1 ha), i_inM _ (show (1 : Int64) = (1 : Int32).toInt64 from rfl) (show (60 : Int64) = (60 : Int32).toInt64 from rfl), some_bind', if_neg (z1 hwb), i_inM _ (show (0 : Int64) = (0 : Int32).toInt64 from rfl) (show (1 : Int64) = (1 : Int32).toInt64 from rfl), some_bind', if_pos (z1 hwc), M_is hM, some_bind', k1, some_bind']
          exact l1
      · refine ⟨W, -1, Xsame fun sh y d hx => ?_, Msame hv fun sh x m d hM hi => ?_⟩
        · show RS (ZZ L xs) (d + 60) mX12_pitch 0 [some (.ref 0), some (.int (nI q)), some (.int (nI n)), some (.int c)] [] _ = _
          rw [bX12_pitch_0, WM_is hx.1.1.1, some_bind', i_isPerson _ hx hv, some_bind', if_neg (z1 ha), i_within, some_bind', if_neg (z1 hwb), i_within, some_bind', if_neg (fun z => z (z0 hwc)), bX12_pitch_27]
        · show RS (ZZ L xs) (d + 60) mX13_pitch 0 [some (.ref 259), some (.int (nI q)), some (.int (nI n)), some (.int c), none, none, none, none] [] _ = _
          rw [bX13_pitch_0, M_is hM, some_bind', i_personM _ hM hi hv, some_bind', if_neg (z1 ha), i_inM _ (show (1 : Int64) = (1 : Int32).toInt64 from rfl) (show (60 : Int64) = (60 : Int32).toInt64 from rfl), some_bind', if_neg (z1 hwb), i_inM _ (show (0 : Int64) = (0 : Int32).toInt64 from rfl) (show (1 : Int64) = (1 : Int32).toInt64 from rfl), some_bind', if_neg (fun z => z (z0 hwc)), bX13_pitch_30]
    · refine ⟨W, -1, Xsame fun sh y d hx => ?_, Msame hv fun sh x m d hM hi => ?_⟩
      · show RS (ZZ L xs) (d + 60) mX12_pitch 0 [some (.ref 0), some (.int (nI q)), some (.int b), some (.int c)] [] _ = _
        rw [bX12_pitch_0, WM_is hx.1.1.1, some_bind', i_isPerson _ hx hv, some_bind', if_neg (z1 ha), i_within, some_bind', if_pos (z0 hwb), bX12_pitch_27]
      · show RS (ZZ L xs) (d + 60) mX13_pitch 0 [some (.ref 259), some (.int (nI q)), some (.int b), some (.int c), none, none, none, none] [] _ = _
        rw [bX13_pitch_0, M_is hM, some_bind', i_personM _ hM hi hv, some_bind', if_neg (z1 ha), i_inM _ (show (1 : Int64) = (1 : Int32).toInt64 from rfl) (show (60 : Int64) = (60 : Int32).toInt64 from rfl), some_bind', if_pos (z0 hwb), bX13_pitch_30]
  · refine ⟨W, -1, Xsame fun sh y d hx => ?_, Msame hv fun sh x m d hM hi => ?_⟩
    · show RS (ZZ L xs) (d + 60) mX12_pitch 0 [some (.ref 0), some (.int a), some (.int b), some (.int c)] [] _ = _
      rw [bX12_pitch_0, WM_is hx.1.1.1, some_bind', i_isPerson _ hx hv, some_bind', if_pos (z0 ha), bX12_pitch_27]
    · show RS (ZZ L xs) (d + 60) mX13_pitch 0 [some (.ref 259), some (.int a), some (.int b), some (.int c), none, none, none, none] [] _ = _
      rw [bX13_pitch_0, M_is hM, some_bind', i_personM _ hM hi hv, some_bind', if_pos (z0 ha), bX13_pitch_30]
end ASK2
