/-! smile, came -/
section ASK3
variable {L : Nat} {xs : Nat → Int32} {W : WD}
/-- the least kind with which the chain is had in n hours -/
def smiS (W : WD) (q n i : Nat) : SV := woR W n (stR W.2.1.2.1 1 (upd (W.2.1.2.1.2.2 1) q (nI i)))
def smiF (W : WD) (q n : Nat) : Nat → Nat → Int32
  | 0, _ => -2
  | f + 1, i => if (smiS W q n i).1.2.1 = nI q then nI i else smiF W q n f (i + 1)
theorem Sp_smile (hv : VW W) (a b : Int32) : Step L xs W mX12_smile mX13_smile [.int a, .int b] := by
  have h5 : W.2.1.1.2.2.2 ≤ 5 := hv.2.1.1.1.1.2.2.2
  have h6 : W.2.1.1.2.2.1 ≤ 6 := hv.2.1.1.1.1.2.1
  have h8 : W.2.1.1.2.1 ≤ 8 := hv.2.1.1.1.2.2.2.2.1.1
  have hb : trq 206 := Or.inl rfl
  by_cases g1 : iN W.2.1.1.2.2.1 a = true
  rotate_left
  · refine ⟨W, -1, Xsame fun sh y d hx => ?_, Msame hv fun sh x m d hM hi => ?_⟩
    · show RS (ZZ L xs) (d + 60) mX12_smile 0 [some (.ref 0), some (.int a), some (.int b)] [] _ = _
      rw [bX12_smile_0, WM_is hx.1.1.1, some_bind', i_isPerson _ hx hv, some_bind', if_pos (z0 g1), bX12_smile_18]
    · show RS (ZZ L xs) (d + 60) mX13_smile 0 [some (.ref 259), some (.int a), some (.int b), none, none] [] _ = _
      rw [bX13_smile_0, M_is hM, some_bind', i_personM _ hM hi hv, some_bind', if_pos (z0 g1), bX13_smile_20]
  obtain ⟨q, hq, rfl⟩ := iN_ex (by omega) g1
  by_cases g2 : wiB 1 60 b = true
  rotate_left
  · refine ⟨W, -1, Xsame fun sh y d hx => ?_, Msame hv fun sh x m d hM hi => ?_⟩
    · show RS (ZZ L xs) (d + 60) mX12_smile 0 [some (.ref 0), some (.int (nI q)), some (.int b)] [] _ = _
      rw [bX12_smile_0, WM_is hx.1.1.1, some_bind', i_isPerson _ hx hv, some_bind', if_neg (z1 g1), i_within, some_bind', if_neg (fun z => z (z0 g2)), bX12_smile_18]
    · show RS (ZZ L xs) (d + 60) mX13_smile 0 [some (.ref 259), some (.int (nI q)), some (.int b), none, none] [] _ = _
      rw [bX13_smile_0, M_is hM, some_bind', i_personM _ hM hi hv, some_bind', if_neg (z1 g1), i_inM _ (show (1 : Int64) = (1 : Int32).toInt64 from rfl) (show (60 : Int64) = (60 : Int32).toInt64 from rfl), some_bind', if_neg (fun z => z (z0 g2)), bX13_smile_20]
  obtain ⟨n, ln, hn, rfl⟩ := wiB_ex (lo := 1) (hi := 60) rfl rfl (by decide) (by decide) g2
  have hVT := hv.2.1.1.1.2.2.2.1 (pl_of_np hv hq)
  refine ⟨W, smiF W q n 10 0, Xask fun sh y d hx => ?_, Mask hv fun sh x m d hM hi => ?_⟩
  · have hS : isSc sh 3 := hx.1.1.2.2.1
    have hW : isWM sh 0 := hx.1.1.1
    have hC : isCk sh 183 := hx.1.1.2.2.2
    have hO : isOl sh 205 := hx.1.2.2.1
    have hB : isSt sh 206 := hO.2.1
    have hN : isSt sh 10 := hS.2.2.2.2.1
    obtain ⟨u, u1, u2, u3⟩ := Q_wind (L := L) (xs := xs) (d + 57) hv hx 206
    have loop : ∀ (f i : Nat), f + i = 10 → ∀ (z : ST) (s : SV), QT L xs sh W 206 (RF W W.2.1.2.2.2.1.1) (W.2.1.1.1.1 5) z s → ∃ z', RS (ZZ L xs) (d + 59) mX2_leastSmile 2 [some (.ref 205), some (.int (nI q)), some (.int (nI n)), some (.int (nI i))] [] (HP sh z) = some (HP sh z', some (.int (smiF W q n f i))) ∧ Off (Dt 206) z z' ∧ XI L xs sh z' W := by
      intro f
      induction f with
      | zero =>
        intro i hi z s h
        have : i = 10 := by omega
        subst this
        refine ⟨z, ?_, Off_refl _ _, h.1⟩
        rw [bX2_leastSmile_2, if_pos (by decide)]
        rfl
      | succ f ih =>
        intro i hi z s h
        obtain ⟨v, v1, v2, v3⟩ := Q_now (L := L) (xs := xs) (d + 57) hb h
        obtain ⟨o1, o2⟩ := Q_set hb v3 (j := 1) (by decide) q (nI i)
        obtain ⟨w, w1, w2, w3⟩ := Q_run (L := L) (xs := xs) (d + 53) hv hb o2 n (by omega)
        have e1 : w.1 206 1 = (smiS W q n i).1.2.1 := (Q_int w3).2.1
        have hoff : Off (Dt 206) z w := Off_trans (Off_trans (Off_mono v2 (fun o q => Or.inl q)) (Off_mono o1 (fun o q => Or.inl q))) w2
        rw [bX2_leastSmile_2, if_neg (show ¬ (9 : Int32) < nI i from nI_nlt (a := 9) (by omega) (by omega))]
        simp (disch := omega) only [Ol_now hO, Ol_clock hO, Ol_trial hO, Ol_turns hO, Ol_gainOfOne hO, Ol_gainOfOther hO, Ol_one hO, Ol_other hO, Ol_turnCount hO, Ol_firstMove hO, Ol_x hO, Olw_one hO, Olw_other hO, Olw_turnCount hO, Olw_firstMove hO, Olw_x hO, Ol_is hO, Ole_gainOfOne hO, Ole_gainOfOther hO, Olu_gainOfOne hO, Olu_gainOfOther hO, Sc_state hS, Sc_past hS, Sc_force hS, Sc_x hS, Sc_notes hS, Sc_noteHour hS, Sc_noteStranger hS, Sc_notePerson hS, Scw_town hS, Scw_force hS, Scw_x hS, Scw_notes hS, Sc_is hS, Sce_noteHour hS, Sce_noteStranger hS, Sce_notePerson hS, Scu_noteHour hS, Scu_noteStranger hS, Scu_notePerson hS, WM_tape hW, WM_townReader hW, WM_ruleReader hW, WM_rules hW, WM_ruleCount hW, WM_now hW, WM_images hW, WM_clock hW, WM_outlook hW, WM_history hW, WMw_ruleCount hW, WMw_blankRule hW, WM_is hW, St_hour hB, St_chain hB, St_come hB, St_open hB, St_place hB, St_kind hB, St_asked hB, St_total hB, St_chains hB, St_at hB, St_before hB, Stw_hour hB, Stw_chain hB, Stw_come hB, Stw_open hB, St_is hB, Ste_place hB, Ste_kind hB, Ste_asked hB, Ste_total hB, Ste_chains hB, Ste_at hB, Ste_before hB, Stu_place hB, Stu_kind hB, Stu_asked hB, Stu_total hB, Stu_chains hB, Stu_at hB, Stu_before hB, St_hour hN, St_chain hN, St_come hN, St_open hN, St_place hN, St_kind hN, St_asked hN, St_total hN, St_chains hN, St_at hN, St_before hN, Stw_hour hN, Stw_chain hN, Stw_come hN, Stw_open hN, St_is hN, Ste_place hN, Ste_kind hN, Ste_asked hN, Ste_total hN, Ste_chains hN, Ste_at hN, Ste_before hN, Stu_place hN, Stu_kind hN, Stu_asked hN, Stu_total hN, Stu_chains hN, Stu_at hN, Stu_before hN, Ck_is hC, some_bind', v1]
        rw [show (206 + 2 : Nat) = 206 + 1 + 1 from rfl] at *
        rw [w1, some_bind']
        simp (disch := omega) only [Ol_now hO, Ol_clock hO, Ol_trial hO, Ol_turns hO, Ol_gainOfOne hO, Ol_gainOfOther hO, Ol_one hO, Ol_other hO, Ol_turnCount hO, Ol_firstMove hO, Ol_x hO, Olw_one hO, Olw_other hO, Olw_turnCount hO, Olw_firstMove hO, Olw_x hO, Ol_is hO, Ole_gainOfOne hO, Ole_gainOfOther hO, Olu_gainOfOne hO, Olu_gainOfOther hO, Sc_state hS, Sc_past hS, Sc_force hS, Sc_x hS, Sc_notes hS, Sc_noteHour hS, Sc_noteStranger hS, Sc_notePerson hS, Scw_town hS, Scw_force hS, Scw_x hS, Scw_notes hS, Sc_is hS, Sce_noteHour hS, Sce_noteStranger hS, Sce_notePerson hS, Scu_noteHour hS, Scu_noteStranger hS, Scu_notePerson hS, WM_tape hW, WM_townReader hW, WM_ruleReader hW, WM_rules hW, WM_ruleCount hW, WM_now hW, WM_images hW, WM_clock hW, WM_outlook hW, WM_history hW, WMw_ruleCount hW, WMw_blankRule hW, WM_is hW, St_hour hB, St_chain hB, St_come hB, St_open hB, St_place hB, St_kind hB, St_asked hB, St_total hB, St_chains hB, St_at hB, St_before hB, Stw_hour hB, Stw_chain hB, Stw_come hB, Stw_open hB, St_is hB, Ste_place hB, Ste_kind hB, Ste_asked hB, Ste_total hB, Ste_chains hB, Ste_at hB, Ste_before hB, Stu_place hB, Stu_kind hB, Stu_asked hB, Stu_total hB, Stu_chains hB, Stu_at hB, Stu_before hB, St_hour hN, St_chain hN, St_come hN, St_open hN, St_place hN, St_kind hN, St_asked hN, St_total hN, St_chains hN, St_at hN, St_before hN, Stw_hour hN, Stw_chain hN, Stw_come hN, Stw_open hN, St_is hN, Ste_place hN, Ste_kind hN, Ste_asked hN, Ste_total hN, Ste_chains hN, Ste_at hN, Ste_before hN, Stu_place hN, Stu_kind hN, Stu_asked hN, Stu_total hN, Stu_chains hN, Stu_at hN, Stu_before hN, Ck_is hC, some_bind', e1]
        unfold smiF
        by_cases e : (smiS W q n i).1.2.1 = nI q
        · refine ⟨w, ?_, hoff, w3.1⟩
          rw [if_neg (fun z => z e), if_pos e]
        · obtain ⟨z2, r1, r2, r3⟩ := ih (i + 1) (by omega) w _ w3
          refine ⟨z2, ?_, Off_trans hoff r2, r3⟩
          rw [if_pos e, if_neg e, nI_1]
          exact r1
    obtain ⟨w, w1, w2, w3⟩ := loop 10 0 rfl u _ u3
    have hoff : Off Dq y w := Off_trans (Off_mono u2 (fun o q => by unfold Dq; omega)) (Off_mono w2 (fun o q => Dt_q hb q))
    have haf : cI (ZZ L xs) (d + 59) mX2_leastSmile [.ref 205, .int (nI q), .int (nI n)] (HP sh u) = some (HP sh w, smiF W q n 10 0) := by
      refine cI_of ?_
      show RS (ZZ L xs) (d + 59) mX2_leastSmile 0 [some (.ref 205), some (.int (nI q)), some (.int (nI n)), none] [] _ = _
      rw [bX2_leastSmile_0]
      exact w1
    refine ⟨w, ?_, w3, hoff⟩
    show RS (ZZ L xs) (d + 60) mX12_smile 0 [some (.ref 0), some (.int (nI q)), some (.int (nI n))] [] _ = _
    rw [bX12_smile_0, WM_is hx.1.1.1, some_bind', i_isPerson _ hx hv, some_bind', if_neg (z1 g1), i_within, some_bind', if_pos (z1 g2), WM_is hW, some_bind', u1, some_bind', WM_outlook hW, some_bind', Ol_is hO, some_bind', haf, some_bind']
  · obtain ⟨m1, k1, k2, k3⟩ := Q_keep (L := L) (xs := xs) (x := x) (d + 56) hM hv hi
    have loop : ∀ (f i : Nat), f + i = 10 → ∀ (m1 : MM), MJ m m1 → QM L xs sh x W m (RF W W.2.1.2.2.2.1.1) (W.2.1.1.1.1 5) m1 W.2.1.2.1 → ∃ m2, RS (ZZ L xs) (d + 60) mX13_smile 32 [some (.ref 259), some (.int (nI q)), some (.int (nI n)), some (.int (-2)), some (.int (nI i))] [] (HP sh (pM x m1)) = some (HP sh (pM x m2), some (.int (smiF W q n f i))) ∧ MJ m m2 := by
      intro f
      induction f with
      | zero =>
        intro i hi2 m1 hj h
        have : i = 10 := by omega
        subst this
        refine ⟨m1, ?_, hj⟩
        rw [bX13_smile_32, if_pos (by decide), bX13_smile_86]
        rfl
      | succ f ih =>
        intro i hi2 m1 hj h
        have h1 := QM_kind h q (nI i)
        obtain ⟨g, g1, g2, g3⟩ := Q_goFor (L := L) (xs := xs) (x := x) (d + 51) hM hVT h1 n (by omega)
        obtain ⟨l, l1, l2, l3, l4⟩ := Q_lay (L := L) (xs := xs) (x := x) (d + 56) hM hv hi g3.1
        have e1 : g.2.1 0 5 = (smiS W q n i).1.2.1 := g3.2.2.2.1.2.1
        rw [bX13_smile_32, if_neg (show ¬ (9 : Int32) < nI i from nI_nlt (a := 9) (by omega) (by omega)), if_neg (fun z => z rfl), M_kind hM, some_bind', Mu_kind hM (by omega), some_bind', M_is hM, some_bind', g1, some_bind', M_scalar hM, some_bind', eI_l5, Me_scalar hM (by decide), some_bind', e1]
        unfold smiF
        by_cases e : (smiS W q n i).1.2.1 = nI q
        · refine ⟨l, ?_, l2⟩
          rw [if_neg (fun z => z e), if_pos e, bX13_smile_75, M_is hM, some_bind', l1, some_bind', bX13_smile_32]
          by_cases h9 : (9 : Int32) < nI i + 1
          · rw [if_pos h9, bX13_smile_86]
          · rw [if_neg h9, if_pos (fun z => nI_pos (n := i) (by omega) (by rw [z]; decide)), bX13_smile_86]
        · obtain ⟨m2, p1, p2⟩ := ih (i + 1) (by omega) l l2 l3
          refine ⟨m2, ?_, p2⟩
          rw [if_pos e, if_neg e, bX13_smile_75, M_is hM, some_bind', l1, some_bind', nI_1]
          exact p1
    obtain ⟨m2, l1, l2⟩ := loop 10 0 rfl m1 k2 k3
    refine ⟨m2, ?_, l2⟩
    show RS (ZZ L xs) (d + 60) mX13_smile 0 [some (.ref 259), some (.int (nI q)), some (.int (nI n)), none, none] [] _ = _
    rw [bX13_smile_0, M_is hM, some_bind', i_personM _ hM hi hv, some_bind', if_neg (z1 g1), i_inM _ (show (1 : Int64) = (1 : Int32).toInt64 from rfl) (show (60 : Int64) = (60 : Int32).toInt64 from rfl), some_bind', if_pos (z1 g2), M_is hM, some_bind', k1, some_bind']
    exact l1
/-- from how many places a stranger comes to r in n hours, and the first of them -/
def camS (W : WD) (q n i : Nat) : SV := woR W n (stR W.2.1.2.1 5 (upd (W.2.1.2.1.2.2 5) q (nI i)))
def camG (W : WD) (q n : Nat) (r : Int32) (i : Nat) (a : Int32 × Int32) : Int32 × Int32 := if (camS W q n i).2.2 5 q = r then (a.1 + 1, if a.2 = -2 then nI i else a.2) else a
theorem Sp_came (hv : VW W) (a b c e : Int32) : Step L xs W mX12_came mX13_came [.int a, .int b, .int c, .int e] := by
  have h5 : W.2.1.1.2.2.2 ≤ 5 := hv.2.1.1.1.1.2.2.2
  have h6 : W.2.1.1.2.2.1 ≤ 6 := hv.2.1.1.1.1.2.1
  have h8 : W.2.1.1.2.1 ≤ 8 := hv.2.1.1.1.2.2.2.2.1.1
  have hb : trq 206 := Or.inl rfl
  by_cases g1 : iN W.2.1.1.2.2.2 a = true
  rotate_left
  · refine ⟨W, -1, Xsame fun sh y d hx => ?_, Msame hv fun sh x m d hM hi => ?_⟩
    · show RS (ZZ L xs) (d + 60) mX12_came 0 [some (.ref 0), some (.int a), some (.int b), some (.int c), some (.int e)] [] _ = _
      rw [bX12_came_0, WM_is hx.1.1.1, some_bind', i_isStranger _ hx hv, some_bind', if_pos (z0 g1), bX12_came_36]
    · show RS (ZZ L xs) (d + 60) mX13_came 0 [some (.ref 259), some (.int a), some (.int b), some (.int c), some (.int e), none, none, none, none] [] _ = _
      rw [bX13_came_0, M_is hM, some_bind', i_strangerM _ hM hi hv, some_bind', if_pos (z0 g1), bX13_came_39]
  obtain ⟨q, hq, rfl⟩ := iN_ex (by omega) g1
  by_cases g2 : wiB 1 30 b = true
  rotate_left
  · refine ⟨W, -1, Xsame fun sh y d hx => ?_, Msame hv fun sh x m d hM hi => ?_⟩
    · show RS (ZZ L xs) (d + 60) mX12_came 0 [some (.ref 0), some (.int (nI q)), some (.int b), some (.int c), some (.int e)] [] _ = _
      rw [bX12_came_0, WM_is hx.1.1.1, some_bind', i_isStranger _ hx hv, some_bind', if_neg (z1 g1), i_within, some_bind', if_pos (z0 g2), bX12_came_36]
    · show RS (ZZ L xs) (d + 60) mX13_came 0 [some (.ref 259), some (.int (nI q)), some (.int b), some (.int c), some (.int e), none, none, none, none] [] _ = _
      rw [bX13_came_0, M_is hM, some_bind', i_strangerM _ hM hi hv, some_bind', if_neg (z1 g1), i_inM _ (show (1 : Int64) = (1 : Int32).toInt64 from rfl) (show (30 : Int64) = (30 : Int32).toInt64 from rfl), some_bind', if_pos (z0 g2), bX13_came_39]
  obtain ⟨n, ln, hn, rfl⟩ := wiB_ex (lo := 1) (hi := 30) rfl rfl (by decide) (by decide) g2
  by_cases g3 : iN W.2.1.1.2.1 c = true
  rotate_left
  · refine ⟨W, -1, Xsame fun sh y d hx => ?_, Msame hv fun sh x m d hM hi => ?_⟩
    · show RS (ZZ L xs) (d + 60) mX12_came 0 [some (.ref 0), some (.int (nI q)), some (.int (nI n)), some (.int c), some (.int e)] [] _ = _
      rw [bX12_came_0, WM_is hx.1.1.1, some_bind', i_isStranger _ hx hv, some_bind', if_neg (z1 g1), i_within, some_bind', if_neg (z1 g2), WM_is hx.1.1.1, some_bind', i_isPlace _ hx hv, some_bind', if_pos (z0 g3), bX12_came_36]
    · show RS (ZZ L xs) (d + 60) mX13_came 0 [some (.ref 259), some (.int (nI q)), some (.int (nI n)), some (.int c), some (.int e), none, none, none, none] [] _ = _
      rw [bX13_came_0, M_is hM, some_bind', i_strangerM _ hM hi hv, some_bind', if_neg (z1 g1), i_inM _ (show (1 : Int64) = (1 : Int32).toInt64 from rfl) (show (30 : Int64) = (30 : Int32).toInt64 from rfl), some_bind', if_neg (z1 g2), M_is hM, some_bind', i_placeM _ hM hi hv, some_bind', if_pos (z0 g3), bX13_came_39]
  obtain ⟨r, hr, rfl⟩ := iN_ex (by omega) g3
  by_cases g4 : wiB 0 1 e = true
  rotate_left
  · refine ⟨W, -1, Xsame fun sh y d hx => ?_, Msame hv fun sh x m d hM hi => ?_⟩
    · show RS (ZZ L xs) (d + 60) mX12_came 0 [some (.ref 0), some (.int (nI q)), some (.int (nI n)), some (.int (nI r)), some (.int e)] [] _ = _
      rw [bX12_came_0, WM_is hx.1.1.1, some_bind', i_isStranger _ hx hv, some_bind', if_neg (z1 g1), i_within, some_bind', if_neg (z1 g2), WM_is hx.1.1.1, some_bind', i_isPlace _ hx hv, some_bind', if_neg (z1 g3), i_within, some_bind', if_neg (fun z => z (z0 g4)), bX12_came_36]
    · show RS (ZZ L xs) (d + 60) mX13_came 0 [some (.ref 259), some (.int (nI q)), some (.int (nI n)), some (.int (nI r)), some (.int e), none, none, none, none] [] _ = _
      rw [bX13_came_0, M_is hM, some_bind', i_strangerM _ hM hi hv, some_bind', if_neg (z1 g1), i_inM _ (show (1 : Int64) = (1 : Int32).toInt64 from rfl) (show (30 : Int64) = (30 : Int32).toInt64 from rfl), some_bind', if_neg (z1 g2), M_is hM, some_bind', i_placeM _ hM hi hv, some_bind', if_neg (z1 g3), i_inM _ (show (0 : Int64) = (0 : Int32).toInt64 from rfl) (show (1 : Int64) = (1 : Int32).toInt64 from rfl), some_bind', if_neg (fun z => z (z0 g4)), bX13_came_39]
  have hVT := hv.2.1.1.1.2.2.2.1 (pl_of_ns hv hq)
  refine ⟨W, if e = 0 then (lp (camG W q n (nI r)) W.2.1.1.2.1 0 (0, -2)).1 else (lp (camG W q n (nI r)) W.2.1.1.2.1 0 (0, -2)).2, Xask fun sh y d hx => ?_, Mask hv fun sh x m d hM hi => ?_⟩
  · have hS : isSc sh 3 := hx.1.1.2.2.1
    have hW : isWM sh 0 := hx.1.1.1
    have hC : isCk sh 183 := hx.1.1.2.2.2
    have hO : isOl sh 205 := hx.1.2.2.1
    have hB : isSt sh 206 := hO.2.1
    have hN : isSt sh 10 := hS.2.2.2.2.1
    obtain ⟨u, u1, u2, u3⟩ := Q_wind (L := L) (xs := xs) (d + 57) hv hx 206
    have loop : ∀ (f i : Nat), f + i = W.2.1.1.2.1 → ∀ (z : ST) (s : SV) (t : Int32 × Int32), QT L xs sh W 206 (RF W W.2.1.2.2.2.1.1) (W.2.1.1.1.1 5) z s → ∃ z', RS (ZZ L xs) (d + 59) mX2_cameFrom 10 [some (.ref 205), some (.int (nI q)), some (.int (nI n)), some (.int (nI r)), some (.int e), some (.int t.1), some (.int t.2), some (.int (nI i))] [] (HP sh z) = some (HP sh z', some (.int (if e = 0 then (lp (camG W q n (nI r)) f i t).1 else (lp (camG W q n (nI r)) f i t).2))) ∧ Off (Dt 206) z z' ∧ XI L xs sh z' W := by
      intro f
      induction f with
      | zero =>
        intro i hi z s t h
        obtain ⟨t0, t1, t2, -⟩ := Q_places h.1 hv
        refine ⟨z, ?_, Off_refl _ _, h.1⟩
        rw [bX2_cameFrom_10, Ol_now hO, some_bind', t1, some_bind', t2, some_bind', if_pos (nI_le (by omega) (by omega))]
        by_cases c0 : e = 0
        · rw [if_neg (fun z => z c0), if_pos c0, bX2_cameFrom_112]
          rfl
        · rw [if_pos c0, if_neg c0, bX2_cameFrom_112]
          rfl
      | succ f ih =>
        intro i hi z s t h
        obtain ⟨t0, t1, t2, -⟩ := Q_places h.1 hv
        obtain ⟨v, v1, v2, v3⟩ := Q_now (L := L) (xs := xs) (d + 57) hb h
        obtain ⟨o1, o2⟩ := Q_set hb v3 (j := 5) (by decide) q (nI i)
        obtain ⟨w, w1, w2, w3⟩ := Q_run (L := L) (xs := xs) (d + 53) hv hb o2 n (by omega)
        have e1 : w.2.2.2.1 212 q = (camS W q n i).2.2 5 q := Q_row w3 (j := 5) (by decide) (show q < 5 by omega)
        have hoff : Off (Dt 206) z w := Off_trans (Off_trans (Off_mono v2 (fun o q => Or.inl q)) (Off_mono o1 (fun o q => Or.inl q))) w2
        have key : ∀ r' : Int32 × Int32, r' = camG W q n (nI r) i t → ∃ z', RS (ZZ L xs) (d + 59) mX2_cameFrom 10 [some (.ref 205), some (.int (nI q)), some (.int (nI n)), some (.int (nI r)), some (.int e), some (.int r'.1), some (.int r'.2), some (.int (nI (i + 1)))] [] (HP sh w) = some (HP sh z', some (.int (if e = 0 then (lp (camG W q n (nI r)) (f + 1) i t).1 else (lp (camG W q n (nI r)) (f + 1) i t).2))) ∧ Off (Dt 206) z z' ∧ XI L xs sh z' W := fun r' hr => by
          obtain ⟨z', p1, p2, p3⟩ := ih (i + 1) (by omega) w _ r' w3
          rw [hr] at p1
          refine ⟨z', ?_, Off_trans hoff p2, p3⟩
          rw [hr]
          exact p1
        rw [bX2_cameFrom_10, Ol_now hO, some_bind', t1, some_bind', t2, some_bind', if_neg (nI_ge (by omega) (by omega))]
        simp (disch := omega) only [Ol_now hO, Ol_clock hO, Ol_trial hO, Ol_turns hO, Ol_gainOfOne hO, Ol_gainOfOther hO, Ol_one hO, Ol_other hO, Ol_turnCount hO, Ol_firstMove hO, Ol_x hO, Olw_one hO, Olw_other hO, Olw_turnCount hO, Olw_firstMove hO, Olw_x hO, Ol_is hO, Ole_gainOfOne hO, Ole_gainOfOther hO, Olu_gainOfOne hO, Olu_gainOfOther hO, Sc_state hS, Sc_past hS, Sc_force hS, Sc_x hS, Sc_notes hS, Sc_noteHour hS, Sc_noteStranger hS, Sc_notePerson hS, Scw_town hS, Scw_force hS, Scw_x hS, Scw_notes hS, Sc_is hS, Sce_noteHour hS, Sce_noteStranger hS, Sce_notePerson hS, Scu_noteHour hS, Scu_noteStranger hS, Scu_notePerson hS, WM_tape hW, WM_townReader hW, WM_ruleReader hW, WM_rules hW, WM_ruleCount hW, WM_now hW, WM_images hW, WM_clock hW, WM_outlook hW, WM_history hW, WMw_ruleCount hW, WMw_blankRule hW, WM_is hW, St_hour hB, St_chain hB, St_come hB, St_open hB, St_place hB, St_kind hB, St_asked hB, St_total hB, St_chains hB, St_at hB, St_before hB, Stw_hour hB, Stw_chain hB, Stw_come hB, Stw_open hB, St_is hB, Ste_place hB, Ste_kind hB, Ste_asked hB, Ste_total hB, Ste_chains hB, Ste_at hB, Ste_before hB, Stu_place hB, Stu_kind hB, Stu_asked hB, Stu_total hB, Stu_chains hB, Stu_at hB, Stu_before hB, St_hour hN, St_chain hN, St_come hN, St_open hN, St_place hN, St_kind hN, St_asked hN, St_total hN, St_chains hN, St_at hN, St_before hN, Stw_hour hN, Stw_chain hN, Stw_come hN, Stw_open hN, St_is hN, Ste_place hN, Ste_kind hN, Ste_asked hN, Ste_total hN, Ste_chains hN, Ste_at hN, Ste_before hN, Stu_place hN, Stu_kind hN, Stu_asked hN, Stu_total hN, Stu_chains hN, Stu_at hN, Stu_before hN, Ck_is hC, some_bind', v1]
        rw [show (206 + 6 : Nat) = 206 + 1 + 5 from rfl] at *
        rw [w1, some_bind']
        simp (disch := omega) only [Ol_now hO, Ol_clock hO, Ol_trial hO, Ol_turns hO, Ol_gainOfOne hO, Ol_gainOfOther hO, Ol_one hO, Ol_other hO, Ol_turnCount hO, Ol_firstMove hO, Ol_x hO, Olw_one hO, Olw_other hO, Olw_turnCount hO, Olw_firstMove hO, Olw_x hO, Ol_is hO, Ole_gainOfOne hO, Ole_gainOfOther hO, Olu_gainOfOne hO, Olu_gainOfOther hO, Sc_state hS, Sc_past hS, Sc_force hS, Sc_x hS, Sc_notes hS, Sc_noteHour hS, Sc_noteStranger hS, Sc_notePerson hS, Scw_town hS, Scw_force hS, Scw_x hS, Scw_notes hS, Sc_is hS, Sce_noteHour hS, Sce_noteStranger hS, Sce_notePerson hS, Scu_noteHour hS, Scu_noteStranger hS, Scu_notePerson hS, WM_tape hW, WM_townReader hW, WM_ruleReader hW, WM_rules hW, WM_ruleCount hW, WM_now hW, WM_images hW, WM_clock hW, WM_outlook hW, WM_history hW, WMw_ruleCount hW, WMw_blankRule hW, WM_is hW, St_hour hB, St_chain hB, St_come hB, St_open hB, St_place hB, St_kind hB, St_asked hB, St_total hB, St_chains hB, St_at hB, St_before hB, Stw_hour hB, Stw_chain hB, Stw_come hB, Stw_open hB, St_is hB, Ste_place hB, Ste_kind hB, Ste_asked hB, Ste_total hB, Ste_chains hB, Ste_at hB, Ste_before hB, Stu_place hB, Stu_kind hB, Stu_asked hB, Stu_total hB, Stu_chains hB, Stu_at hB, Stu_before hB, St_hour hN, St_chain hN, St_come hN, St_open hN, St_place hN, St_kind hN, St_asked hN, St_total hN, St_chains hN, St_at hN, St_before hN, Stw_hour hN, Stw_chain hN, Stw_come hN, Stw_open hN, St_is hN, Ste_place hN, Ste_kind hN, Ste_asked hN, Ste_total hN, Ste_chains hN, Ste_at hN, Ste_before hN, Stu_place hN, Stu_kind hN, Stu_asked hN, Stu_total hN, Stu_chains hN, Stu_at hN, Stu_before hN, Ck_is hC, some_bind', e1]
        by_cases e2 : (camS W q n i).2.2 5 q = nI r
        · rw [if_neg (fun z => z e2)]
          by_cases e3 : t.2 = -2
          · rw [if_neg (fun z => z e3), bX2_cameFrom_92, bX2_cameFrom_94, nI_1]
            exact key (t.1 + 1, nI i) (by unfold camG; rw [if_pos e2, if_pos e3])
          · rw [if_pos e3, bX2_cameFrom_92, bX2_cameFrom_94, nI_1]
            exact key (t.1 + 1, t.2) (by unfold camG; rw [if_pos e2, if_neg e3])
        · rw [if_pos e2, bX2_cameFrom_94, nI_1]
          exact key t (by unfold camG; rw [if_neg e2])
    obtain ⟨w, w1, w2, w3⟩ := loop W.2.1.1.2.1 0 rfl u _ (0, -2) u3
    have hoff : Off Dq y w := Off_trans (Off_mono u2 (fun o q => by unfold Dq; omega)) (Off_mono w2 (fun o q => Dt_q hb q))
    have haf : cI (ZZ L xs) (d + 59) mX2_cameFrom [.ref 205, .int (nI q), .int (nI n), .int (nI r), .int e] (HP sh u) = some (HP sh w, if e = 0 then (lp (camG W q n (nI r)) W.2.1.1.2.1 0 (0, -2)).1 else (lp (camG W q n (nI r)) W.2.1.1.2.1 0 (0, -2)).2) := by
      refine cI_of ?_
      show RS (ZZ L xs) (d + 59) mX2_cameFrom 0 [some (.ref 205), some (.int (nI q)), some (.int (nI n)), some (.int (nI r)), some (.int e), none, none, none] [] _ = _
      rw [bX2_cameFrom_0]
      exact w1
    refine ⟨w, ?_, w3, hoff⟩
    show RS (ZZ L xs) (d + 60) mX12_came 0 [some (.ref 0), some (.int (nI q)), some (.int (nI n)), some (.int (nI r)), some (.int e)] [] _ = _
    rw [bX12_came_0, WM_is hx.1.1.1, some_bind', i_isStranger _ hx hv, some_bind', if_neg (z1 g1), i_within, some_bind', if_neg (z1 g2), WM_is hx.1.1.1, some_bind', i_isPlace _ hx hv, some_bind', if_neg (z1 g3), i_within, some_bind', if_pos (z1 g4), WM_is hW, some_bind', u1, some_bind', WM_outlook hW, some_bind', Ol_is hO, some_bind', haf, some_bind']
  · obtain ⟨m1, k1, k2, k3⟩ := Q_keep (L := L) (xs := xs) (x := x) (d + 56) hM hv hi
    have loop : ∀ (f i : Nat), f + i = W.2.1.1.2.1 → ∀ (m1 : MM) (t : Int32 × Int32) (u8 : Option Value), (∃ c : Nat, c ≤ i ∧ t.1 = nI c ∧ (c = 0 ↔ t.2 = -2)) → MJ m m1 → QM L xs sh x W m (RF W W.2.1.2.2.2.1.1) (W.2.1.1.1.1 5) m1 W.2.1.2.1 → ∃ m2, RS (ZZ L xs) (d + 60) mX13_came 55 [some (.ref 259), some (.int (nI q)), some (.int (nI n)), some (.int (nI r)), some (.int e), some (.int t.1), some (.int t.2), some (.int (nI i)), u8] [] (HP sh (pM x m1)) = some (HP sh (pM x m2), some (.int (if e = 0 then (lp (camG W q n (nI r)) f i t).1 else (lp (camG W q n (nI r)) f i t).2))) ∧ MJ m m2 := by
      intro f
      induction f with
      | zero =>
        intro i hi2 m1 t u8 _ hj h
        refine ⟨m1, ?_, hj⟩
        rw [bX13_came_55, M_scalar hM, some_bind', eI_l0, Me_scalar hM (by decide), some_bind', h.2.1.1, if_pos (nI_le (by omega) (by omega))]
        by_cases c0 : e = 0
        · rw [if_neg (fun z => z c0), if_pos c0, bX13_came_152]
          rfl
        · rw [if_pos c0, if_neg c0, bX13_came_152]
          rfl
      | succ f ih =>
        intro i hi2 m1 t u8 hc hj h
        obtain ⟨c, c1, c2, c3⟩ := hc
        have h1 := QM_where h (q := q) (p := i) (by omega)
        obtain ⟨g, g1, g2, g3⟩ := Q_goFor (L := L) (xs := xs) (x := x) (d + 51) hM hVT h1 n (by omega)
        obtain ⟨l, l1, l2, l3, l4⟩ := Q_lay (L := L) (xs := xs) (x := x) (d + 56) hM hv hi g3.1
        have e1 : g.2.1 6 q = (camS W q n i).2.2 5 q := g3.2.2.2.1.2.2.2 5 (by decide) q hq
        rw [bX13_came_55, M_scalar hM, some_bind', eI_l0, Me_scalar hM (by decide), some_bind', h.2.1.1, if_neg (nI_ge (by omega) (by omega)), M_where hM, some_bind', Mu_where hM (by omega), some_bind', M_is hM, some_bind', g1, some_bind', M_where hM, some_bind', Me_where hM (by omega), some_bind', e1]
        have key : ∀ r' : Int32 × Int32, r' = camG W q n (nI r) i t → (∃ c : Nat, c ≤ i + 1 ∧ r'.1 = nI c ∧ (c = 0 ↔ r'.2 = -2)) → ∃ m2, RS (ZZ L xs) (d + 60) mX13_came 55 [some (.ref 259), some (.int (nI q)), some (.int (nI n)), some (.int (nI r)), some (.int e), some (.int r'.1), some (.int r'.2), some (.int (nI (i + 1))), none] [] (HP sh (pM x l)) = some (HP sh (pM x m2), some (.int (if e = 0 then (lp (camG W q n (nI r)) (f + 1) i t).1 else (lp (camG W q n (nI r)) (f + 1) i t).2))) ∧ MJ m m2 := fun r' hr hc => by
          obtain ⟨m2, p1, p2⟩ := ih (i + 1) (by omega) l r' none hc l2 l3
          rw [hr] at p1
          refine ⟨m2, ?_, p2⟩
          rw [hr]
          exact p1
        have hni : ¬ nI i = -2 := fun z => nI_pos (n := i) (by omega) (by rw [z]; decide)
        by_cases e2 : (camS W q n i).2.2 5 q = nI r
        · rw [if_neg (fun z => z e2), bX13_came_94, M_is hM, some_bind', l1, some_bind', if_neg (by decide)]
          by_cases e3 : t.2 = -2
          · have hc0 : c = 0 := c3.2 e3
            have ht : t.1 = 0 := by rw [c2, hc0]; rfl
            rw [if_neg (fun z => z ht), bX13_came_117, if_neg (by decide), bX13_came_131, nI_1]
            exact key (t.1 + 1, nI i) (by unfold camG; rw [if_pos e2, if_pos e3]) ⟨1, by omega, by rw [ht]; rfl, ⟨fun z => absurd z (by decide), fun z => absurd z hni⟩⟩
          · have ht : ¬ t.1 = 0 := fun z => e3 (c3.1 (by rw [c2] at z; exact (nI_eq (a := c) (b := 0) (by omega) (by omega)).1 z))
            rw [if_pos ht, bX13_came_115, bX13_came_117, if_neg (by decide), bX13_came_131, nI_1]
            exact key (t.1 + 1, t.2) (by unfold camG; rw [if_pos e2, if_neg e3]) ⟨c + 1, by omega, by rw [c2, nI_1], ⟨fun z => absurd z (by omega), fun z => absurd z e3⟩⟩
        · rw [if_pos e2, bX13_came_94, M_is hM, some_bind', l1, some_bind', if_pos rfl, bX13_came_115, bX13_came_117, if_pos rfl, bX13_came_131, nI_1, Int32.add_zero]
          exact key t (by unfold camG; rw [if_neg e2]) ⟨c, by omega, c2, c3⟩
    obtain ⟨m2, l1, l2⟩ := loop W.2.1.1.2.1 0 rfl m1 (0, -2) none ⟨0, by omega, rfl, ⟨fun _ => rfl, fun _ => rfl⟩⟩ k2 k3
    refine ⟨m2, ?_, l2⟩
    show RS (ZZ L xs) (d + 60) mX13_came 0 [some (.ref 259), some (.int (nI q)), some (.int (nI n)), some (.int (nI r)), some (.int e), none, none, none, none] [] _ = _
    rw [bX13_came_0, M_is hM, some_bind', i_strangerM _ hM hi hv, some_bind', if_neg (z1 g1), i_inM _ (show (1 : Int64) = (1 : Int32).toInt64 from rfl) (show (30 : Int64) = (30 : Int32).toInt64 from rfl), some_bind', if_neg (z1 g2), M_is hM, some_bind', i_placeM _ hM hi hv, some_bind', if_neg (z1 g3), i_inM _ (show (0 : Int64) = (0 : Int32).toInt64 from rfl) (show (1 : Int64) = (1 : Int32).toInt64 from rfl), some_bind', if_pos (z1 g4), M_is hM, some_bind', k1, some_bind']
    exact l1
end ASK3
