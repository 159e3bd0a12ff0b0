/-! the rule in force, the seed, notes -/
theorem XSc_set {sh : List Sh} {x y : ST} {c : SCN} (h : XSc sh x 3 c) (hoff : Off (fun o => o = 3 ∨ 180 ≤ o ∧ o < 183) x y) (hR : y.2.2.1 3 0 = x.2.2.1 3 0) {f sd : Int32} {nn : Nat} {r : Nat → Nat → Int32} (h3 : y.1 3 3 = f) (h4 : y.1 3 4 = sd) (h5 : y.1 3 5 = nI nn) (h6 : ∀ j, j < 3 → ∀ i, i < nn → y.2.2.2.1 (180 + j) i = r j i) : XSc sh y 3 (c.1, c.2.1, c.2.2.1, (f, sd), (nn, r)) := by
  obtain ⟨a1, ⟨t, t1, t2, t3, t4⟩, a3, a4, -, -, -, -⟩ := h
  refine ⟨a1, ⟨t, hR.trans t1, t2, t3, ?_⟩, SQ_trans (gSt_off hoff (fun o q1 q2 => by omega)) a3, PaOK_off hoff (fun o q1 q2 => by omega) a4, h3, h4, h5, h6⟩
  rw [gTo_off hoff (t := t) (fun o q1 q2 => by omega)]
  exact t4
theorem MSc_set {m m' : MM} {c : SCN} (h0 : ∀ k, k < 7 → m'.2.1 0 k = m.2.1 0 k) (h1 : ∀ a, 1 ≤ a → a ≤ 12 ∨ 16 ≤ a ∧ a ≤ 18 ∨ a = 38 → m'.2.1 a = m.2.1 a) (h51 : m'.1 51 = m.1 51) {f sd : Int32} {nn : Nat} {r : Nat → Nat → Int32} (hf : m'.2.1 0 9 = f) (hs : m'.2.1 0 8 = sd) (hn : MNo m' nn r) (hc : MSc m c) : MSc m' (c.1, c.2.1, c.2.2.1, (f, sd), (nn, r)) := by
  obtain ⟨⟨⟨a1, a2, a3, a4, a5, a6⟩, ⟨b1, b2⟩⟩, ⟨c1, ⟨c2, c3, c4, c5⟩⟩, ⟨d1, d2⟩, -, -⟩ := hc
  refine ⟨⟨⟨(h0 0 (by omega)).trans a1, (h0 1 (by omega)).trans a2, (h0 2 (by omega)).trans a3, (h0 3 (by omega)).trans a4, fun p hp => (congrFun (h1 9 (by omega) (by omega)) p).trans (a5 p hp), fun g hg => ⟨(congrFun (h1 10 (by omega) (by omega)) g).trans (a6 g hg).1, (congrFun (h1 11 (by omega) (by omega)) g).trans (a6 g hg).2.1, (congrFun (h1 12 (by omega) (by omega)) g).trans (a6 g hg).2.2⟩⟩, fun p hp => ⟨(congrFun (h1 16 (by omega) (by omega)) p).trans (b1 p hp).1, (congrFun (h1 17 (by omega) (by omega)) p).trans (b1 p hp).2⟩, fun i hi => (congrFun (h1 18 (by omega) (by omega)) i).trans (b2 i hi)⟩, ⟨fun i hi => (congrFun (h1 8 (by omega) (by omega)) i).trans (c1 i hi), (h0 4 (by omega)).trans c2, (h0 5 (by omega)).trans c3, (h0 6 (by omega)).trans c4, fun j hj k hk => (congrFun (h1 (1 + j) (by omega) (by omega)) k).trans (c5 j hj k hk)⟩, ⟨h51.trans d1, fun i hi => ?_⟩, ⟨hf, hs⟩, hn⟩
  have := d2 i hi
  rw [← h1 38 (by omega) (by omega)] at this
  exact this
theorem VW_now {W : WD} {c : SCN} (hv : VW W) (hc : VC c) (hf : VF W.2.2.2.1 c) : VW (setN W c) := ⟨hv.1, ⟨hc, hf⟩, hv.2.2⟩
section SET2
variable {L : Nat} {xs : Nat → Int32} {W : WD}
theorem Sp_force (hv : VW W) (a : Int32) : Step L xs W mX12_force mX13_force [.int a] := by
  have h6 : W.2.2.2.1 ≤ 6 := hv.2.2.2.1
  by_cases h1 : a < -1
  · refine ⟨W, -2, Xsame fun sh y d hx => ?_, Msame hv fun sh x m d hM hi => ?_⟩
    · show RS (ZZ L xs) (d + 60) mX12_force 0 [some (.ref 0), some (.int a), none] [] _ = _
      rw [bX12_force_0, if_pos h1, bX12_force_13]
    · show RS (ZZ L xs) (d + 60) mX13_force 0 [some (.ref 259), some (.int a), none] [] _ = _
      rw [bX13_force_0, M_rules hM, some_bind', hi.2.2.2.1.1, i_inM (d + 58) (show (-1 : Int64) = (-1 : Int32).toInt64 from rfl) (show (nI W.2.2.2.1 - 1).toInt64 = (nI W.2.2.2.1 - 1).toInt64 from rfl), some_bind']
      have : wiB (-1) (nI W.2.2.2.1 - 1) a = false := by
        unfold wiB
        rw [decide_eq_false (Int32.not_le.mpr h1)]
        rfl
      rw [this, if_neg (fun z => z rfl)]
  · have h1' := Int32.not_lt.mp h1
    by_cases h2 : a < nI W.2.2.2.1
    · have hf : a = -1 ∨ ∃ r, r < W.2.2.2.1 ∧ a = nI r := by
        by_cases h0 : a < 0
        · refine Or.inl ?_
          rw [Int32.le_iff_toInt_le] at h1'
          rw [Int32.lt_iff_toInt_lt] at h0
          apply Int32.toInt_inj.mp
          have e1 : (-1 : Int32).toInt = -1 := rfl
          have e0 : (0 : Int32).toInt = 0 := rfl
          omega
        · obtain ⟨r, hr, rfl⟩ := nI_of h0
          exact Or.inr ⟨r, (nI_ltI hr (by omega)).mp h2, rfl⟩
      refine ⟨setN W (W.2.1.1, W.2.1.2.1, W.2.1.2.2.1, (a, W.2.1.2.2.2.1.2), W.2.1.2.2.2.2), W.2.1.2.2.2.1.1, fun sh y d hx => ?_, fun sh x m d hM hi => ?_⟩
      · have off : Off (fun o => o = 3 ∨ 180 ≤ o ∧ o < 183) y (sI y 3 3 a) := Off_sI (Off_refl _ _) (by omega) _ _
        obtain ⟨-, -, -, -, q5, q6, q7, q8⟩ := hx.2.2.2.2.1
        refine ⟨sh, sI y 3 3 a, cI_of ?_, XI_a (Off_mono off (fun o q => by unfold Da; omega)) ?_ (XSc_set hx.2.2.2.2.1 off rfl ?_ ?_ ?_ ?_) hx, OffM_of off (fun o ho => by omega), Gr_refl _⟩
        · show RS (ZZ L xs) (d + 60) mX12_force 0 [some (.ref 0), some (.int a), none] [] _ = _
          rw [bX12_force_0, if_neg h1, WM_ruleCount hx.1.1.1, some_bind', hx.2.2.2.2.2.2.1, if_pos h2, WM_now hx.1.1.1, some_bind', Sc_force hx.1.1.2.2.1, some_bind', some_bind', Scw_force hx.1.1.2.2.1, some_bind', q5]
        · rw [gCk_off off (fun o q1 q2 => by omega)]
          exact hx.2.2.1
        · rfl
        · exact q6
        · exact q7
        · exact q8
      · obtain ⟨-, -, -, ⟨e1, e2⟩, ⟨f1, f2⟩⟩ := id hi.2.1
        refine ⟨mA m 0 9 a, cI_of ?_, MI_now (m := m) ⟨⟨rfl, rfl, rfl⟩, fun b i hb _ _ => by rw [mA_ne _ _ _ (by omega)]⟩ hv hi (MSc_set (fun k hk => by rw [mA_eq, upd_ne _ _ (by omega)]) (fun b hb _ => mA_ne _ _ _ (by omega)) rfl (by rw [mA_eq, upd_at]) (by rw [mA_eq, upd_ne _ _ (by omega)]; exact e2) ⟨by rw [mA_eq, upd_ne _ _ (by omega)]; exact f1, fun j hj i hi => by rw [mA_ne _ _ _ (by omega)]; exact f2 j hj i hi⟩ hi.2.1), VW_now hv hv.2.1.1 hf⟩
        show RS (ZZ L xs) (d + 60) mX13_force 0 [some (.ref 259), some (.int a), none] [] _ = _
        rw [bX13_force_0, M_rules hM, some_bind', hi.2.2.2.1.1, i_inM (d + 58) (show (-1 : Int64) = (-1 : Int32).toInt64 from rfl) (show (nI W.2.2.2.1 - 1).toInt64 = (nI W.2.2.2.1 - 1).toInt64 from rfl), some_bind']
        have hw : wiB (-1) (nI W.2.2.2.1 - 1) a = true := by
          unfold wiB
          rw [Bool.and_eq_true, decide_eq_true_iff, decide_eq_true_iff]
          refine ⟨h1', ?_⟩
          rw [Int32.le_iff_toInt_le, nI_m1i (by omega)]
          rw [Int32.lt_iff_toInt_lt, nI_toInt (by omega)] at h2
          omega
        rw [if_pos (z1 hw), M_scalar hM, some_bind', eI_l9, Me_scalar hM (by decide), some_bind', e1, some_bind', wI_l9, Mu_scalar hM (by decide), some_bind']
    · refine ⟨W, -2, Xsame fun sh y d hx => ?_, Msame hv fun sh x m d hM hi => ?_⟩
      · show RS (ZZ L xs) (d + 60) mX12_force 0 [some (.ref 0), some (.int a), none] [] _ = _
        rw [bX12_force_0, if_neg h1, WM_ruleCount hx.1.1.1, some_bind', hx.2.2.2.2.2.2.1, if_neg h2, bX12_force_13]
      · show RS (ZZ L xs) (d + 60) mX13_force 0 [some (.ref 259), some (.int a), none] [] _ = _
        rw [bX13_force_0, M_rules hM, some_bind', hi.2.2.2.1.1, i_inM (d + 58) (show (-1 : Int64) = (-1 : Int32).toInt64 from rfl) (show (nI W.2.2.2.1 - 1).toInt64 = (nI W.2.2.2.1 - 1).toInt64 from rfl), some_bind']
        have : wiB (-1) (nI W.2.2.2.1 - 1) a = false := by
          unfold wiB
          have h2' := Int32.not_lt.mp h2
          rw [decide_eq_false (p := a ≤ nI W.2.2.2.1 - 1), Bool.and_false]
          intro q
          rw [Int32.le_iff_toInt_le, nI_m1i (by omega)] at q
          rw [Int32.le_iff_toInt_le, nI_toInt (by omega)] at h2'
          omega
        rw [this, if_neg (fun z => z rfl)]
theorem Sp_seed (hv : VW W) (a : Int32) : Step L xs W mX12_seed mX13_seed [.int a] := by
  by_cases h0 : (0 : Int32) ≤ a
  · obtain ⟨n, hn, rfl⟩ := nI_of (Int32.not_lt.mpr h0)
    refine ⟨setN W (W.2.1.1, W.2.1.2.1, W.2.1.2.2.1, (W.2.1.2.2.2.1.1, nI n), W.2.1.2.2.2.2), W.2.1.2.2.2.1.2, fun sh y d hx => ?_, fun sh x m d hM hi => ?_⟩
    · have off : Off (fun o => o = 3 ∨ 180 ≤ o ∧ o < 183) y (sI y 3 4 (nI n)) := Off_sI (Off_refl _ _) (by omega) _ _
      obtain ⟨-, -, -, -, q5, q6, q7, q8⟩ := hx.2.2.2.2.1
      refine ⟨sh, sI y 3 4 (nI n), cI_of ?_, XI_a (Off_mono off (fun o q => by unfold Da; omega)) ?_ (XSc_set hx.2.2.2.2.1 off rfl ?_ ?_ ?_ ?_) hx, OffM_of off (fun o ho => by omega), Gr_refl _⟩
      · show RS (ZZ L xs) (d + 60) mX12_seed 0 [some (.ref 0), some (.int (nI n)), none] [] _ = _
        rw [bX12_seed_0, if_pos h0, WM_now hx.1.1.1, some_bind', Sc_x hx.1.1.2.2.1, some_bind', some_bind', Scw_x hx.1.1.2.2.1, some_bind', q6]
      · rw [gCk_off off (fun o q1 q2 => by omega)]
        exact hx.2.2.1
      · exact q5
      · rfl
      · exact q7
      · exact q8
    · obtain ⟨-, -, -, ⟨e1, e2⟩, ⟨f1, f2⟩⟩ := id hi.2.1
      obtain ⟨v1, v2, v3, -, v5⟩ := hv.2.1.1
      refine ⟨mA m 0 8 (nI n), cI_of ?_, MI_now (m := m) ⟨⟨rfl, rfl, rfl⟩, fun b i hb _ _ => by rw [mA_ne _ _ _ (by omega)]⟩ hv hi (MSc_set (fun k hk => by rw [mA_eq, upd_ne _ _ (by omega)]) (fun b hb _ => mA_ne _ _ _ (by omega)) rfl (by rw [mA_eq, upd_ne _ _ (by omega)]; exact e1) (by rw [mA_eq, upd_at]) ⟨by rw [mA_eq, upd_ne _ _ (by omega)]; exact f1, fun j hj i hi => by rw [mA_ne _ _ _ (by omega)]; exact f2 j hj i hi⟩ hi.2.1), VW_now hv ⟨v1, v2, v3, ⟨n, hn, rfl⟩, v5⟩ hv.2.1.2⟩
      show RS (ZZ L xs) (d + 60) mX13_seed 0 [some (.ref 259), some (.int (nI n)), none] [] _ = _
      rw [bX13_seed_0, if_pos h0, M_scalar hM, some_bind', eI_l8, Me_scalar hM (by decide), some_bind', e2, some_bind', wI_l8, Mu_scalar hM (by decide), some_bind']
  · refine ⟨W, -1, Xsame fun sh y d hx => ?_, Msame hv fun sh x m d hM hi => ?_⟩
    · show RS (ZZ L xs) (d + 60) mX12_seed 0 [some (.ref 0), some (.int a), none] [] _ = _
      rw [bX12_seed_0, if_neg h0]
    · show RS (ZZ L xs) (d + 60) mX13_seed 0 [some (.ref 259), some (.int a), none] [] _ = _
      rw [bX13_seed_0, if_neg h0]
theorem Sp_note (hv : VW W) (a b c : Int32) : Step L xs W mX12_note mX13_note [.int a, .int b, .int c] := by
  have h5 : W.2.1.1.2.2.2 ≤ 5 := hv.2.1.1.1.1.2.2.2
  have h6 : W.2.1.1.2.2.1 ≤ 6 := hv.2.1.1.1.1.2.1
  have hnn : W.2.1.2.2.2.2.1 ≤ 10 := hv.2.1.1.2.2.2.2.1
  by_cases hm : a = -1
  · refine ⟨setN W (W.2.1.1, W.2.1.2.1, W.2.1.2.2.1, W.2.1.2.2.2.1, (0, W.2.1.2.2.2.2.2)), 0, fun sh y d hx => ?_, fun sh x m d hM hi => ?_⟩
    · have off : Off (fun o => o = 3 ∨ 180 ≤ o ∧ o < 183) y (sI y 3 5 0) := Off_sI (Off_refl _ _) (by omega) _ _
      obtain ⟨-, -, -, -, q5, q6, q7, q8⟩ := hx.2.2.2.2.1
      refine ⟨sh, sI y 3 5 0, cI_of ?_, XI_a (Off_mono off (fun o q => by unfold Da; omega)) ?_ (XSc_set hx.2.2.2.2.1 off rfl ?_ ?_ ?_ ?_) hx, OffM_of off (fun o ho => by omega), Gr_refl _⟩
      · show RS (ZZ L xs) (d + 60) mX12_note 0 [some (.ref 0), some (.int a), some (.int b), some (.int c), none] [] _ = _
        rw [bX12_note_0, if_neg (fun z => z hm), WM_now hx.1.1.1, some_bind', Scw_notes hx.1.1.2.2.1, some_bind']
      · rw [gCk_off off (fun o q1 q2 => by omega)]
        exact hx.2.2.1
      · exact q5
      · exact q6
      · rfl
      · exact fun j hj i hi => absurd hi (Nat.not_lt_zero _)
    · obtain ⟨-, -, -, ⟨e1, e2⟩, ⟨f1, f2⟩⟩ := id hi.2.1
      obtain ⟨v1, v2, v3, v4, v5⟩ := hv.2.1.1
      refine ⟨mA m 0 7 0, cI_of ?_, MI_now (m := m) ⟨⟨rfl, rfl, rfl⟩, fun b i hb _ _ => by rw [mA_ne _ _ _ (by omega)]⟩ hv hi (MSc_set (fun k hk => by rw [mA_eq, upd_ne _ _ (by omega)]) (fun b hb _ => mA_ne _ _ _ (by omega)) rfl (by rw [mA_eq, upd_ne _ _ (by omega)]; exact e1) (by rw [mA_eq, upd_ne _ _ (by omega)]; exact e2) ⟨by rw [mA_eq, upd_at]; rfl, fun j hj i hi => absurd hi (Nat.not_lt_zero _)⟩ hi.2.1), VW_now hv ⟨v1, v2, v3, v4, ⟨Nat.zero_le _, fun i hi => absurd hi (Nat.not_lt_zero _)⟩⟩ hv.2.1.2⟩
      show RS (ZZ L xs) (d + 60) mX13_note 0 [some (.ref 259), some (.int a), some (.int b), some (.int c), none] [] _ = _
      rw [bX13_note_0, if_neg (fun z => z hm), M_scalar hM, some_bind', wI_l7, Mu_scalar hM (by decide), some_bind']
  · by_cases hok : (wiB 0 60 a = true ∧ iN W.2.1.1.2.2.2 b = true ∧ (c = -1 ∨ iN W.2.1.1.2.2.1 c = true)) ∧ W.2.1.2.2.2.2.1 < 10
    · obtain ⟨⟨ha, hb, hc⟩, h10⟩ := hok
      obtain ⟨h, -, hh, rfl⟩ := wiB_ex (lo := 0) (hi := 60) rfl rfl (by decide) (by decide) ha
      obtain ⟨g, hg, rfl⟩ := iN_ex (by omega) hb
      refine ⟨setN W (W.2.1.1, W.2.1.2.1, W.2.1.2.2.1, W.2.1.2.2.2.1, (W.2.1.2.2.2.2.1 + 1, fun j => if j = 0 then upd (W.2.1.2.2.2.2.2 0) W.2.1.2.2.2.2.1 (nI h) else if j = 1 then upd (W.2.1.2.2.2.2.2 1) W.2.1.2.2.2.2.1 (nI g) else upd (W.2.1.2.2.2.2.2 2) W.2.1.2.2.2.2.1 c)), nI (W.2.1.2.2.2.2.1 + 1), fun sh y d hx => ?_, fun sh x m d hM hi => ?_⟩
      · have hS : isSc sh 3 := hx.1.1.2.2.1
        obtain ⟨-, -, -, -, q5, q6, q7, q8⟩ := hx.2.2.2.2.1
        have s1 := Scu_noteHour hS (j := W.2.1.2.2.2.2.1)
        have s2 := Scu_noteStranger hS (j := W.2.1.2.2.2.2.1)
        have s3 := Scu_notePerson hS (j := W.2.1.2.2.2.2.1)
        have hadd : ∀ d, ∃ z, cV (ZZ L xs) (d + 1) mX6_addNote [.ref 3, .int (nI h), .int (nI g), .int c] (HP sh y) = some (HP sh z) ∧ Off (fun o => o = 3 ∨ 180 ≤ o ∧ o < 183) y z ∧ z.2.2.1 3 0 = y.2.2.1 3 0 ∧ z.1 3 3 = y.1 3 3 ∧ z.1 3 4 = y.1 3 4 ∧ z.1 3 5 = nI (W.2.1.2.2.2.2.1 + 1) ∧ z.2.2.2.1 180 = upd (y.2.2.2.1 180) W.2.1.2.2.2.2.1 (nI h) ∧ z.2.2.2.1 181 = upd (y.2.2.2.1 181) W.2.1.2.2.2.2.1 (nI g) ∧ z.2.2.2.1 182 = upd (y.2.2.2.1 182) W.2.1.2.2.2.2.1 c := fun d => by
          refine ⟨sI (sA (sA (sA y 180 (upd (y.2.2.2.1 180) W.2.1.2.2.2.2.1 (nI h))) 181 (upd (y.2.2.2.1 181) W.2.1.2.2.2.2.1 (nI g))) 182 (upd (y.2.2.2.1 182) W.2.1.2.2.2.2.1 c)) 3 5 (nI (W.2.1.2.2.2.2.1 + 1)), cV_of ?_, Off_sI (Off_sA (Off_sA (Off_sA (Off_refl _ _) (by omega) _) (by omega) _) (by omega) _) (by omega) _ _, rfl, rfl, rfl, rfl, rfl, rfl, rfl⟩
          show RS (ZZ L xs) (d + 1) mX6_addNote 0 [some (.ref 3), some (.int (nI h)), some (.int (nI g)), some (.int c)] [] _ = _
          have r1 : (sA y 180 (upd (y.2.2.2.1 180) W.2.1.2.2.2.2.1 (nI h))).1 3 5 = nI W.2.1.2.2.2.2.1 := q7
          have r2 : (sA (sA y 180 (upd (y.2.2.2.1 180) W.2.1.2.2.2.2.1 (nI h))) 181 (upd (y.2.2.2.1 181) W.2.1.2.2.2.2.1 (nI g))).1 3 5 = nI W.2.1.2.2.2.2.1 := q7
          have r3 : (sA (sA (sA y 180 (upd (y.2.2.2.1 180) W.2.1.2.2.2.2.1 (nI h))) 181 (upd (y.2.2.2.1 181) W.2.1.2.2.2.2.1 (nI g))) 182 (upd (y.2.2.2.1 182) W.2.1.2.2.2.2.1 c)).1 3 5 = nI W.2.1.2.2.2.2.1 := q7
          have u1 : (sA y 180 (upd (y.2.2.2.1 180) W.2.1.2.2.2.2.1 (nI h))).2.2.2.1 181 = y.2.2.2.1 181 := sA_ne _ _ (by decide)
          have u2 : (sA (sA y 180 (upd (y.2.2.2.1 180) W.2.1.2.2.2.2.1 (nI h))) 181 (upd (y.2.2.2.1 181) W.2.1.2.2.2.2.1 (nI g))).2.2.2.1 182 = y.2.2.2.1 182 := (sA_ne _ _ (by decide)).trans (sA_ne _ _ (by decide))
          rw [bX6_addNote_0, Sc_notes hS, some_bind', q7, if_neg (show ¬ (10 : Int32) ≤ nI W.2.1.2.2.2.2.1 from nI_ge (b := 10) h10 (by decide)), Sc_noteHour hS, some_bind', some_bind', s1 _ h10, some_bind', Sc_noteStranger hS, some_bind', Sc_notes hS, some_bind', r1, s2 _ h10, some_bind', Sc_notePerson hS, some_bind', Sc_notes hS, some_bind']
          rw [u1, r2, s3 _ h10, some_bind', Sc_notes hS, some_bind', u2, r3, Scw_notes hS, some_bind', bX6_addNote_49, nI_1]
        obtain ⟨z, z1', z2, z3, z4, z5, z6, z7, z8, z9⟩ := hadd (d + 58)
        have fin : ∀ u, RS (ZZ L xs) (d + 60) mX12_note 41 [some (.ref 0), some (.int (nI h)), some (.int (nI g)), some (.int c), u] [.int 1] (HP sh y) = some (HP sh z, some (.int (nI (W.2.1.2.2.2.2.1 + 1)))) := fun u => by
          rw [bX12_note_41, i_within, some_bind', if_neg (z1 ha), if_neg (by decide), WM_now hx.1.1.1, some_bind', Sc_notes hS, some_bind', q7, if_pos (show nI W.2.1.2.2.2.2.1 < 10 from nI_lt (b := 10) h10 (by decide)), some_bind', Sc_is hS, some_bind', z1', some_bind', WM_now hx.1.1.1, some_bind', Sc_notes hS, some_bind', z6]
        refine ⟨sh, z, cI_of ?_, XI_a (Off_mono z2 (fun o q => by unfold Da; omega)) ?_ (XSc_set hx.2.2.2.2.1 z2 z3 (z4.trans q5) (z5.trans q6) z6 ?_) hx, OffM_of z2 (fun o ho => by omega), Gr_refl _⟩
        · show RS (ZZ L xs) (d + 60) mX12_note 0 [some (.ref 0), some (.int (nI h)), some (.int (nI g)), some (.int c), none] [] _ = _
          rw [bX12_note_0, if_pos hm, WM_is hx.1.1.1, some_bind', i_isStranger _ hx hv, some_bind', if_neg (z1 hb)]
          by_cases hc1 : c = -1
          · rw [if_pos hc1, bX12_note_36]
            exact fin _
          · rw [if_neg hc1, WM_is hx.1.1.1, some_bind', i_isPerson _ hx hv, some_bind', if_neg (z1 (hc.resolve_left hc1)), bX12_note_36]
            exact fin _
        · rw [gCk_off z2 (fun o q1 q2 => by omega)]
          exact hx.2.2.1
        · intro j hj i hi
          have hi : i < W.2.1.2.2.2.2.1 + 1 := hi
          have old : ∀ j, j < 3 → ∀ v, upd (y.2.2.2.1 (180 + j)) W.2.1.2.2.2.2.1 v i = upd (W.2.1.2.2.2.2.2 j) W.2.1.2.2.2.2.1 v i := fun j hj v => by
            by_cases e : i = W.2.1.2.2.2.2.1
            · rw [e, upd_at, upd_at]
            · rw [upd_ne _ _ e, upd_ne _ _ e]
              exact q8 j hj i (by omega)
          match j, hj with
          | 0, _ =>
            show z.2.2.2.1 180 i = _
            rw [z7]
            exact old 0 (by decide) _
          | 1, _ =>
            show z.2.2.2.1 181 i = _
            rw [z8]
            exact old 1 (by decide) _
          | 2, _ =>
            show z.2.2.2.1 182 i = _
            rw [z9]
            exact old 2 (by decide) _
      · obtain ⟨-, -, -, ⟨e1, e2⟩, ⟨f1, f2⟩⟩ := id hi.2.1
        obtain ⟨v1, v2, v3, v4, v5, v6⟩ := hv.2.1.1
        have r7 : (mA (mA (mA m 13 W.2.1.2.2.2.2.1 (nI h)) 14 W.2.1.2.2.2.2.1 (nI g)) 15 W.2.1.2.2.2.2.1 c).2.1 0 7 = nI W.2.1.2.2.2.2.1 := f1
        have fin : RS (ZZ L xs) (d + 60) mX13_note 57 [some (.ref 259), some (.int (nI h)), some (.int (nI g)), some (.int c), some (.int (nI W.2.1.2.2.2.2.1))] [] (HP sh (pM x m)) = some (HP sh (pM x (mA (mA (mA (mA m 13 W.2.1.2.2.2.2.1 (nI h)) 14 W.2.1.2.2.2.2.1 (nI g)) 15 W.2.1.2.2.2.2.1 c) 0 7 (nI (W.2.1.2.2.2.2.1 + 1)))), some (.int (nI (W.2.1.2.2.2.2.1 + 1)))) := by
          rw [bX13_note_57, if_pos (fun z => by
            have : nI W.2.1.2.2.2.2.1 = nI 10 := z
            rw [nI_eq (by omega) (by omega)] at this
            omega), M_noteHour hM, some_bind', Mu_noteHour hM h10, some_bind', M_noteWho hM, some_bind', Mu_noteWho hM h10, some_bind', M_noteWhom hM, some_bind', Mu_noteWhom hM h10, some_bind', M_scalar hM, some_bind', eI_l7, Me_scalar hM (by decide), some_bind', r7, wI_l7, Mu_scalar hM (by decide), some_bind', nI_1]
        refine ⟨mA (mA (mA (mA m 13 W.2.1.2.2.2.2.1 (nI h)) 14 W.2.1.2.2.2.2.1 (nI g)) 15 W.2.1.2.2.2.2.1 c) 0 7 (nI (W.2.1.2.2.2.2.1 + 1)), cI_of ?_, MI_now (m := m) ⟨⟨rfl, rfl, rfl⟩, fun b i hb _ _ => by rw [mA_ne _ _ _ (by omega), mA_ne _ _ _ (by omega), mA_ne _ _ _ (by omega), mA_ne _ _ _ (by omega)]⟩ hv hi (MSc_set (m := m) (fun k hk => by rw [mA_eq, upd_ne _ _ (by omega), mA_ne _ _ _ (by omega), mA_ne _ _ _ (by omega), mA_ne _ _ _ (by omega)]) (fun b hb _ => by rw [mA_ne _ _ _ (by omega), mA_ne _ _ _ (by omega), mA_ne _ _ _ (by omega), mA_ne _ _ _ (by omega)]) (by rfl) ?_ ?_ ⟨?_, fun j hj i hi => ?_⟩ hi.2.1), VW_now hv ⟨v1, v2, v3, v4, ⟨h10, fun i hi => ?_⟩⟩ hv.2.1.2⟩
        · show RS (ZZ L xs) (d + 60) mX13_note 0 [some (.ref 259), some (.int (nI h)), some (.int (nI g)), some (.int c), none] [] _ = _
          rw [bX13_note_0, if_pos hm, M_scalar hM, some_bind', eI_l7, Me_scalar hM (by decide), some_bind', f1, i_inM (d + 58) (show (0 : Int64) = (0 : Int32).toInt64 from rfl) (show (60 : Int64) = (60 : Int32).toInt64 from rfl), some_bind', if_neg (z1 ha), M_is hM, some_bind', i_strangerM _ hM hi hv, some_bind', if_neg (z1 hb)]
          by_cases hc1 : c = -1
          · rw [if_pos hc1]
            exact fin
          · rw [if_neg hc1, M_is hM, some_bind', i_personM _ hM hi hv, some_bind', if_neg (z1 (hc.resolve_left hc1))]
            exact fin
        · rw [mA_eq, upd_ne _ _ (by omega), mA_ne _ _ _ (by omega), mA_ne _ _ _ (by omega), mA_ne _ _ _ (by omega)]
          exact e1
        · rw [mA_eq, upd_ne _ _ (by omega), mA_ne _ _ _ (by omega), mA_ne _ _ _ (by omega), mA_ne _ _ _ (by omega)]
          exact e2
        · rw [mA_eq, upd_at]
        · have hi : i < W.2.1.2.2.2.2.1 + 1 := hi
          have old : ∀ j, j < 3 → ∀ v, upd (m.2.1 (13 + j)) W.2.1.2.2.2.2.1 v i = upd (W.2.1.2.2.2.2.2 j) W.2.1.2.2.2.2.1 v i := fun j hj v => by
            by_cases e : i = W.2.1.2.2.2.2.1
            · rw [e, upd_at, upd_at]
            · rw [upd_ne _ _ e, upd_ne _ _ e]
              exact f2 j hj i (by omega)
          match j, hj with
          | 0, _ =>
            rw [mA_ne _ _ _ (by omega), mA_ne _ _ _ (by omega), mA_ne _ _ _ (by omega)]
            show (mA m 13 W.2.1.2.2.2.2.1 (nI h)).2.1 13 i = _
            rw [mA_eq]
            exact old 0 (by decide) _
          | 1, _ =>
            rw [mA_ne _ _ _ (by omega), mA_ne _ _ _ (by omega)]
            show (mA (mA m 13 W.2.1.2.2.2.2.1 (nI h)) 14 W.2.1.2.2.2.2.1 (nI g)).2.1 14 i = _
            rw [mA_eq, mA_ne _ _ _ (by omega)]
            exact old 1 (by decide) _
          | 2, _ =>
            rw [mA_ne _ _ _ (by omega)]
            show (mA (mA (mA m 13 W.2.1.2.2.2.2.1 (nI h)) 14 W.2.1.2.2.2.2.1 (nI g)) 15 W.2.1.2.2.2.2.1 c).2.1 15 i = _
            rw [mA_eq, mA_ne _ _ _ (by omega), mA_ne _ _ _ (by omega)]
            exact old 2 (by decide) _
        · have hi : i < W.2.1.2.2.2.2.1 + 1 := hi
          by_cases e : i = W.2.1.2.2.2.2.1
          · subst e
            refine ⟨⟨h, hh, upd_at _ _ _⟩, ⟨g, hg, upd_at _ _ _⟩, ?_⟩
            show upd _ _ c _ = -1 ∨ ∃ p, p < W.2.1.1.2.2.1 ∧ upd _ _ c _ = nI p
            rw [upd_at]
            rcases hc with hc | hc
            · exact Or.inl hc
            · exact Or.inr (iN_ex (by omega) hc)
          · obtain ⟨w1, w2, w3⟩ := v6 i (by omega)
            refine ⟨?_, ?_, ?_⟩
            · show ∃ h', h' ≤ 60 ∧ upd _ _ _ i = nI h'
              rw [upd_ne _ _ e]
              exact w1
            · show ∃ h', h' < _ ∧ upd _ _ _ i = nI h'
              rw [upd_ne _ _ e]
              exact w2
            · show upd _ _ c i = -1 ∨ ∃ p, p < _ ∧ upd _ _ c i = nI p
              rw [upd_ne _ _ e]
              exact w3
    · refine ⟨W, -2, Xsame fun sh y d hx => ?_, Msame hv fun sh x m d hM hi => ?_⟩
      · have hS : isSc sh 3 := hx.1.1.2.2.1
        obtain ⟨-, -, -, -, q5, q6, q7, q8⟩ := hx.2.2.2.2.1
        have fin : ∀ (t : Int32) u, (t = 0 ∨ t = 1 ∧ (iN W.2.1.1.2.2.2 b = true ∧ (c = -1 ∨ iN W.2.1.1.2.2.1 c = true))) → RS (ZZ L xs) (d + 60) mX12_note 41 [some (.ref 0), some (.int a), some (.int b), some (.int c), u] [.int t] (HP sh y) = some (HP sh y, some (.int (-2))) := fun t u ht => by
          rw [bX12_note_41, i_within, some_bind']
          by_cases ha : wiB 0 60 a = true
          · rw [if_neg (z1 ha)]
            rcases ht with rfl | ⟨rfl, ht⟩
            · rw [if_pos rfl, bX12_note_70]
            · rw [if_neg (by decide), WM_now hx.1.1.1, some_bind', Sc_notes hS, some_bind', q7, if_neg (fun z => hok ⟨⟨ha, ht⟩, by
                have : nI W.2.1.2.2.2.2.1 < nI 10 := z
                rw [nI_ltI (by omega) (by omega)] at this
                exact this⟩), bX12_note_70]
          · rw [if_pos (z0 ha), bX12_note_70]
        show RS (ZZ L xs) (d + 60) mX12_note 0 [some (.ref 0), some (.int a), some (.int b), some (.int c), none] [] _ = _
        rw [bX12_note_0, if_pos hm, WM_is hx.1.1.1, some_bind', i_isStranger _ hx hv, some_bind']
        by_cases hb : iN W.2.1.1.2.2.2 b = true
        · rw [if_neg (z1 hb)]
          by_cases hc1 : c = -1
          · rw [if_pos hc1, bX12_note_36]
            exact fin _ _ (Or.inr ⟨rfl, hb, Or.inl hc1⟩)
          · rw [if_neg hc1, WM_is hx.1.1.1, some_bind', i_isPerson _ hx hv, some_bind']
            by_cases hc2 : iN W.2.1.1.2.2.1 c = true
            · rw [if_neg (z1 hc2), bX12_note_36]
              exact fin _ _ (Or.inr ⟨rfl, hb, Or.inr hc2⟩)
            · rw [if_pos (z0 hc2), bX12_note_40]
              exact fin _ _ (Or.inl rfl)
        · rw [if_pos (z0 hb), bX12_note_40]
          exact fin _ _ (Or.inl rfl)
      · obtain ⟨-, -, -, ⟨e1, e2⟩, ⟨f1, f2⟩⟩ := id hi.2.1
        have fin : (wiB 0 60 a = true ∧ iN W.2.1.1.2.2.2 b = true ∧ (c = -1 ∨ iN W.2.1.1.2.2.1 c = true)) → RS (ZZ L xs) (d + 60) mX13_note 57 [some (.ref 259), some (.int a), some (.int b), some (.int c), some (.int (nI W.2.1.2.2.2.2.1))] [] (HP sh (pM x m)) = some (HP sh (pM x m), some (.int (-2))) := fun hh => by
          have : W.2.1.2.2.2.2.1 = 10 := by
            rcases Nat.lt_or_ge W.2.1.2.2.2.2.1 10 with q | q
            · exact absurd ⟨hh, q⟩ hok
            · omega
          rw [bX13_note_57, this, if_neg (fun z => z rfl), bX13_note_64]
        show RS (ZZ L xs) (d + 60) mX13_note 0 [some (.ref 259), some (.int a), some (.int b), some (.int c), none] [] _ = _
        rw [bX13_note_0, if_pos hm, M_scalar hM, some_bind', eI_l7, Me_scalar hM (by decide), some_bind', f1, i_inM (d + 58) (show (0 : Int64) = (0 : Int32).toInt64 from rfl) (show (60 : Int64) = (60 : Int32).toInt64 from rfl), some_bind']
        by_cases ha : wiB 0 60 a = true
        · rw [if_neg (z1 ha), M_is hM, some_bind', i_strangerM _ hM hi hv, some_bind']
          by_cases hb : iN W.2.1.1.2.2.2 b = true
          · rw [if_neg (z1 hb)]
            by_cases hc1 : c = -1
            · rw [if_pos hc1]
              exact fin ⟨ha, hb, Or.inl hc1⟩
            · rw [if_neg hc1, M_is hM, some_bind', i_personM _ hM hi hv, some_bind']
              by_cases hc2 : iN W.2.1.1.2.2.1 c = true
              · rw [if_neg (z1 hc2)]
                exact fin ⟨ha, hb, Or.inr hc2⟩
              · rw [if_pos (z0 hc2), bX13_note_64]
          · rw [if_pos (z0 hb), bX13_note_64]
        · rw [if_pos (z0 ha), bX13_note_64]
end SET2
