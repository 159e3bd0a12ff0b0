/-! collar, hunt, shut, hour, undo -/
section ACTS2
variable {L : Nat} {xs : Nat → Int32} {W : WD}
theorem Sp_collar (hv : VW W) (a b : Int32) : Step L xs W mX12_collar mX13_collar [.int a, .int b] := by
  have h6 : W.2.1.1.2.2.1 ≤ 6 := hv.2.1.1.1.1.2.1
  by_cases ha : iN W.2.1.1.2.2.1 a = true
  · obtain ⟨q, hq, rfl⟩ := iN_ex (by omega) ha
    by_cases hb : wiB 0 9 b = true
    · by_cases he : W.2.1.2.1.2.2 1 q = b
      · refine ⟨W, -1, Xsame fun sh y d hx => ?_, Msame hv fun sh x m d hM hi => ?_⟩
        · have hB : isSt sh 10 := hx.1.1.2.2.1.2.2.2.2.1
          show RS (ZZ L xs) (d + 60) mX12_collar 0 [some (.ref 0), some (.int (nI q)), some (.int b), none] [] _ = _
          rw [bX12_collar_0, WM_is hx.1.1.1, some_bind', i_isPerson _ hx hv, some_bind', if_neg (z1 ha), i_within, some_bind', if_neg (z1 hb), WM_now hx.1.1.1, some_bind', Sc_state hx.1.1.2.2.1, some_bind', St_kind hB, some_bind', Ste_kind hB _ (by omega), some_bind', Xst hx (j := 1) (by decide) (show q < 6 by omega), if_neg (fun z => z he), bX12_collar_34]
        · show RS (ZZ L xs) (d + 60) mX13_collar 0 [some (.ref 259), some (.int (nI q)), some (.int b), none] [] _ = _
          rw [bX13_collar_0, M_is hM, some_bind', i_personM _ hM hi hv, some_bind', if_neg (z1 ha), i_inM _ (show (0 : Int64) = (0 : Int32).toInt64 from rfl) (show (9 : Int64) = (9 : Int32).toInt64 from rfl), some_bind', if_neg (z1 hb), M_kind hM, some_bind', Me_kind hM (by omega), some_bind', Md_kind hi.2.1.2.1.2 hq, if_neg (fun z => z he), bX13_collar_30]
      · refine ⟨setN W (actC W.2.1 (stR W.2.1.2.1 1 (upd (W.2.1.2.1.2.2 1) q b))), W.2.1.2.1.2.2 1 q, fun sh y d hx => ?_, fun sh x m d hM hi => ?_⟩
        · have hS : isSc sh 3 := hx.1.1.2.2.1
          have hB : isSt sh 10 := hS.2.2.2.2.1
          have hP : isPa sh 18 := hS.2.2.2.2.2
          have hW : isWM sh 0 := hx.1.1.1
          obtain ⟨z, k1, k2, k3⟩ := X_push (L := L) (xs := xs) (d + 57) hx
          have off : Off (fun o => 10 ≤ o ∧ o < 18) z (sA z 12 (upd (z.2.2.2.1 12) q b)) := Off_sA (Off_refl _ _) (by omega) _
          refine ⟨sh, sA z 12 (upd (z.2.2.2.1 12) q b), cI_of ?_, XI_st k3 off (SQ_sA k3.2.2.2.2.1.2.2.1 (j := 1) (by decide) q b), OffM_of (Off_trans (Off_mono k2 (E := fun o => 10 ≤ o ∧ o < 188) (fun o q => by omega)) (Off_mono off (fun o q => by omega))) (fun o ho => by omega), Gr_refl _⟩
          show RS (ZZ L xs) (d + 60) mX12_collar 0 [some (.ref 0), some (.int (nI q)), some (.int b), none] [] _ = _
          rw [bX12_collar_0, WM_is hx.1.1.1, some_bind', i_isPerson _ hx hv, some_bind', if_neg (z1 ha), i_within, some_bind', if_neg (z1 hb)]
          have e1 := Xst hx (j := 1) (by decide) (show q < 6 by omega)
          have e2 := Xst k3 (j := 1) (by decide) (show q < 6 by omega)
          simp (disch := omega) only [WM_tape hW, WM_townReader hW, WM_ruleReader hW, WM_rules hW, WM_ruleCount hW, WM_now hW, WM_images hW, WM_clock hW, WM_outlook hW, WM_history hW, WMw_ruleCount hW, WMw_blankRule hW, WM_is hW, Sc_state hS, Sc_past hS, Sc_force hS, Sc_x hS, Sc_notes hS, Sc_noteHour hS, Sc_noteStranger hS, Sc_notePerson hS, Scw_town hS, Scw_force hS, Scw_x hS, Scw_notes hS, Sc_is hS, Sce_noteHour hS, Sce_noteStranger hS, Sce_notePerson hS, Scu_noteHour hS, Scu_noteStranger hS, Scu_notePerson hS, St_hour hB, St_chain hB, St_come hB, St_open hB, St_place hB, St_kind hB, St_asked hB, St_total hB, St_chains hB, St_at hB, St_before hB, Stw_hour hB, Stw_chain hB, Stw_come hB, Stw_open hB, St_is hB, Ste_place hB, Ste_kind hB, Ste_asked hB, Ste_total hB, Ste_chains hB, Ste_at hB, Ste_before hB, Stu_place hB, Stu_kind hB, Stu_asked hB, Stu_total hB, Stu_chains hB, Stu_at hB, Stu_before hB, Pa_size hP, Pa_next hP, Pa_kept hP, Paw_size hP, Paw_next hP, Pa_is hP, some_bind', k1]
          rw [if_pos (show ¬ y.2.2.2.1 12 q = b from fun z => he (e1.symm.trans z))]
          exact congrArg (fun v => some (HP sh (sA z 12 (upd (z.2.2.2.1 12) q b)), some (Value.int v))) e2
        · obtain ⟨m1, k1, k2, k3, k4⟩ := M_keeps (x := x) (d + 55) hM hi hv
          obtain ⟨v1, ⟨⟨v2, v3, v4⟩, h, v5, v6, v7⟩, -⟩ := id hv.2.1.1
          refine ⟨mA m1 2 q b, cI_of ?_, MI_act hv hi k2 k3 k4 rfl (fun b hb _ => mA_ne _ _ _ (by omega)) (fun k _ => by rw [mA_ne _ _ _ (by decide)]) (fun i hi2 => ?_) (Mdy_r (Mdy_q (m := m) (fun i _ _ => by rw [k2 0 (by decide)]) (fun a h1 h2 i _ => by rw [k2 a (by omega)]) h6 hv.2.1.1.1.1.2.2.2 hi.2.1.2.1.2) 2 1 rfl (by decide) q b), VW_now hv (VC_act hv.2.1.1 ⟨⟨v2, fun r hr => ?_, fun r hr => ?_⟩, h, v5, v6, VB_cong v7 rfl rfl⟩) hv.2.1.2⟩
          · show RS (ZZ L xs) (d + 60) mX13_collar 0 [some (.ref 259), some (.int (nI q)), some (.int b), none] [] _ = _
            rw [bX13_collar_0, M_is hM, some_bind', i_personM _ hM hi hv, some_bind', if_neg (z1 ha), i_inM _ (show (0 : Int64) = (0 : Int32).toInt64 from rfl) (show (9 : Int64) = (9 : Int32).toInt64 from rfl), some_bind', if_neg (z1 hb), M_kind hM, some_bind', Me_kind hM (by omega), some_bind', Md_kind hi.2.1.2.1.2 hq, if_pos he, M_is hM, some_bind', k1, some_bind', M_kind hM, some_bind', Me_kind hM (by omega), some_bind', some_bind', Mu_kind hM (by omega), some_bind', k2 2 (by decide), Md_kind hi.2.1.2.1.2 hq]
          · rw [mA_ne _ _ _ (by decide), k2 8 (by decide)]
            exact hi.2.1.2.1.1 i hi2
          · rw [stR_ne _ _ (by decide)]
            exact v3 r hr
          · rw [stR_ne _ _ (by decide)]
            exact v4 r hr
    · refine ⟨W, -1, Xsame fun sh y d hx => ?_, Msame hv fun sh x m d hM hi => ?_⟩
      · show RS (ZZ L xs) (d + 60) mX12_collar 0 [some (.ref 0), some (.int (nI q)), some (.int b), none] [] _ = _
        rw [bX12_collar_0, WM_is hx.1.1.1, some_bind', i_isPerson _ hx hv, some_bind', if_neg (z1 ha), i_within, some_bind', if_pos (z0 hb), bX12_collar_34]
      · show RS (ZZ L xs) (d + 60) mX13_collar 0 [some (.ref 259), some (.int (nI q)), some (.int b), none] [] _ = _
        rw [bX13_collar_0, M_is hM, some_bind', i_personM _ hM hi hv, some_bind', if_neg (z1 ha), i_inM _ (show (0 : Int64) = (0 : Int32).toInt64 from rfl) (show (9 : Int64) = (9 : Int32).toInt64 from rfl), some_bind', if_pos (z0 hb), bX13_collar_30]
  · refine ⟨W, -1, Xsame fun sh y d hx => ?_, Msame hv fun sh x m d hM hi => ?_⟩
    · show RS (ZZ L xs) (d + 60) mX12_collar 0 [some (.ref 0), some (.int a), some (.int b), none] [] _ = _
      rw [bX12_collar_0, WM_is hx.1.1.1, some_bind', i_isPerson _ hx hv, some_bind', if_pos (z0 ha), bX12_collar_34]
    · show RS (ZZ L xs) (d + 60) mX13_collar 0 [some (.ref 259), some (.int a), some (.int b), none] [] _ = _
      rw [bX13_collar_0, M_is hM, some_bind', i_personM _ hM hi hv, some_bind', if_pos (z0 ha), bX13_collar_30]
theorem Sp_hunt (hv : VW W) (a : Int32) : Step L xs W mX12_hunt mX13_hunt [.int a] := by
  have h5 : W.2.1.1.2.2.2 ≤ 5 := hv.2.1.1.1.1.2.2.2
  have h6 : W.2.1.1.2.2.1 ≤ 6 := hv.2.1.1.1.1.2.1
  by_cases ha : iN W.2.1.1.2.2.2 a = true
  · obtain ⟨q, hq, rfl⟩ := iN_ex (by omega) ha
    by_cases he : W.2.1.2.1.2.2 5 q = -1
    · refine ⟨W, -1, Xsame fun sh y d hx => ?_, Msame hv fun sh x m d hM hi => ?_⟩
      · have hB : isSt sh 10 := hx.1.1.2.2.1.2.2.2.2.1
        show RS (ZZ L xs) (d + 60) mX12_hunt 0 [some (.ref 0), some (.int (nI q)), none] [] _ = _
        rw [bX12_hunt_0, WM_is hx.1.1.1, some_bind', i_isStranger _ hx hv, some_bind', if_neg (z1 ha), WM_now hx.1.1.1, some_bind', Sc_state hx.1.1.2.2.1, some_bind', St_at hB, some_bind', Ste_at hB _ (by omega), some_bind', Xst hx (j := 5) (by decide) (show q < 5 by omega), if_neg (fun z => z he), bX12_hunt_24]
      · show RS (ZZ L xs) (d + 60) mX13_hunt 0 [some (.ref 259), some (.int (nI q)), none] [] _ = _
        rw [bX13_hunt_0, M_is hM, some_bind', i_strangerM _ hM hi hv, some_bind', if_neg (z1 ha), M_where hM, some_bind', Me_where hM (by omega), some_bind', Md_where hi.2.1.2.1.2 hq, if_neg (fun z => z he), bX13_hunt_18]
    · refine ⟨setN W (actC W.2.1 (stR W.2.1.2.1 5 (upd (W.2.1.2.1.2.2 5) q (-1)))), W.2.1.2.1.2.2 5 q, fun sh y d hx => ?_, fun sh x m d hM hi => ?_⟩
      · have hS : isSc sh 3 := hx.1.1.2.2.1
        have hB : isSt sh 10 := hS.2.2.2.2.1
        have hP : isPa sh 18 := hS.2.2.2.2.2
        have hW : isWM sh 0 := hx.1.1.1
        obtain ⟨z, k1, k2, k3⟩ := X_push (L := L) (xs := xs) (d + 57) hx
        have off : Off (fun o => 10 ≤ o ∧ o < 18) z (sA z 16 (upd (z.2.2.2.1 16) q (-1))) := Off_sA (Off_refl _ _) (by omega) _
        refine ⟨sh, sA z 16 (upd (z.2.2.2.1 16) q (-1)), cI_of ?_, XI_st k3 off (SQ_sA k3.2.2.2.2.1.2.2.1 (j := 5) (by decide) q (-1)), OffM_of (Off_trans (Off_mono k2 (E := fun o => 10 ≤ o ∧ o < 188) (fun o q => by omega)) (Off_mono off (fun o q => by omega))) (fun o ho => by omega), Gr_refl _⟩
        show RS (ZZ L xs) (d + 60) mX12_hunt 0 [some (.ref 0), some (.int (nI q)), none] [] _ = _
        rw [bX12_hunt_0, WM_is hx.1.1.1, some_bind', i_isStranger _ hx hv, some_bind', if_neg (z1 ha)]
        have e1 := Xst hx (j := 5) (by decide) (show q < 5 by omega)
        have e2 := Xst k3 (j := 5) (by decide) (show q < 5 by omega)
        simp (disch := omega) only [WM_tape hW, WM_townReader hW, WM_ruleReader hW, WM_rules hW, WM_ruleCount hW, WM_now hW, WM_images hW, WM_clock hW, WM_outlook hW, WM_history hW, WMw_ruleCount hW, WMw_blankRule hW, WM_is hW, Sc_state hS, Sc_past hS, Sc_force hS, Sc_x hS, Sc_notes hS, Sc_noteHour hS, Sc_noteStranger hS, Sc_notePerson hS, Scw_town hS, Scw_force hS, Scw_x hS, Scw_notes hS, Sc_is hS, Sce_noteHour hS, Sce_noteStranger hS, Sce_notePerson hS, Scu_noteHour hS, Scu_noteStranger hS, Scu_notePerson hS, St_hour hB, St_chain hB, St_come hB, St_open hB, St_place hB, St_kind hB, St_asked hB, St_total hB, St_chains hB, St_at hB, St_before hB, Stw_hour hB, Stw_chain hB, Stw_come hB, Stw_open hB, St_is hB, Ste_place hB, Ste_kind hB, Ste_asked hB, Ste_total hB, Ste_chains hB, Ste_at hB, Ste_before hB, Stu_place hB, Stu_kind hB, Stu_asked hB, Stu_total hB, Stu_chains hB, Stu_at hB, Stu_before hB, Pa_size hP, Pa_next hP, Pa_kept hP, Paw_size hP, Paw_next hP, Pa_is hP, some_bind', k1]
        rw [if_pos (show ¬ y.2.2.2.1 16 q = -1 from fun z => he (e1.symm.trans z))]
        exact congrArg (fun v => some (HP sh (sA z 16 (upd (z.2.2.2.1 16) q (-1))), some (Value.int v))) e2
      · obtain ⟨m1, k1, k2, k3, k4⟩ := M_keeps (x := x) (d + 55) hM hi hv
        obtain ⟨v1, ⟨v2, h, v5, v6, v7⟩, -⟩ := id hv.2.1.1
        refine ⟨mA m1 6 q (-1), cI_of ?_, MI_act hv hi k2 k3 k4 rfl (fun b hb _ => mA_ne _ _ _ (by omega)) (fun k _ => by rw [mA_ne _ _ _ (by decide)]) (fun i hi2 => ?_) (Mdy_r (Mdy_q (m := m) (fun i _ _ => by rw [k2 0 (by decide)]) (fun a h1 h2 i _ => by rw [k2 a (by omega)]) h6 h5 hi.2.1.2.1.2) 6 5 rfl (by decide) q (-1)), VW_now hv (VC_act hv.2.1.1 ⟨VS_at v2 q (Or.inl rfl), h, v5, v6, VB_cong v7 rfl rfl⟩) hv.2.1.2⟩
        · show RS (ZZ L xs) (d + 60) mX13_hunt 0 [some (.ref 259), some (.int (nI q)), none] [] _ = _
          rw [bX13_hunt_0, M_is hM, some_bind', i_strangerM _ hM hi hv, some_bind', if_neg (z1 ha), M_where hM, some_bind', Me_where hM (by omega), some_bind', Md_where hi.2.1.2.1.2 hq, if_pos he, M_is hM, some_bind', k1, some_bind', M_where hM, some_bind', Me_where hM (by omega), some_bind', some_bind', Mu_where hM (by omega), some_bind', k2 6 (by decide), Md_where hi.2.1.2.1.2 hq]
        · rw [mA_ne _ _ _ (by decide), k2 8 (by decide)]
          exact hi.2.1.2.1.1 i hi2
  · refine ⟨W, -1, Xsame fun sh y d hx => ?_, Msame hv fun sh x m d hM hi => ?_⟩
    · show RS (ZZ L xs) (d + 60) mX12_hunt 0 [some (.ref 0), some (.int a), none] [] _ = _
      rw [bX12_hunt_0, WM_is hx.1.1.1, some_bind', i_isStranger _ hx hv, some_bind', if_pos (z0 ha), bX12_hunt_24]
    · show RS (ZZ L xs) (d + 60) mX13_hunt 0 [some (.ref 259), some (.int a), none] [] _ = _
      rw [bX13_hunt_0, M_is hM, some_bind', i_strangerM _ hM hi hv, some_bind', if_pos (z0 ha), bX13_hunt_18]
theorem v_shuts {sh : List Sh} {x : ST} {m : MM} (d : Nat) (hM : isMo sh) {l : Int64} (hO : MOp m l) {a b : Nat} (ha : a < 8) (hb : b < 8) (hne : a ≠ b) : ∃ m', cV (ZZ L xs) (d + 1) mX13_shuts [.ref 259, .int (nI a), .int (nI b)] (HP sh (pM x m)) = some (HP sh (pM x m')) ∧ m'.1 = m.1 ∧ (∀ r, r ≠ 8 → m'.2.1 r = m.2.1 r) ∧ MOp m' (l ^^^ stS a b) := by
  refine ⟨mA (mA m 8 a (m.2.1 8 a ^^^ iShl 1 (nI b))) 8 b ((mA m 8 a (m.2.1 8 a ^^^ iShl 1 (nI b))).2.1 8 b ^^^ iShl 1 (nI a)), cV_of ?_, rfl, fun r hr => by rw [mA_ne _ _ _ hr, mA_ne _ _ _ hr], fun i hi => ?_⟩
  · show RS (ZZ L xs) (d + 1) mX13_shuts 0 [some (.ref 259), some (.int (nI a)), some (.int (nI b))] [] _ = _
    rw [bX13_shuts_0, M_open hM, some_bind', Me_open hM ha, some_bind', Mu_open hM ha, some_bind', M_open hM, some_bind', Me_open hM hb, some_bind', Mu_open hM hb, some_bind']
  · rw [nb_xor ha hb hne hi, mA_eq, mA_eq]
    by_cases h1 : i = a
    · subst h1
      rw [if_pos rfl, upd_ne _ _ hne, upd_at, hO i hi]
    · rw [if_neg h1]
      by_cases h2 : i = b
      · subst h2
        rw [if_pos rfl, upd_at, upd_ne _ _ h1, hO i hi]
      · rw [if_neg h2, upd_ne _ _ h2, upd_ne _ _ h1, hO i hi]
theorem lg_ne0 {a : Int64} : ¬ (lg_cmp a 0 : Int32) = 0 ↔ ¬ a = 0 := not_congr lg_eq
theorem Sp_shut (hv : VW W) (a b : Int32) : Step L xs W mX12_shut mX13_shut [.int a, .int b] := by
  have h5 : W.2.1.1.2.2.2 ≤ 5 := hv.2.1.1.1.1.2.2.2
  have h6 : W.2.1.1.2.2.1 ≤ 6 := hv.2.1.1.1.1.2.1
  have h8 : W.2.1.1.2.1 ≤ 8 := hv.2.1.1.1.2.2.2.2.1.1
  have hVs := hv.2.1.1.1.2.2.2.2.1
  by_cases ha : iN W.2.1.1.2.1 a = true
  · obtain ⟨p, hp, rfl⟩ := iN_ex (by omega) ha
    by_cases hb : iN W.2.1.1.2.1 b = true
    · obtain ⟨q, hq, rfl⟩ := iN_ex (by omega) hb
      have hbt : bt (nb W.2.1.1.1.2.1 (nI p)) q = aj W.2.1.1.1.2.1 p q := by
        rw [bt_nb _ (by omega) (by omega), decide_eq_true (show q < 8 by omega), Bool.true_and]
      by_cases he : aj W.2.1.1.1.2.1 p q = true
      · have hne : p ≠ q := fun z => by
          subst z
          rw [hv.2.1.1.1.2.2.2.2.2.2 p (by omega)] at he
          cases he
        have hr : ∀ l : Int64, VO W.2.1.1.2.1 l → ((l &&& stS p q = 0) ↔ aj l p q = false) := fun l hl => and_st hl.2.1 (by omega) (by omega) hne
        refine ⟨setN W (actC W.2.1 (stO W.2.1.2.1 (W.2.1.2.1.2.1 ^^^ stS p q))), if aj (W.2.1.2.1.2.1 ^^^ stS p q) p q = true then 0 else 1, fun sh y d hx => ?_, fun sh x m d hM hi => ?_⟩
        · have hS : isSc sh 3 := hx.1.1.2.2.1
          have hB : isSt sh 10 := hS.2.2.2.2.1
          have hP : isPa sh 18 := hS.2.2.2.2.2
          have hW : isWM sh 0 := hx.1.1.1
          obtain ⟨t, t1, -, t3, -, t4⟩ := X_town hx
          obtain ⟨z, k1, k2, k3⟩ := X_push (L := L) (xs := xs) (d + 57) hx
          have off : Off (fun o => 10 ≤ o ∧ o < 18) z (sJL z 10 3 (W.2.1.2.1.2.1 ^^^ stS p q)) := Off_sJL (Off_refl _ _) (by omega) _ _
          have hsq : SQ (gSt (sJL z 10 3 (W.2.1.2.1.2.1 ^^^ stS p q)) 10) (stO W.2.1.2.1 (W.2.1.2.1.2.1 ^^^ stS p q)) := ⟨k3.2.2.2.2.1.2.2.1.1, by
            show (if 10 = 10 ∧ 3 = 3 then W.2.1.2.1.2.1 ^^^ stS p q else z.2.1 10 3) = W.2.1.2.1.2.1 ^^^ stS p q
            rw [if_pos ⟨rfl, rfl⟩], k3.2.2.2.2.1.2.2.1.2.2⟩
          refine ⟨sh, sJL z 10 3 (W.2.1.2.1.2.1 ^^^ stS p q), cI_of ?_, XI_st k3 off hsq, OffM_of (Off_trans (Off_mono k2 (E := fun o => 10 ≤ o ∧ o < 188) (fun o q => by omega)) (Off_mono off (fun o q => by omega))) (fun o ho => by omega), Gr_refl _⟩
          show RS (ZZ L xs) (d + 60) mX12_shut 0 [some (.ref 0), some (.int (nI p)), some (.int (nI q)), none, none] [] _ = _
          rw [bX12_shut_0, WM_is hW, some_bind', i_isPlace _ hx hv, some_bind', if_neg (z1 ha), WM_is hW, some_bind', i_isPlace _ hx hv, some_bind', if_pos (z1 hb), i_street _ (by omega) (by omega), some_bind']
          have e0 : y.2.1 t 4 = W.2.1.1.1.2.1 := by rw [← t3]; rfl
          have e1 : z.2.1 10 3 = W.2.1.2.1.2.1 := Xop (W := setN W (actC W.2.1 W.2.1.2.1)) k3
          have e2 : (sJL z 10 3 (W.2.1.2.1.2.1 ^^^ stS p q)).2.1 10 3 = W.2.1.2.1.2.1 ^^^ stS p q := hsq.2.1
          simp (disch := omega) only [WM_tape hW, WM_townReader hW, WM_ruleReader hW, WM_rules hW, WM_ruleCount hW, WM_now hW, WM_images hW, WM_clock hW, WM_outlook hW, WM_history hW, WMw_ruleCount hW, WMw_blankRule hW, WM_is hW, Sc_state hS, Sc_past hS, Sc_force hS, Sc_x hS, Sc_notes hS, Sc_noteHour hS, Sc_noteStranger hS, Sc_notePerson hS, Scw_town hS, Scw_force hS, Scw_x hS, Scw_notes hS, Sc_is hS, Sce_noteHour hS, Sce_noteStranger hS, Sce_notePerson hS, Scu_noteHour hS, Scu_noteStranger hS, Scu_notePerson hS, St_hour hB, St_chain hB, St_come hB, St_open hB, St_place hB, St_kind hB, St_asked hB, St_total hB, St_chains hB, St_at hB, St_before hB, Stw_hour hB, Stw_chain hB, Stw_come hB, Stw_open hB, St_is hB, Ste_place hB, Ste_kind hB, Ste_asked hB, Ste_total hB, Ste_chains hB, Ste_at hB, Ste_before hB, Stu_place hB, Stu_kind hB, Stu_asked hB, Stu_total hB, Stu_chains hB, Stu_at hB, Stu_before hB, Pa_size hP, Pa_next hP, Pa_kept hP, Paw_size hP, Paw_next hP, Pa_is hP, To_places t1, To_term t1, To_people t1, To_strangers t1, To_streets t1, To_wrong t1, To_place t1, To_kind t1, To_from t1, To_to t1, To_every t1, Tow_places t1, Tow_term t1, Tow_people t1, Tow_strangers t1, Tow_streets t1, Tow_wrong t1, To_is t1, Toe_place t1, Toe_kind t1, Toe_from t1, Toe_to t1, Toe_every t1, Tou_place t1, Tou_kind t1, Tou_from t1, Tou_to t1, Tou_every t1, some_bind', k1, t4, e0]
          rw [if_pos (lg_ne0.mpr (fun z => by
            rw [hr _ hVs, he] at z
            cases z))]
          simp (disch := omega) only [WM_tape hW, WM_townReader hW, WM_ruleReader hW, WM_rules hW, WM_ruleCount hW, WM_now hW, WM_images hW, WM_clock hW, WM_outlook hW, WM_history hW, WMw_ruleCount hW, WMw_blankRule hW, WM_is hW, Sc_state hS, Sc_past hS, Sc_force hS, Sc_x hS, Sc_notes hS, Sc_noteHour hS, Sc_noteStranger hS, Sc_notePerson hS, Scw_town hS, Scw_force hS, Scw_x hS, Scw_notes hS, Sc_is hS, Sce_noteHour hS, Sce_noteStranger hS, Sce_notePerson hS, Scu_noteHour hS, Scu_noteStranger hS, Scu_notePerson hS, St_hour hB, St_chain hB, St_come hB, St_open hB, St_place hB, St_kind hB, St_asked hB, St_total hB, St_chains hB, St_at hB, St_before hB, Stw_hour hB, Stw_chain hB, Stw_come hB, Stw_open hB, St_is hB, Ste_place hB, Ste_kind hB, Ste_asked hB, Ste_total hB, Ste_chains hB, Ste_at hB, Ste_before hB, Stu_place hB, Stu_kind hB, Stu_asked hB, Stu_total hB, Stu_chains hB, Stu_at hB, Stu_before hB, Pa_size hP, Pa_next hP, Pa_kept hP, Paw_size hP, Paw_next hP, Pa_is hP, To_places t1, To_term t1, To_people t1, To_strangers t1, To_streets t1, To_wrong t1, To_place t1, To_kind t1, To_from t1, To_to t1, To_every t1, Tow_places t1, Tow_term t1, Tow_people t1, Tow_strangers t1, Tow_streets t1, Tow_wrong t1, To_is t1, Toe_place t1, Toe_kind t1, Toe_from t1, Toe_to t1, Toe_every t1, Tou_place t1, Tou_kind t1, Tou_from t1, Tou_to t1, Tou_every t1, some_bind', e1, e2]
          by_cases h9 : aj (W.2.1.2.1.2.1 ^^^ stS p q) p q = true
          · rw [if_pos h9, if_pos (lg_ne0.mpr (fun z => by
              rw [hr _ (VO_xor hv.2.1.1.2.1.1.1 hp hq), h9] at z
              cases z)), bX12_shut_98]
          · rw [if_neg h9, if_neg (fun z => lg_ne0.mp z ((hr _ (VO_xor hv.2.1.1.2.1.1.1 hp hq)).mpr (by simpa using h9))), bX12_shut_98]
        · obtain ⟨m1, k1, k2, k3, k4⟩ := M_keeps (x := x) (d + 55) hM hi hv
          obtain ⟨v1, ⟨⟨v2, v3, v4⟩, h, v5, v6, v7⟩, -⟩ := id hv.2.1.1
          have hO1 : MOp m1 W.2.1.2.1.2.1 := fun i hi2 => by rw [k2 8 (by decide)]; exact hi.2.1.2.1.1 i hi2
          obtain ⟨m2, s1, s2, s3, s4⟩ := v_shuts (L := L) (xs := xs) (x := x) (d + 58) hM hO1 (show p < 8 by omega) (show q < 8 by omega) hne
          have hD2 : Mdy m2 W.2.1.1.2.2.1 W.2.1.1.2.2.2 W.2.1.2.1 := Mdy_q (m := m) (fun i _ _ => by rw [s3 0 (by decide), k2 0 (by decide)]) (fun a h1 h2 i _ => by rw [s3 a (by omega), k2 a (by omega)]) h6 h5 hi.2.1.2.1.2
          refine ⟨m2, cI_of ?_, MI_act hv hi k2 k3 k4 s2 (fun b hb _ => s3 b (by omega)) (fun k _ => by rw [s3 0 (by decide)]) s4 hD2, VW_now hv (VC_act hv.2.1.1 ⟨⟨VO_xor v2 hp hq, v3, v4⟩, h, v5, v6, VB_cong v7 rfl rfl⟩) hv.2.1.2⟩
          show RS (ZZ L xs) (d + 60) mX13_shut 0 [some (.ref 259), some (.int (nI p)), some (.int (nI q))] [] _ = _
          rw [bX13_shut_0, M_is hM, some_bind', i_placeM _ hM hi hv, some_bind', if_neg (z1 ha), M_is hM, some_bind', i_placeM _ hM hi hv, some_bind', if_neg (z1 hb), M_toldStreets hM, some_bind', Me_toldStreets hM (by omega), some_bind', hi.2.1.1.2.2 p (by omega), i_has _ _ (by omega), some_bind', if_pos (fun z => b01_0.mp z (hbt.trans he)), M_is hM, some_bind', k1, some_bind', M_is hM, some_bind', s1, some_bind', M_open hM, some_bind', Me_open hM (by omega), some_bind', s4 p (by omega), i_has _ _ (by omega), some_bind']
          have e3 : bt (nb (W.2.1.2.1.2.1 ^^^ stS p q) (nI p)) q = aj (W.2.1.2.1.2.1 ^^^ stS p q) p q := by
            rw [bt_nb _ (by omega) (by omega), decide_eq_true (show q < 8 by omega), Bool.true_and]
          rw [e3]
          by_cases h9 : aj (W.2.1.2.1.2.1 ^^^ stS p q) p q = true
          · rw [if_pos h9, if_neg (fun z => b01_0.mp z h9), bX13_shut_59]
          · rw [if_neg h9, if_pos (b01_0.mpr h9), bX13_shut_59]
      · refine ⟨W, -1, Xsame fun sh y d hx => ?_, Msame hv fun sh x m d hM hi => ?_⟩
        · have hS : isSc sh 3 := hx.1.1.2.2.1
          have hW : isWM sh 0 := hx.1.1.1
          obtain ⟨t, t1, -, t3, -, t4⟩ := X_town hx
          show RS (ZZ L xs) (d + 60) mX12_shut 0 [some (.ref 0), some (.int (nI p)), some (.int (nI q)), none, none] [] _ = _
          have e0 : y.2.1 t 4 = W.2.1.1.1.2.1 := by rw [← t3]; rfl
          have hz : W.2.1.1.1.2.1 &&& stS p q = 0 := by
            by_cases hne : p = q
            · unfold stS
              rw [if_pos hne]
              apply aj_ext
              intro i j _ _
              rw [aj_and, aj_0, Bool.and_false]
            · exact (and_st hVs.2.1 (by omega) (by omega) hne).mpr (by simpa using he)
          rw [bX12_shut_0, WM_is hW, some_bind', i_isPlace _ hx hv, some_bind', if_neg (z1 ha), WM_is hW, some_bind', i_isPlace _ hx hv, some_bind', if_pos (z1 hb), i_street _ (by omega) (by omega), some_bind', WM_now hW, some_bind', t4, some_bind', To_streets t1, some_bind', e0, if_neg (fun z => lg_ne0.mp z hz)]
        · show RS (ZZ L xs) (d + 60) mX13_shut 0 [some (.ref 259), some (.int (nI p)), some (.int (nI q))] [] _ = _
          rw [bX13_shut_0, M_is hM, some_bind', i_placeM _ hM hi hv, some_bind', if_neg (z1 ha), M_is hM, some_bind', i_placeM _ hM hi hv, some_bind', if_neg (z1 hb), M_toldStreets hM, some_bind', Me_toldStreets hM (by omega), some_bind', hi.2.1.1.2.2 p (by omega), i_has _ _ (by omega), some_bind', if_neg (fun z => z (b01_0.mpr (by rw [hbt]; exact he))), bX13_shut_29]
    · refine ⟨W, -1, Xsame fun sh y d hx => ?_, Msame hv fun sh x m d hM hi => ?_⟩
      · show RS (ZZ L xs) (d + 60) mX12_shut 0 [some (.ref 0), some (.int (nI p)), some (.int b), none, none] [] _ = _
        rw [bX12_shut_0, WM_is hx.1.1.1, some_bind', i_isPlace _ hx hv, some_bind', if_neg (z1 ha), WM_is hx.1.1.1, some_bind', i_isPlace _ hx hv, some_bind', if_neg (fun z => z (z0 hb)), bX12_shut_16]
      · show RS (ZZ L xs) (d + 60) mX13_shut 0 [some (.ref 259), some (.int (nI p)), some (.int b)] [] _ = _
        rw [bX13_shut_0, M_is hM, some_bind', i_placeM _ hM hi hv, some_bind', if_neg (z1 ha), M_is hM, some_bind', i_placeM _ hM hi hv, some_bind', if_pos (z0 hb), bX13_shut_29]
  · refine ⟨W, -1, Xsame fun sh y d hx => ?_, Msame hv fun sh x m d hM hi => ?_⟩
    · show RS (ZZ L xs) (d + 60) mX12_shut 0 [some (.ref 0), some (.int a), some (.int b), none, none] [] _ = _
      rw [bX12_shut_0, WM_is hx.1.1.1, some_bind', i_isPlace _ hx hv, some_bind', if_pos (z0 ha), bX12_shut_16]
    · show RS (ZZ L xs) (d + 60) mX13_shut 0 [some (.ref 259), some (.int a), some (.int b)] [] _ = _
      rw [bX13_shut_0, M_is hM, some_bind', i_placeM _ hM hi hv, some_bind', if_pos (z0 ha), bX13_shut_29]
end ACTS2
