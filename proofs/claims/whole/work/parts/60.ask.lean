/-! ahead, mayor, pitch, smile, way, came -/
section ASK
variable {L : Nat} {xs : Nat → Int32} {W : WD}
theorem pl_of_np (hv : VW W) {q : Nat} (hq : q < W.2.1.1.2.2.1) : 0 < W.2.1.1.2.1 := by
  rcases Nat.eq_zero_or_pos W.2.1.1.2.1 with h | h
  · have := (hv.2.1.1.1.2.2.1 h).1
    omega
  · exact h
theorem pl_of_ns (hv : VW W) {q : Nat} (hq : q < W.2.1.1.2.2.2) : 0 < W.2.1.1.2.1 := by
  rcases Nat.eq_zero_or_pos W.2.1.1.2.1 with h | h
  · have := (hv.2.1.1.1.2.2.1 h).2
    omega
  · exact h
theorem Sp_ahead (hv : VW W) (a b c : Int32) : Step L xs W mX12_ahead mX13_ahead [.int a, .int b, .int c] := by
  have h5 : W.2.1.1.2.2.2 ≤ 5 := hv.2.1.1.1.1.2.2.2
  have h6 : W.2.1.1.2.2.1 ≤ 6 := hv.2.1.1.1.1.2.1
  have h8 : W.2.1.1.2.1 ≤ 8 := hv.2.1.1.1.2.2.2.2.1.1
  have hb : trq 206 := Or.inl rfl
  -- the number fits
  have X0 : ∀ (sh : List Sh) (y : ST) (d : Nat), XI L xs sh y W → RS (ZZ L xs) (d + 60) mX12_ahead 0 [some (.ref 0), some (.int a), some (.int b), some (.int c), none, none] [] (HP sh y) = RS (ZZ L xs) (d + 60) mX12_ahead 30 [some (.ref 0), some (.int a), some (.int b), some (.int c), none, none] [.int (if c = 0 then z01 (iN W.2.1.1.2.2.1 a) else if c = 1 then z01 (iN W.2.1.1.2.2.2 a) else 1)] (HP sh y) := fun sh y d hx => by
    rw [bX12_ahead_0]
    by_cases c0 : c = 0
    · rw [if_neg (fun z => z c0), if_pos c0, WM_is hx.1.1.1, some_bind', i_isPerson _ hx hv, some_bind']
    · rw [if_pos c0, if_neg c0]
      by_cases c1 : c = 1
      · rw [if_neg (fun z => z c1), if_pos c1, WM_is hx.1.1.1, some_bind', i_isStranger _ hx hv, some_bind']
        by_cases hs : iN W.2.1.1.2.2.2 a = true
        · rw [if_neg (z1 hs), bX12_ahead_25, hs]
          rfl
        · rw [if_pos (z0 hs), z0 hs]
      · rw [if_pos c1, if_neg c1, bX12_ahead_25]
  have M0 : ∀ (sh : List Sh) (x : ST) (m : MM) (d : Nat), isMo sh → MI L xs m W → RS (ZZ L xs) (d + 60) mX13_ahead 0 [some (.ref 259), some (.int a), some (.int b), some (.int c), none, none] [] (HP sh (pM x m)) = RS (ZZ L xs) (d + 60) mX13_ahead 44 [some (.ref 259), some (.int a), some (.int b), some (.int c), none, none] [.int (if c = 0 then z01 (iN W.2.1.1.2.2.1 a) else if c = 1 then z01 (iN W.2.1.1.2.2.2 a) else z01 (wiB 2 3 c))] (HP sh (pM x m)) := fun sh x m d hM hi => by
    rw [bX13_ahead_0]
    by_cases c0 : c = 0
    · have hw : wiB 2 3 c = false := by rw [c0]; rfl
      rw [if_neg (fun z => z c0), if_pos c0, M_is hM, some_bind', i_personM _ hM hi hv, some_bind']
      by_cases hs : iN W.2.1.1.2.2.1 a = true
      · rw [if_pos (z1 hs), bX13_ahead_39, hs]
        rfl
      · rw [if_neg (fun z => z (z0 hs)), bX13_ahead_12, if_pos (by rw [c0]; decide), bX13_ahead_25, i_inM _ (show (2 : Int64) = (2 : Int32).toInt64 from rfl) (show (3 : Int64) = (3 : Int32).toInt64 from rfl), some_bind', if_pos (z0 (by rw [hw]; exact Bool.false_ne_true)), z0 hs]
    · rw [if_pos c0, if_neg c0, bX13_ahead_12]
      by_cases c1 : c = 1
      · have hw : wiB 2 3 c = false := by rw [c1]; rfl
        rw [if_neg (fun z => z c1), if_pos c1, M_is hM, some_bind', i_strangerM _ hM hi hv, some_bind']
        by_cases hs : iN W.2.1.1.2.2.2 a = true
        · rw [if_pos (z1 hs), bX13_ahead_39, hs]
          rfl
        · rw [if_neg (fun z => z (z0 hs)), bX13_ahead_25, i_inM _ (show (2 : Int64) = (2 : Int32).toInt64 from rfl) (show (3 : Int64) = (3 : Int32).toInt64 from rfl), some_bind', if_pos (z0 (by rw [hw]; exact Bool.false_ne_true)), z0 hs]
      · rw [if_pos c1, if_neg c1, bX13_ahead_25, i_inM _ (show (2 : Int64) = (2 : Int32).toInt64 from rfl) (show (3 : Int64) = (3 : Int32).toInt64 from rfl), some_bind']
        by_cases hs : wiB 2 3 c = true
        · rw [if_neg (z1 hs), bX13_ahead_39, hs]
          rfl
        · rw [if_pos (z0 hs), z0 hs]
  have hcc : wiB 0 3 c = true → c = 0 ∨ c = 1 ∨ c = 2 ∨ c = 3 := fun h => by
    obtain ⟨j, -, hj, rfl⟩ := wiB_ex (lo := 0) (hi := 3) rfl rfl (by decide) (by decide) h
    match j, hj with
    | 0, _ => exact Or.inl rfl
    | 1, _ => exact Or.inr (Or.inl rfl)
    | 2, _ => exact Or.inr (Or.inr (Or.inl rfl))
    | 3, _ => exact Or.inr (Or.inr (Or.inr rfl))
  by_cases hok : 0 < W.2.1.1.2.1 ∧ wiB 0 100 b = true ∧ wiB 0 3 c = true ∧ (c = 0 → iN W.2.1.1.2.2.1 a = true) ∧ (c = 1 → iN W.2.1.1.2.2.2 a = true)
  · obtain ⟨hp, hwb, hwc, ha0, ha1⟩ := hok
    have hVT := hv.2.1.1.1.2.2.2.1 hp
    obtain ⟨n, -, hn, rfl⟩ := wiB_ex (lo := 0) (hi := 100) rfl rfl (by decide) (by decide) hwb
    have ht0 : (if c = 0 then z01 (iN W.2.1.1.2.2.1 a) else if c = 1 then z01 (iN W.2.1.1.2.2.2 a) else 1) = 1 := by
      by_cases c0 : c = 0
      · rw [if_pos c0, ha0 c0]
        rfl
      · rw [if_neg c0]
        by_cases c1 : c = 1
        · rw [if_pos c1, ha1 c1]
          rfl
        · rw [if_neg c1]
    have ht1 : (if c = 0 then z01 (iN W.2.1.1.2.2.1 a) else if c = 1 then z01 (iN W.2.1.1.2.2.2 a) else z01 (wiB 2 3 c)) = 1 := by
      by_cases c0 : c = 0
      · rw [if_pos c0, ha0 c0]
        rfl
      · rw [if_neg c0]
        by_cases c1 : c = 1
        · rw [if_pos c1, ha1 c1]
          rfl
        · rw [if_neg c1]
          rcases hcc hwc with rfl | rfl | rfl | rfl
          · exact absurd rfl c0
          · exact absurd rfl c1
          · rfl
          · rfl
    refine ⟨W, if c = 0 then (woR W n W.2.1.2.1).2.2 3 a.toNatClampNeg else if c = 1 then (woR W n W.2.1.2.1).2.2 5 a.toNatClampNeg else if c = 2 then (woR W n W.2.1.2.1).1.2.2 else (woR W n W.2.1.2.1).1.2.1, Xask fun sh y d hx => ?_, Mask hv fun sh x m d hM hi => ?_⟩
    · have hS : isSc sh 3 := hx.1.1.2.2.1
      have hW : isWM sh 0 := hx.1.1.1
      have hC : isCk sh 183 := hx.1.1.2.2.2
      have hO : isOl sh 205 := hx.1.2.2.1
      have hB : isSt sh 206 := hO.2.1
      obtain ⟨u, u1, u2, u3⟩ := Q_wind (L := L) (xs := xs) (d + 57) hv hx 206
      obtain ⟨v, v1, v2, v3⟩ := Q_now (L := L) (xs := xs) (d + 57) hb u3
      obtain ⟨w, w1, w2, w3⟩ := Q_run (L := L) (xs := xs) (d + 53) hv hb v3 n (by omega)
      have hoff : Off Dq y w := Off_trans (Off_trans (Off_mono u2 (fun o q => by unfold Dq; omega)) (Off_mono v2 (fun o q => Dt_q hb (Or.inl q)))) (Off_mono w2 (fun o q => Dt_q hb q))
      have haf : cR (ZZ L xs) (d + 59) mX2_after [.ref 205, .int (nI n)] (HP sh u) = some (HP sh w, .ref 206) := by
        refine cR_of rfl ?_
        show RS (ZZ L xs) (d + 59) mX2_after 0 [some (.ref 205), some (.int (nI n))] [] _ = _
        rw [bX2_after_0]
        simp only [Ol_now hO, Ol_clock hO, Ol_trial hO, Ol_turns hO, Ol_gainOfOne hO, Ol_gainOfOther hO, Ol_one hO, Ol_other hO, Ol_turnCount hO, Ol_firstMove hO, Ol_x hO, Olw_one hO, Olw_other hO, Olw_turnCount hO, Olw_firstMove hO, Olw_x hO, Ol_is hO, Ole_gainOfOne hO, Ole_gainOfOther hO, Olu_gainOfOne hO, Olu_gainOfOther hO, Sc_state hS, Sc_past hS, Sc_force hS, Sc_x hS, Sc_notes hS, Sc_noteHour hS, Sc_noteStranger hS, Sc_notePerson hS, Scw_town hS, Scw_force hS, Scw_x hS, Scw_notes hS, Sc_is hS, Sce_noteHour hS, Sce_noteStranger hS, Sce_notePerson hS, Scu_noteHour hS, Scu_noteStranger hS, Scu_notePerson hS, WM_tape hW, WM_townReader hW, WM_ruleReader hW, WM_rules hW, WM_ruleCount hW, WM_now hW, WM_images hW, WM_clock hW, WM_outlook hW, WM_history hW, WMw_ruleCount hW, WMw_blankRule hW, WM_is hW, St_is hB, Ck_is hC, some_bind', v1, w1]
      obtain ⟨i0, i1, i2⟩ := Q_int w3
      refine ⟨w, ?_, w3.1, hoff⟩
      show RS (ZZ L xs) (d + 60) mX12_ahead 0 [some (.ref 0), some (.int a), some (.int (nI n)), some (.int c), none, none] [] _ = _
      rw [X0 sh y d hx, ht0, bX12_ahead_30, WM_is hW, some_bind', i_hasTown _ hx hv, some_bind', if_neg (z1 (decide_eq_true hp)), i_within, some_bind', if_neg (z1 hwb), i_within, some_bind', if_neg (z1 hwc), if_pos (by decide), WM_is hW, some_bind', u1, some_bind', WM_outlook hW, some_bind', Ol_is hO, some_bind', haf, some_bind']
      rcases hcc hwc with rfl | rfl | rfl | rfl
      · obtain ⟨q, hq, rfl⟩ := iN_ex (by omega) (ha0 rfl)
        rw [if_pos rfl, if_pos rfl, bX12_ahead_108 (hv5 := rfl), St_total hB, some_bind', Ste_total hB _ (by omega), some_bind', nI_clamp (by omega), Q_row w3 (j := 3) (by decide) (show q < 6 by omega)]
        rfl
      · obtain ⟨q, hq, rfl⟩ := iN_ex (by omega) (ha1 rfl)
        rw [if_neg (by decide), if_pos rfl, if_neg (by decide), if_pos rfl, bX12_ahead_116 (hv5 := rfl), St_at hB, some_bind', Ste_at hB _ (by omega), some_bind', nI_clamp (by omega), Q_row w3 (j := 5) (by decide) (show q < 5 by omega)]
        rfl
      · rw [if_neg (by decide), if_neg (by decide), if_pos rfl, if_neg (by decide), if_neg (by decide), if_pos rfl, bX12_ahead_124 (hv5 := rfl), St_come hB, some_bind', i2]
        rfl
      · rw [if_neg (by decide), if_neg (by decide), if_neg (by decide), if_neg (by decide), if_neg (by decide), if_neg (by decide), bX12_ahead_130 (hv5 := rfl), St_chain hB, some_bind', i1]
        rfl
    · obtain ⟨m1, k1, k2, k3⟩ := Q_keep (L := L) (xs := xs) (x := x) (d + 56) hM hv hi
      obtain ⟨m2, g1, g2, g3⟩ := Q_goFor (L := L) (xs := xs) (x := x) (d + 51) hM hVT k3 n (by omega)
      obtain ⟨m3, l1, l2, l3, l4⟩ := Q_lay (L := L) (xs := xs) (x := x) (d + 56) hM hv hi g3.1
      have hD := g3.2.2.2.1
      refine ⟨m3, ?_, l2⟩
      have ht := i_isTownM (L := L) (xs := xs) (x := x) (d + 58) hM hi.2.1.1.1.1 h8
      rw [if_pos hp] at ht
      show RS (ZZ L xs) (d + 60) mX13_ahead 0 [some (.ref 259), some (.int a), some (.int (nI n)), some (.int c), none, none] [] _ = _
      rw [M0 sh x m d hM hi, ht1, bX13_ahead_44, M_is hM, some_bind', ht, some_bind', if_neg (show ¬ (1 : Int32) = 0 by decide), if_neg (show ¬ (1 : Int32) = 0 by decide), i_inM _ (show (0 : Int64) = (0 : Int32).toInt64 from rfl) (show (100 : Int64) = (100 : Int32).toInt64 from rfl), some_bind', if_pos (z1 hwb), M_is hM, some_bind', k1, some_bind', M_is hM, some_bind', g1, some_bind']
      rcases hcc hwc with rfl | rfl | rfl | rfl
      · obtain ⟨q, hq, rfl⟩ := iN_ex (by omega) (ha0 rfl)
        rw [if_neg (fun z => z rfl), if_pos rfl, M_askedAll hM, some_bind', Me_askedAll hM (by omega), some_bind', bX13_ahead_130, M_is hM, some_bind', l1, some_bind', nI_clamp (by omega), Md_all hD hq]
        rfl
      · obtain ⟨q, hq, rfl⟩ := iN_ex (by omega) (ha1 rfl)
        rw [if_pos (by decide), if_neg (fun z => z rfl), if_neg (by decide), if_pos rfl, M_where hM, some_bind', Me_where hM (by omega), some_bind', bX13_ahead_130, M_is hM, some_bind', l1, some_bind', nI_clamp (by omega), Md_where hD hq]
        rfl
      · rw [if_pos (by decide), if_pos (by decide), if_neg (fun z => z rfl), if_neg (by decide), if_neg (by decide), if_pos rfl, M_scalar hM, some_bind', eI_l6, Me_scalar hM (by decide), some_bind', bX13_ahead_130, M_is hM, some_bind', l1, some_bind', hD.2.2.1]
        rfl
      · rw [if_pos (by decide), if_pos (by decide), if_pos (by decide), if_neg (by decide), if_neg (by decide), if_neg (by decide), M_scalar hM, some_bind', eI_l5, Me_scalar hM (by decide), some_bind', bX13_ahead_130, M_is hM, some_bind', l1, some_bind', hD.2.1]
        rfl
  · refine ⟨W, -2, Xsame fun sh y d hx => ?_, Msame hv fun sh x m d hM hi => ?_⟩
    · show RS (ZZ L xs) (d + 60) mX12_ahead 0 [some (.ref 0), some (.int a), some (.int b), some (.int c), none, none] [] _ = _
      rw [X0 sh y d hx, bX12_ahead_30, WM_is hx.1.1.1, some_bind', i_hasTown _ hx hv, some_bind']
      by_cases hp : 0 < W.2.1.1.2.1
      · rw [if_neg (z1 (decide_eq_true hp)), i_within, some_bind']
        by_cases hwb : wiB 0 100 b = true
        · rw [if_neg (z1 hwb), i_within, some_bind']
          by_cases hwc : wiB 0 3 c = true
          · rw [if_neg (z1 hwc), if_neg, bX12_ahead_63]
            intro hz
            refine hok ⟨hp, hwb, hwc, fun c0 => ?_, fun c1 => ?_⟩
            · rw [if_pos c0] at hz
              cases q : iN W.2.1.1.2.2.1 a with
              | true => rfl
              | false => rw [q] at hz; exact absurd rfl hz
            · rw [if_neg (by rw [c1]; decide), if_pos c1] at hz
              cases q : iN W.2.1.1.2.2.2 a with
              | true => rfl
              | false => rw [q] at hz; exact absurd rfl hz
          · rw [if_pos (z0 hwc), bX12_ahead_63]
        · rw [if_pos (z0 hwb), bX12_ahead_63]
      · rw [if_pos (z0 (by rw [decide_eq_true_iff]; exact hp)), bX12_ahead_63]
    · have ht := i_isTownM (L := L) (xs := xs) (x := x) (d + 58) hM hi.2.1.1.1.1 h8
      show RS (ZZ L xs) (d + 60) mX13_ahead 0 [some (.ref 259), some (.int a), some (.int b), some (.int c), none, none] [] _ = _
      rw [M0 sh x m d hM hi, bX13_ahead_44, M_is hM, some_bind', ht, some_bind']
      by_cases hp : 0 < W.2.1.1.2.1
      · rw [if_pos hp, if_neg (show ¬ (1 : Int32) = 0 by decide)]
        by_cases hz : (if c = 0 then z01 (iN W.2.1.1.2.2.1 a) else if c = 1 then z01 (iN W.2.1.1.2.2.2 a) else z01 (wiB 2 3 c)) = 0
        · rw [if_pos hz, bX13_ahead_70]
        · rw [if_neg hz, i_inM _ (show (0 : Int64) = (0 : Int32).toInt64 from rfl) (show (100 : Int64) = (100 : Int32).toInt64 from rfl), some_bind']
          by_cases hwb : wiB 0 100 b = true
          · refine absurd ⟨hp, hwb, ?_, fun c0 => ?_, fun c1 => ?_⟩ hok
            · by_cases c0 : c = 0
              · rw [c0]; rfl
              · by_cases c1 : c = 1
                · rw [c1]; rfl
                · rw [if_neg c0, if_neg c1] at hz
                  have : wiB 2 3 c = true := by
                    cases q : wiB 2 3 c with
                    | true => rfl
                    | false => rw [q] at hz; exact absurd rfl hz
                  obtain ⟨j, j2, j3, rfl⟩ := wiB_ex (lo := 2) (hi := 3) rfl rfl (by decide) (by decide) this
                  have : j = 2 ∨ j = 3 := by omega
                  rcases this with rfl | rfl <;> rfl
            · rw [if_pos c0] at hz
              cases q : iN W.2.1.1.2.2.1 a with
              | true => rfl
              | false => rw [q] at hz; exact absurd rfl hz
            · rw [if_neg (by rw [c1]; decide), if_pos c1] at hz
              cases q : iN W.2.1.1.2.2.2 a with
              | true => rfl
              | false => rw [q] at hz; exact absurd rfl hz
          · rw [if_neg (fun z => z (z0 hwb)), bX13_ahead_70]
      · rw [if_neg hp, if_pos rfl, bX13_ahead_70]
end ASK
