/-! hours on a state of the class; hour, undo -/
theorem SQ_KK {x : ST} {b c : Nat} (hd : b + 8 ≤ c ∨ c + 5 ≤ b) (s : SV) (v : CV) : SQ (gSt (KK x b c s v) b) s := by
  refine ⟨?_, K_o s v, fun j hj k _ => ?_⟩
  · show ((KK x b c s v).1 b 0, (KK x b c s v).1 b 1, (KK x b c s v).1 b 2) = _
    rw [K_h, K_c, K_m]
  · show (KK x b c s v).2.2.2.1 (b + 1 + j) k = _
    rw [K_A0 s v _ (by omega), pSt_A _ _ _ _ hj]
theorem gCk_KK (x : ST) (b c : Nat) (s : SV) (v : CV) : gCk (KK x b c s v) c = v := by
  unfold gCk
  rw [K_w, K_far, K_whom, K_words]
/-- places of the states that hours pass on -/
def trl (b : Nat) : Prop := b = 10 ∨ b = 206 ∨ b = 217 ∨ b = 225 ∨ b = 233 ∨ b = 241 ∨ b = 250
section TRIAL
variable {L : Nat} {xs : Nat → Int32} {sh : List Sh} {y : ST} {b t np ns : Nat} {w : TW} {R : Option ((Nat → Int32) → Int64)} {wr : Int32}
theorem trl_HR (hb : trl b) (hB : isSt sh b) (hC : isCk sh 183) (ht : isTo sh t) (h4 : t = 4 ∨ 307 ≤ t) (hw : Wnd L xs sh y t R wr) : HR sh y b 183 t := by
  unfold trl at hb
  exact ⟨hB, hC, ht, hw.1, by omega, by omega, by omega⟩
theorem i_passT (d : Nat) (hb : trl b) (hB : isSt sh b) (hC : isCk sh 183) (ht : isTo sh t) (h4 : t = 4 ∨ 307 ≤ t) (hg : gTo y t = w) (hT : TOK w np ns) (hw : Wnd L xs sh y t R wr) (s : SV) (v : CV) (hv : WOK v) : ∃ v', WOK v' ∧ (∀ k, k < ns → v'.2.2.1 k = hoW R w np ns wr s k) ∧ cI (ZZ L xs) (d + 4) mX0_pass [.ref 183, .ref b] (HP sh (KK y b 183 s v)) = some (HP sh (KK y b 183 (hoS R w np ns wr s) v'), hoN R w np ns wr s) := by
  have hR := RuOK_of hC (b := b) (by unfold trl at hb; omega) hw
  obtain ⟨v', a1, a2, a3⟩ := i_passA (L := L) (xs := xs) d (trl_HR hb hB hC ht h4 hw) hg hR hT s v hv
  rw [hw.2.1] at a2 a3
  obtain ⟨b1, b2, b3⟩ := hour_wh R w np ns wr s v.2.2.1
  rw [b1, b2] at a3
  exact ⟨v', a1, fun k hk => by rw [a2]; exact b3 k hk, a3⟩
theorem v_runT (d : Nat) (hb : trl b) (hB : isSt sh b) (hC : isCk sh 183) (ht : isTo sh t) (h4 : t = 4 ∨ 307 ≤ t) (hg : gTo y t = w) (hT : TOK w np ns) (hw : Wnd L xs sh y t R wr) (n : Nat) (hn : n < 2 ^ 31) (s : SV) (v : CV) (hv : WOK v) : ∃ v', WOK v' ∧ cV (ZZ L xs) (d + 5) mX0_run [.ref 183, .ref b, .int (nI n)] (HP sh (KK y b 183 s v)) = some (HP sh (KK y b 183 (roS R w np ns wr n s) v')) := by
  have hR := RuOK_of hC (b := b) (by unfold trl at hb; omega) hw
  obtain ⟨v', a1, a2, a3⟩ := v_run (L := L) (xs := xs) d (trl_HR hb hB hC ht h4 hw) hg hR hT n hn s v hv
  rw [hw.2.1, run_wh] at a3
  exact ⟨v', a1, a3⟩
/-- a heap as a state and a clock in it -/
theorem HP_as (hb : trl b) (hB : isSt sh b) {s : SV} (hs : SQ (gSt y b) s) : HP sh y = HP sh (KK y b 183 s (gCk y 183)) := by
  have hd : b + 8 ≤ 183 ∨ 183 + 5 ≤ b := by unfold trl at hb; omega
  rw [← HP_KQ (x := y) hd hB (gCk y 183) hs, KK_self y b 183 hd]
theorem Off_trl (y : ST) (b : Nat) (s : SV) (v : CV) : Off (fun o => b ≤ o ∧ o < b + 8 ∨ 184 ≤ o ∧ o < 188) y (KK y b 183 s v) := Off_KK (Off_refl _ _) (by intro o q1 q2; omega) (by intro o q1 q2; omega) s v
end TRIAL
section ACTS3
variable {L : Nat} {xs : Nat → Int32} {W : WD}
theorem VW_push (hv : VW W) : VW (setN W (actC W.2.1 W.2.1.2.1)) := VW_now hv (VC_act hv.2.1.1 hv.2.1.1.2.1) hv.2.1.2
/-- the hour of the world, by the rule in force -/
def woS (W : WD) (s : SV) : SV := hoS (RF W W.2.1.2.2.2.1.1) W.2.1.1.1 W.2.1.1.2.2.1 W.2.1.1.2.2.2 (W.2.1.1.1.1 5) s
def woN (W : WD) (s : SV) : Int32 := hoN (RF W W.2.1.2.2.2.1.1) W.2.1.1.1 W.2.1.1.2.2.1 W.2.1.1.2.2.2 (W.2.1.1.1.1 5) s
def woR (W : WD) (n : Nat) (s : SV) : SV := roS (RF W W.2.1.2.2.2.1.1) W.2.1.1.1 W.2.1.1.2.2.1 W.2.1.1.2.2.2 (W.2.1.1.1.1 5) n s
theorem Sp_hour (hv : VW W) : Step L xs W mX12_hour mX13_hour [] := by
  have h5 : W.2.1.1.2.2.2 ≤ 5 := hv.2.1.1.1.1.2.2.2
  have h6 : W.2.1.1.2.2.1 ≤ 6 := hv.2.1.1.1.1.2.1
  have h8 : W.2.1.1.2.1 ≤ 8 := hv.2.1.1.1.2.2.2.2.1.1
  obtain ⟨hVS, h, hh, hho, hvb⟩ := id hv.2.1.1.2.1
  by_cases hp : 0 < W.2.1.1.2.1
  · have hVT := hv.2.1.1.1.2.2.2.1 hp
    by_cases h9 : h < 999
    · refine ⟨setN W (actC W.2.1 (woS W W.2.1.2.1)), woN W W.2.1.2.1, fun sh y d hx => ?_, fun sh x m d hM hi => ?_⟩
      · have hS : isSc sh 3 := hx.1.1.2.2.1
        have hB : isSt sh 10 := hS.2.2.2.2.1
        have hP : isPa sh 18 := hS.2.2.2.2.2
        have hW : isWM sh 0 := hx.1.1.1
        have hC : isCk sh 183 := hx.1.1.2.2.2
        have hb : trl 10 := Or.inl rfl
        obtain ⟨z, k1, k2, k3⟩ := X_push (L := L) (xs := xs) (d + 57) hx
        obtain ⟨u, t, u1, u2, u3, u4, u5, u6, u7⟩ := v_windClock (L := L) (xs := xs) (d + 57) k3 (VW_push hv)
        have hsq : SQ (gSt u 10) W.2.1.2.1 := u3.2.2.2.2.1.2.2.1
        obtain ⟨v', p1, p2, p3⟩ := i_passT (L := L) (xs := xs) (d + 55) hb hB hC u4 u5 u6 hv.2.1.1.1.1 u7 W.2.1.2.1 (gCk u 183) u3.2.2.1
        rw [← HP_as hb hB hsq] at p3
        have p3 : cI (ZZ L xs) (d + 59) mX0_pass [.ref 183, .ref 10] (HP sh u) = some (HP sh (KK u 10 183 (woS W W.2.1.2.1) v'), woN W W.2.1.2.1) := p3
        have off := Off_trl u 10 (woS W W.2.1.2.1) v'
        have hoffM : OffM y (KK u 10 183 (woS W W.2.1.2.1) v') := Off_trans (Off_trans (Off_mono k2 (fun o q => by omega)) (Off_mono u2 (fun o q => by omega))) (Off_mono off (fun o q => by omega))
        have hxi : XI L xs sh (KK u 10 183 (woS W W.2.1.2.1) v') (setN (setN W (actC W.2.1 W.2.1.2.1)) (W.2.1.1, woS W W.2.1.2.1, (actC W.2.1 W.2.1.2.1).2.2)) := by
          refine XI_a (Off_mono off (fun o q => by unfold Da; omega)) ?_ (XSc_st u3.2.2.2.2.1 (Off_mono off (fun o q => by omega)) (SQ_KK (by decide) _ _)) u3
          rw [gCk_KK]
          exact p1
        refine ⟨sh, KK u 10 183 (woS W W.2.1.2.1) v', cI_of ?_, hxi, hoffM, Gr_refl _⟩
        show RS (ZZ L xs) (d + 60) mX12_hour 0 [some (.ref 0)] [] _ = _
        have e1 : y.1 10 0 = nI h := by
          have := congrArg (fun z => z.1) hx.2.2.2.2.1.2.2.1.1
          exact this.trans hho
        rw [bX12_hour_0, WM_is hW, some_bind', i_hasTown _ hx hv, some_bind', if_neg (z1 (decide_eq_true hp))]
        simp (disch := omega) only [WM_tape hW, WM_townReader hW, WM_ruleReader hW, WM_rules hW, WM_ruleCount hW, WM_now hW, WM_images hW, WM_clock hW, WM_outlook hW, WM_history hW, WMw_ruleCount hW, WMw_blankRule hW, WM_is hW, Sc_state hS, Sc_past hS, Sc_force hS, Sc_x hS, Sc_notes hS, Sc_noteHour hS, Sc_noteStranger hS, Sc_notePerson hS, Scw_town hS, Scw_force hS, Scw_x hS, Scw_notes hS, Sc_is hS, Sce_noteHour hS, Sce_noteStranger hS, Sce_notePerson hS, Scu_noteHour hS, Scu_noteStranger hS, Scu_notePerson hS, St_hour hB, St_chain hB, St_come hB, St_open hB, St_place hB, St_kind hB, St_asked hB, St_total hB, St_chains hB, St_at hB, St_before hB, Stw_hour hB, Stw_chain hB, Stw_come hB, Stw_open hB, St_is hB, Ste_place hB, Ste_kind hB, Ste_asked hB, Ste_total hB, Ste_chains hB, Ste_at hB, Ste_before hB, Stu_place hB, Stu_kind hB, Stu_asked hB, Stu_total hB, Stu_chains hB, Stu_at hB, Stu_before hB, Pa_size hP, Pa_next hP, Pa_kept hP, Paw_size hP, Paw_next hP, Pa_is hP, some_bind', k1, e1]
        rw [if_pos (show nI h < 999 from nI_lt (b := 999) h9 (by decide)), u1]
        simp (disch := omega) only [WM_tape hW, WM_townReader hW, WM_ruleReader hW, WM_rules hW, WM_ruleCount hW, WM_now hW, WM_images hW, WM_clock hW, WM_outlook hW, WM_history hW, WMw_ruleCount hW, WMw_blankRule hW, WM_is hW, Sc_state hS, Sc_past hS, Sc_force hS, Sc_x hS, Sc_notes hS, Sc_noteHour hS, Sc_noteStranger hS, Sc_notePerson hS, Scw_town hS, Scw_force hS, Scw_x hS, Scw_notes hS, Sc_is hS, Sce_noteHour hS, Sce_noteStranger hS, Sce_notePerson hS, Scu_noteHour hS, Scu_noteStranger hS, Scu_notePerson hS, St_hour hB, St_chain hB, St_come hB, St_open hB, St_place hB, St_kind hB, St_asked hB, St_total hB, St_chains hB, St_at hB, St_before hB, Stw_hour hB, Stw_chain hB, Stw_come hB, Stw_open hB, St_is hB, Ste_place hB, Ste_kind hB, Ste_asked hB, Ste_total hB, Ste_chains hB, Ste_at hB, Ste_before hB, Stu_place hB, Stu_kind hB, Stu_asked hB, Stu_total hB, Stu_chains hB, Stu_at hB, Stu_before hB, Pa_size hP, Pa_next hP, Pa_kept hP, Paw_size hP, Paw_next hP, Pa_is hP, some_bind', Ck_is hC, p3]
      · obtain ⟨m1, k1, k2, k3, k4⟩ := M_keeps (x := x) (d + 55) hM hi hv
        have hSt1 : MSt m1 W.2.1.1.1 W.2.1.1.2.1 W.2.1.1.2.2.1 W.2.1.1.2.2.2 (W.2.1.1.1.1 5) := by
          obtain ⟨s1, s2, s3, s4, s5, s6⟩ := hi.2.1.1.1
          exact ⟨by rw [k2 0 (by decide)]; exact s1, by rw [k2 0 (by decide)]; exact s2, by rw [k2 0 (by decide)]; exact s3, by rw [k2 0 (by decide)]; exact s4, by rw [k2 9 (by decide)]; exact s5, by rw [k2 10 (by decide), k2 11 (by decide), k2 12 (by decide)]; exact s6⟩
        have hO1 : MOp m1 W.2.1.2.1.2.1 := fun i hi2 => by rw [k2 8 (by decide)]; exact hi.2.1.2.1.1 i hi2
        have hD1 : Mdy m1 W.2.1.1.2.2.1 W.2.1.1.2.2.2 W.2.1.2.1 := Mdy_q (m := m) (fun i _ _ => by rw [k2 0 (by decide)]) (fun a h1 h2 i _ => by rw [k2 a (by omega)]) h6 h5 hi.2.1.2.1.2
        have hR1 : RuM L xs sh x m1 (RF W W.2.1.2.2.2.1.1) := RuM_of hM hi (by rw [k2 0 (by decide)]; exact hi.2.1.2.2.2.1.1) hv.2.2.2.1 hv.2.1.2 (fun a h1 h2 j _ => by rw [k2 a (by omega)])
        obtain ⟨m2, g1, g2, g3, g4, g5, g6⟩ := i_goesM (L := L) (xs := xs) (x := x) (d + 52) hM hVT hSt1 hO1 hVS hD1 hR1 (fun _ => 0)
        have g2 : Mdy m2 W.2.1.1.2.2.1 W.2.1.1.2.2.2 (woS W W.2.1.2.1) := g2
        have g4 : VS W.2.1.1.2.1 W.2.1.1.2.2.1 W.2.1.1.2.2.2 (woS W W.2.1.2.1) := g4
        have g5 : (woS W W.2.1.2.1).2.1 = W.2.1.2.1.2.1 := g5
        have g6 : cI (ZZ L xs) (d + 59) mX13_goes [.ref 259] (HP sh (pM x m1)) = some (HP sh (pM x m2), woN W W.2.1.2.1) := g6
        obtain ⟨b1, b2, b3⟩ := VB_hoS (R := RF W W.2.1.2.2.2.1.1) (w := W.2.1.1.1) (ns := W.2.1.1.2.2.2) (wr := W.2.1.1.1.1 5) h6 hvb
        refine ⟨m2, cI_of ?_, MI_act hv hi k2 k3 k4 g1.1 (fun b hb h37 => g1.2.1 b (by omega) h37) g1.2.2 (by rw [g5]; exact MOp_fr g1 hO1) g2, VW_now hv (VC_act hv.2.1.1 ⟨g4, h + 1, by omega, ?_, VB_mono b1 (by omega)⟩) hv.2.1.2⟩
        · show RS (ZZ L xs) (d + 60) mX13_hour 0 [some (.ref 259)] [] _ = _
          have ht := i_isTownM (L := L) (xs := xs) (x := x) (d + 58) hM hi.2.1.1.1.1 h8
          rw [if_pos hp] at ht
          rw [bX13_hour_0, M_is hM, some_bind', ht, some_bind', if_neg (show ¬ (1 : Int32) = 0 by decide), M_scalar hM, some_bind', eI_l4, Me_scalar hM (by decide), some_bind', hi.2.1.2.1.2.1, hho, if_pos (fun z => by
            have : nI h = nI 999 := z
            rw [nI_eq (by omega) (by omega)] at this
            omega), M_is hM, some_bind', k1, some_bind', M_is hM, some_bind', g6, some_bind']
        · exact b2.trans (by rw [hho, nI_1])
    · have h9 : h = 999 := by omega
      refine ⟨W, -1, Xsame fun sh y d hx => ?_, Msame hv fun sh x m d hM hi => ?_⟩
      · have hS : isSc sh 3 := hx.1.1.2.2.1
        have hB : isSt sh 10 := hS.2.2.2.2.1
        have e1 : y.1 10 0 = nI h := by
          have := congrArg (fun z => z.1) hx.2.2.2.2.1.2.2.1.1
          exact this.trans hho
        show RS (ZZ L xs) (d + 60) mX12_hour 0 [some (.ref 0)] [] _ = _
        rw [bX12_hour_0, WM_is hx.1.1.1, some_bind', i_hasTown _ hx hv, some_bind', if_neg (z1 (decide_eq_true hp)), WM_now hx.1.1.1, some_bind', Sc_state hS, some_bind', St_hour hB, some_bind', e1, h9, if_neg (by decide), bX12_hour_23]
      · have ht := i_isTownM (L := L) (xs := xs) (x := x) (d + 58) hM hi.2.1.1.1.1 h8
        rw [if_pos hp] at ht
        show RS (ZZ L xs) (d + 60) mX13_hour 0 [some (.ref 259)] [] _ = _
        rw [bX13_hour_0, M_is hM, some_bind', ht, some_bind', if_neg (show ¬ (1 : Int32) = 0 by decide), M_scalar hM, some_bind', eI_l4, Me_scalar hM (by decide), some_bind', hi.2.1.2.1.2.1, hho, h9, if_neg (fun z => z rfl), bX13_hour_19]
  · refine ⟨W, -1, Xsame fun sh y d hx => ?_, Msame hv fun sh x m d hM hi => ?_⟩
    · show RS (ZZ L xs) (d + 60) mX12_hour 0 [some (.ref 0)] [] _ = _
      rw [bX12_hour_0, WM_is hx.1.1.1, some_bind', i_hasTown _ hx hv, some_bind', if_pos (z0 (by rw [decide_eq_true_iff]; exact hp)), bX12_hour_23]
    · have ht := i_isTownM (L := L) (xs := xs) (x := x) (d + 58) hM hi.2.1.1.1.1 h8
      rw [if_neg hp] at ht
      show RS (ZZ L xs) (d + 60) mX13_hour 0 [some (.ref 259)] [] _ = _
      rw [bX13_hour_0, M_is hM, some_bind', ht, some_bind', if_pos rfl, bX13_hour_19]
theorem Sp_undo (hv : VW W) : Step L xs W mX12_undo mX13_undo [] := by
  have h5 : W.2.1.1.2.2.2 ≤ 5 := hv.2.1.1.1.1.2.2.2
  have h6 : W.2.1.1.2.2.1 ≤ 6 := hv.2.1.1.1.1.2.1
  obtain ⟨hk20, hkv⟩ := hv.2.1.1.2.2.1
  by_cases hk : W.2.1.2.2.1.1 = 0
  · refine ⟨W, -2, Xsame fun sh y d hx => ?_, Msame hv fun sh x m d hM hi => ?_⟩
    · have hS : isSc sh 3 := hx.1.1.2.2.1
      show RS (ZZ L xs) (d + 60) mX12_undo 0 [some (.ref 0)] [] _ = _
      rw [bX12_undo_0, WM_now hx.1.1.1, some_bind', Sc_past hS, some_bind', Pa_size hS.2.2.2.2.2, some_bind', hx.2.2.2.2.1.2.2.2.1.2.2.1, hk, if_neg (fun z => z rfl)]
    · show RS (ZZ L xs) (d + 60) mX13_undo 0 [some (.ref 259)] [] _ = _
      rw [bX13_undo_0, M_pastMany hM, some_bind', hi.2.1.2.2.1.1, hk, if_neg (fun z => z rfl)]
  · obtain ⟨k, hk'⟩ : ∃ k, W.2.1.2.2.1.1 = k + 1 := ⟨W.2.1.2.2.1.1 - 1, by omega⟩
    have hne : ¬ nI (k + 1) = 0 := nI_ne0 (by omega) (by omega)
    refine ⟨setN W (W.2.1.1, W.2.1.2.2.1.2 k, (k, W.2.1.2.2.1.2), W.2.1.2.2.2), nI k, fun sh y d hx => ?_, fun sh x m d hM hi => ?_⟩
    · have hS : isSc sh 3 := hx.1.1.2.2.1
      have hB : isSt sh 10 := hS.2.2.2.2.1
      have hP : isPa sh 18 := hS.2.2.2.2.2
      have hW : isWM sh 0 := hx.1.1.1
      obtain ⟨a1, ⟨t, t1, t2, t3, t4⟩, a3, a4, a5, a6, a7, a8⟩ := id hx.2.2.2.2.1
      have a4' : PaOK y 18 (k + 1) W.2.1.2.2.1.2 := by rw [← hk']; exact a4
      obtain ⟨z, k1, k2, k3, k4⟩ := v_pop (L := L) (xs := xs) (d + 57) hP a4' hB (Or.inl (by decide))
      have e := k2 3 (by omega)
      refine ⟨sh, z, cI_of ?_, XI_a (Off_mono k2 (fun o q => by unfold Da; omega)) ?_ ⟨a1, ⟨t, by rw [e.2.2.1]; exact t1, t2, t3, ?_⟩, k4, k3, by rw [e.1]; exact a5, by rw [e.1]; exact a6, by rw [e.1]; exact a7, fun j hj i hi => ?_⟩ hx, OffM_of k2 (fun o ho => by omega), Gr_refl _⟩
      · show RS (ZZ L xs) (d + 60) mX12_undo 0 [some (.ref 0)] [] _ = _
        have e1 : y.1 18 0 = nI (k + 1) := a4'.2.2.1
        have e2 : z.1 18 0 = nI k := k3.2.2.1
        rw [bX12_undo_0]
        simp (disch := omega) only [WM_tape hW, WM_townReader hW, WM_ruleReader hW, WM_rules hW, WM_ruleCount hW, WM_now hW, WM_images hW, WM_clock hW, WM_outlook hW, WM_history hW, WMw_ruleCount hW, WMw_blankRule hW, WM_is hW, Sc_state hS, Sc_past hS, Sc_force hS, Sc_x hS, Sc_notes hS, Sc_noteHour hS, Sc_noteStranger hS, Sc_notePerson hS, Scw_town hS, Scw_force hS, Scw_x hS, Scw_notes hS, Sc_is hS, Sce_noteHour hS, Sce_noteStranger hS, Sce_notePerson hS, Scu_noteHour hS, Scu_noteStranger hS, Scu_notePerson hS, St_hour hB, St_chain hB, St_come hB, St_open hB, St_place hB, St_kind hB, St_asked hB, St_total hB, St_chains hB, St_at hB, St_before hB, Stw_hour hB, Stw_chain hB, Stw_come hB, Stw_open hB, St_is hB, Ste_place hB, Ste_kind hB, Ste_asked hB, Ste_total hB, Ste_chains hB, Ste_at hB, Ste_before hB, Stu_place hB, Stu_kind hB, Stu_asked hB, Stu_total hB, Stu_chains hB, Stu_at hB, Stu_before hB, Pa_size hP, Pa_next hP, Pa_kept hP, Paw_size hP, Paw_next hP, Pa_is hP, some_bind', k1, e1, e2]
        rw [if_pos hne]
      · rw [gCk_off k2 (fun o q1 q2 => by omega)]
        exact hx.2.2.1
      · rw [gTo_off k2 (t := t) (fun o q1 q2 => by omega)]
        exact t4
      · rw [(k2 (3 + 177 + j) (by omega)).2.2.2.1]
        exact a8 j hj i hi
    · have hP := hi.2.1.2.2.1
      rw [hk'] at hP
      obtain ⟨p1, p2, p3, p4, p5⟩ := gts_spec 52 38 RL3 (76 * k) (mI (mI (mI m 51 (nI k)) 52 (nI (76 * k))) 53 1) RL3_ne RL3_nd
      have hmv := v_mvget (L := L) (xs := xs) (x := x) (m := mI m 51 (nI k)) (d + 56) hM (k := k) (by omega)
      have w1 : ∀ j, j ≠ 51 → j ≠ 52 → j ≠ 53 → (mI (mI (mI m 51 (nI k)) 52 (nI (76 * k))) 53 1).1 j = m.1 j := fun j h1 h2 h3 => (mI_ne _ _ h3).trans ((mI_ne _ _ h2).trans (mI_ne _ _ h1))
      have w51 : (mI (mI (mI m 51 (nI k)) 52 (nI (76 * k))) 53 1).1 51 = nI k := rfl
      have w2 : ∀ b, (mI (mI (mI m 51 (nI k)) 52 (nI (76 * k))) 53 1).2.1 b = m.2.1 b := fun _ => rfl
      generalize mI (mI (mI m 51 (nI k)) 52 (nI (76 * k))) 53 1 = m9 at *
      generalize gts 52 38 RL3 (76 * k) m9 = m2 at *
      have n3 : ∀ b, 9 ≤ b → b ∉ (RL3.map fun q => q.1) := fun b hb z => by
        have : ∀ q, q ∈ (RL3.map fun q => q.1) → q < 9 := by decide
        have := this b z
        omega
      have big : ∀ b, 9 ≤ b → m2.2.1 b = m.2.1 b := fun b hb => (p1 b (n3 b hb)).trans (w2 b)
      have row : ∀ a, 1 ≤ a → a ≤ 8 → ∀ i, i < mlen a → m2.2.1 a i = (unP (m.2.1 38) (76 * k)).2.1 a i := fun a h1 h2 i hi => by
        obtain ⟨r1, r2⟩ := RL3_at h1 h2
        have := p5 _ a 0 _ r1 i hi
        rw [Nat.zero_add, w2] at this
        show _ = (if a = 0 then _ else m.2.1 38 (76 * k + imO a - 7 + i))
        rw [if_neg (by omega), show 76 * k + imO a - 7 + i = 76 * k + (imO a - 7) + i by omega]
        exact this
      have sc : ∀ i, 4 ≤ i → i < 7 → m2.2.1 0 i = (unP (m.2.1 38) (76 * k)).2.1 0 i := fun i h1 h2 => by
        have := p5 0 0 4 3 RL3_at0 (i - 4) (by omega)
        rw [show 4 + (i - 4) = i by omega, w2] at this
        exact this
      have sc2 : ∀ i, i < 4 ∨ 7 ≤ i → m2.2.1 0 i = m.2.1 0 i := fun i hi => (p4 (0, 4, 3) (by decide) i hi).trans (by rw [w2])
      have e51 : m2.1 51 = nI k := (p3 51 (by decide)).trans w51
      obtain ⟨g1, g2⟩ := hP.2 k (by omega)
      obtain ⟨v1, v2, ⟨v3, v4⟩, v5, v6⟩ := id hv.2.1.1
      refine ⟨m2, cI_of ?_, MI_now (m := m) ⟨⟨?_, ?_, ?_⟩, fun b i hb _ _ => by rw [big b (by omega)]⟩ hv hi (MSc_dy (m := m) hv.2.1.1 sc2 (fun b hb _ => big b hb) (fun i hi => (row 8 (by decide) (by decide) i hi).trans (g2 i hi)) (Mdy_q sc (fun a h1 h2 i hi => row a h1 (by omega) i hi) h6 h5 g1) ⟨e51, fun i hi => ?_⟩ hi.2.1), VW_now hv ⟨v1, v4 k (by omega), ⟨by show k ≤ 20; omega, fun i hi => v4 i (by have hi : i < k := hi; omega)⟩, v5, v6⟩ hv.2.1.2⟩
      · show RS (ZZ L xs) (d + 60) mX13_undo 0 [some (.ref 259)] [] _ = _
        have q51 : (mI m 51 (nI k)).1 51 = nI k := mI_eq _ _ _
        rw [bX13_undo_0, M_pastMany hM, some_bind', hP.1, if_pos hne, some_bind', nI_pred, Mw_pastMany hM, some_bind', M_pastMany hM, some_bind', q51, M_is hM, some_bind', hmv, some_bind', M_pastMany hM, some_bind', e51]
      · exact (p3 28 (by decide)).trans (w1 28 (by decide) (by decide) (by decide))
      · exact (p3 32 (by decide)).trans (w1 32 (by decide) (by decide) (by decide))
      · exact (p3 37 (by decide)).trans (w1 37 (by decide) (by decide) (by decide))
      · rw [big 38 (by decide)]
        exact hP.2 i (by omega)
end ACTS3
