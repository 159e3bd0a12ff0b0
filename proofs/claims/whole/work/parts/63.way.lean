/-! way -/
section WAY
variable {L : Nat} {xs : Nat → Int32} {W : WD}
def wayV (W : WD) (a b : Nat) (c : Int32) : Int32 := if farS (dst W.2.1.2.1.2.1) (nI a) (nI b) = 99 then -2 else if c = 0 then farS (dst W.2.1.2.1.2.1) (nI a) (nI b) else stepS W.2.1.2.1.2.1 (dst W.2.1.2.1.2.1) (nI a) (nI b)
theorem Sp_way (hv : VW W) (a b c : Int32) : Step L xs W mX12_way mX13_way [.int a, .int b, .int c] := by
  have h5 : W.2.1.1.2.2.2 ≤ 5 := hv.2.1.1.1.1.2.2.2
  have h6 : W.2.1.1.2.2.1 ≤ 6 := hv.2.1.1.1.1.2.1
  have h8 : W.2.1.1.2.1 ≤ 8 := hv.2.1.1.1.2.2.2.2.1.1
  have hb : trq 206 := Or.inl rfl
  by_cases g1 : iN W.2.1.1.2.1 a = true
  rotate_left
  · refine ⟨W, -1, Xsame fun sh y d hx => ?_, Msame hv fun sh x m d hM hi => ?_⟩
    · show RS (ZZ L xs) (d + 60) mX12_way 0 [some (.ref 0), some (.int a), some (.int b), some (.int c), none] [] _ = _
      rw [bX12_way_0, WM_is hx.1.1.1, some_bind', i_isPlace _ hx hv, some_bind', if_pos (z0 g1), bX12_way_25]
    · show RS (ZZ L xs) (d + 60) mX13_way 0 [some (.ref 259), some (.int a), some (.int b), some (.int c), none] [] _ = _
      rw [bX13_way_0, M_is hM, some_bind', i_placeM _ hM hi hv, some_bind', if_pos (z0 g1), bX13_way_26]
  obtain ⟨p, hp, rfl⟩ := iN_ex (by omega) g1
  by_cases g2 : iN W.2.1.1.2.1 b = true
  rotate_left
  · refine ⟨W, -1, Xsame fun sh y d hx => ?_, Msame hv fun sh x m d hM hi => ?_⟩
    · show RS (ZZ L xs) (d + 60) mX12_way 0 [some (.ref 0), some (.int (nI p)), some (.int b), some (.int c), none] [] _ = _
      rw [bX12_way_0, WM_is hx.1.1.1, some_bind', i_isPlace _ hx hv, some_bind', if_neg (z1 g1), WM_is hx.1.1.1, some_bind', i_isPlace _ hx hv, some_bind', if_pos (z0 g2), bX12_way_25]
    · show RS (ZZ L xs) (d + 60) mX13_way 0 [some (.ref 259), some (.int (nI p)), some (.int b), some (.int c), none] [] _ = _
      rw [bX13_way_0, M_is hM, some_bind', i_placeM _ hM hi hv, some_bind', if_neg (z1 g1), M_is hM, some_bind', i_placeM _ hM hi hv, some_bind', if_pos (z0 g2), bX13_way_26]
  obtain ⟨q, hq, rfl⟩ := iN_ex (by omega) g2
  by_cases g3 : wiB 0 1 c = true
  rotate_left
  · refine ⟨W, -1, Xsame fun sh y d hx => ?_, Msame hv fun sh x m d hM hi => ?_⟩
    · show RS (ZZ L xs) (d + 60) mX12_way 0 [some (.ref 0), some (.int (nI p)), some (.int (nI q)), some (.int c), none] [] _ = _
      rw [bX12_way_0, WM_is hx.1.1.1, some_bind', i_isPlace _ hx hv, some_bind', if_neg (z1 g1), WM_is hx.1.1.1, some_bind', i_isPlace _ hx hv, some_bind', if_neg (z1 g2), i_within, some_bind', if_neg (fun z => z (z0 g3)), bX12_way_25]
    · show RS (ZZ L xs) (d + 60) mX13_way 0 [some (.ref 259), some (.int (nI p)), some (.int (nI q)), some (.int c), none] [] _ = _
      rw [bX13_way_0, M_is hM, some_bind', i_placeM _ hM hi hv, some_bind', if_neg (z1 g1), M_is hM, some_bind', i_placeM _ hM hi hv, some_bind', if_neg (z1 g2), i_inM _ (show (0 : Int64) = (0 : Int32).toInt64 from rfl) (show (1 : Int64) = (1 : Int32).toInt64 from rfl), some_bind', if_neg (fun z => z (z0 g3)), bX13_way_26]
  refine ⟨W, wayV W p q c, Xask fun sh y d hx => ?_, Mask hv fun sh x m d hM hi => ?_⟩
  · have hS : isSc sh 3 := hx.1.1.2.2.1
    have hW : isWM sh 0 := hx.1.1.1
    have hC : isCk sh 183 := hx.1.1.2.2.2
    have hN : isSt sh 10 := hS.2.2.2.2.1
    have hsq : SQ (gSt y 10) W.2.1.2.1 := hx.2.2.2.2.1.2.2.1
    have fo := v_follow (L := L) (xs := xs) (x := y) (b := 10) (c := 183) (d + 56) hC (by omega) W.2.1.2.1 (gCk y 183) W.2.1.2.1.2.1
    rw [← HP_as (Or.inl rfl) hN hsq] at fo
    obtain ⟨f1, f2, f3⟩ := folS_ok (l := W.2.1.2.1.2.1) hx.2.2.1
    have hpc : HP sh (KK y 10 183 W.2.1.2.1 (folS W.2.1.2.1.2.1 (gCk y 183))) = HP sh (pCk y 183 (folS W.2.1.2.1.2.1 (gCk y 183))) := by
      rw [← HP_KQ (x := y) (by decide) hN _ hsq]
      unfold KK
      rw [pSt_self]
    rw [hpc] at fo
    have hck : gCk (pCk y 183 (folS W.2.1.2.1.2.1 (gCk y 183))) 183 = folS W.2.1.2.1.2.1 (gCk y 183) := by
      have := gCk_KK y 10 183 (gSt y 10) (folS W.2.1.2.1.2.1 (gCk y 183))
      unfold KK at this
      rw [pSt_self] at this
      exact this
    have off : Off Dq y (pCk y 183 (folS W.2.1.2.1.2.1 (gCk y 183))) := Off_pCk (Off_refl _ _) (fun o q1 q2 => by unfold Dq; omega) _
    have hWy : isWays sh 184 := ⟨hC.2.2.2.1, hC.2.2.2.2⟩
    have hop : y.2.1 10 3 = W.2.1.2.1.2.1 := hsq.2.1
    generalize pCk y 183 (folS W.2.1.2.1.2.1 (gCk y 183)) = z at *
    have e1 : z.2.1 184 0 = W.2.1.2.1.2.1 := (congrArg (fun q => q.1) hck).trans f2
    have e2 : farS (z.2.2.2.1 185) = farS (dst W.2.1.2.1.2.1) := by
      have hw : AQ (gCk z 183).2.1 (dst (gCk z 183).1) := by rw [hck]; exact f1
      rw [show (gCk z 183).1 = W.2.1.2.1.2.1 from e1] at hw
      exact farS_q hw
    refine ⟨z, ?_, XI_q off (by rw [hck]; exact f1) hx, off⟩
    show RS (ZZ L xs) (d + 60) mX12_way 0 [some (.ref 0), some (.int (nI p)), some (.int (nI q)), some (.int c), none] [] _ = _
    rw [bX12_way_0, WM_is hx.1.1.1, some_bind', i_isPlace _ hx hv, some_bind', if_neg (z1 g1), WM_is hx.1.1.1, some_bind', i_isPlace _ hx hv, some_bind', if_neg (z1 g2), i_within, some_bind', if_pos (z1 g3)]
    simp only [Sc_state hS, Sc_past hS, Sc_force hS, Sc_x hS, Sc_notes hS, Sc_noteHour hS, Sc_noteStranger hS, Sc_notePerson hS, Scw_town hS, Scw_force hS, Scw_x hS, Scw_notes hS, Sc_is hS, Sce_noteHour hS, Sce_noteStranger hS, Sce_notePerson hS, Scu_noteHour hS, Scu_noteStranger hS, Scu_notePerson hS, WM_tape hW, WM_townReader hW, WM_ruleReader hW, WM_rules hW, WM_ruleCount hW, WM_now hW, WM_images hW, WM_clock hW, WM_outlook hW, WM_history hW, WMw_ruleCount hW, WMw_blankRule hW, WM_is hW, St_hour hN, St_chain hN, St_come hN, St_open hN, St_place hN, St_kind hN, St_asked hN, St_total hN, St_chains hN, St_at hN, St_before hN, Stw_hour hN, Stw_chain hN, Stw_come hN, Stw_open hN, St_is hN, Ste_place hN, Ste_kind hN, Ste_asked hN, Ste_total hN, Ste_chains hN, Ste_at hN, Ste_before hN, Stu_place hN, Stu_kind hN, Stu_asked hN, Stu_total hN, Stu_chains hN, Stu_at hN, Stu_before hN, Ck_ways hC, Ck_whom hC, Ck_words hC, Ck_wrong hC, Ckw_town hC, Ckw_rule hC, Ckw_wrong hC, Ck_is hC, Cke_whom hC, Cke_words hC, Cku_whom hC, Cku_words hC, some_bind', iO_HP hC.2.2.2.1, hop, fo, i_far _ hWy, i_step _ hWy, e1, e2, stepS_q e2]
    unfold wayV
    by_cases h9 : farS (dst W.2.1.2.1.2.1) (nI p) (nI q) = 99
    · rw [if_neg (fun z => z h9), if_pos h9]
    · rw [if_pos h9, if_neg h9]
      by_cases c0 : c = 0
      · rw [if_neg (fun z => z c0), if_pos c0, bX12_way_92]
      · rw [if_pos c0, if_neg c0, bX12_way_92]
  · have hO := hi.2.1.2.1.1
    have hVO := hv.2.1.1.2.1.1.1
    have hf := i_farM (L := L) (xs := xs) (x := x) (d + 57) hM _ hi.2.1.1.1.1 _ hO hVO (a := p) (b := q) (by omega) (by omega)
    have hs := i_firstM (L := L) (xs := xs) (x := x) (d + 56) hM _ hi.2.1.1.1.1 _ hO hVO (a := p) (b := q) (by omega) (by omega)
    refine ⟨m, ?_, MJ_refl m⟩
    show RS (ZZ L xs) (d + 60) mX13_way 0 [some (.ref 259), some (.int (nI p)), some (.int (nI q)), some (.int c), none] [] _ = _
    rw [bX13_way_0, M_is hM, some_bind', i_placeM _ hM hi hv, some_bind', if_neg (z1 g1), M_is hM, some_bind', i_placeM _ hM hi hv, some_bind', if_neg (z1 g2), i_inM _ (show (0 : Int64) = (0 : Int32).toInt64 from rfl) (show (1 : Int64) = (1 : Int32).toInt64 from rfl), some_bind', if_pos (z1 g3), M_is hM, some_bind', hf, some_bind']
    unfold wayV
    by_cases h9 : farS (dst W.2.1.2.1.2.1) (nI p) (nI q) = 99
    · rw [if_neg (fun z => z h9), if_pos h9, bX13_way_63]
    · rw [if_pos h9, if_neg h9]
      by_cases c0 : c = 0
      · rw [if_neg (fun z => z c0), if_pos c0, bX13_way_63]
      · rw [if_pos c0, if_neg c0, M_is hM, some_bind', hs, some_bind', bX13_way_63]
end WAY
