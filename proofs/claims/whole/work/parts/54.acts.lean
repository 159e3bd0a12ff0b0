/-! acts, on both sides -/
theorem PaOK_sq {x : ST} {b k : Nat} {P P' : Nat → SV} (h : PaOK x b k P) (hq : ∀ i, i < k → SQ (P i) (P' i)) : PaOK x b k P' := by
  obtain ⟨h1, h2, h3, nx, h4, h5, h6⟩ := h
  exact ⟨h1, h2, h3, nx, h4, h5, fun i hi => SQ_trans (h6 i hi) (hq i hi)⟩
theorem pushP_sq {k : Nat} {P : Nat → SV} {s t : SV} (h : SQ s t) : (pushP k P s).1 = (pushP k P t).1 ∧ ∀ i, SQ ((pushP k P s).2 i) ((pushP k P t).2 i) := by
  unfold pushP
  split
  · refine ⟨rfl, fun i => ?_⟩
    show SQ (if i = k then s else P i) (if i = k then t else P i)
    split
    · exact h
    · exact SQ_refl _
  · refine ⟨rfl, fun i => ?_⟩
    show SQ (if i = 19 then s else P (i + 1)) (if i = 19 then t else P (i + 1))
    split
    · exact h
    · exact SQ_refl _
theorem pushP_v {k : Nat} {P : Nat → SV} {s : SV} {Q : SV → Prop} (hk : k ≤ 20) (hs : Q s) (hP : ∀ i, i < k → Q (P i)) : (pushP k P s).1 ≤ 20 ∧ ∀ i, i < (pushP k P s).1 → Q ((pushP k P s).2 i) := by
  by_cases h : k < 20
  · have e : pushP k P s = (k + 1, fun i => if i = k then s else P i) := if_pos h
    rw [e]
    refine ⟨h, fun i hi => ?_⟩
    have hi : i < k + 1 := hi
    show Q (if i = k then s else P i)
    by_cases q : i = k
    · rw [if_pos q]; exact hs
    · rw [if_neg q]; exact hP i (by omega)
  · have e : pushP k P s = (20, fun i => if i = 19 then s else P (i + 1)) := if_neg h
    rw [e]
    refine ⟨Nat.le_refl _, fun i hi => ?_⟩
    have hi : i < 20 := hi
    show Q (if i = 19 then s else P (i + 1))
    by_cases q : i = 19
    · rw [if_pos q]; exact hs
    · rw [if_neg q]; exact hP (i + 1) (by omega)
def actC (c : SCN) (s : SV) : SCN := (c.1, s, pushP c.2.2.1.1 c.2.2.1.2 c.2.1, c.2.2.2)
theorem VC_act {c : SCN} {s : SV} (h : VC c) (hs : VSt c.1.2.1 c.1.2.2.1 c.1.2.2.2 s) : VC (actC c s) := by
  obtain ⟨a1, a2, ⟨a3, a4⟩, a5, a6⟩ := h
  exact ⟨a1, hs, pushP_v (Q := VSt c.1.2.1 c.1.2.2.1 c.1.2.2.2) a3 a2 a4, a5, a6⟩
theorem SQ_sA {x : ST} {b : Nat} {s : SV} (h : SQ (gSt x b) s) {j : Nat} (hj : j < 7) (k : Nat) (v : Int32) : SQ (gSt (sA x (b + 1 + j) (upd (x.2.2.2.1 (b + 1 + j)) k v)) b) (stR s j (upd (s.2.2 j) k v)) := by
  obtain ⟨h1, h2, h3⟩ := h
  refine ⟨h1, h2, fun i hi q hq => ?_⟩
  show (sA x (b + 1 + j) (upd (x.2.2.2.1 (b + 1 + j)) k v)).2.2.2.1 (b + 1 + i) q = (if i = j then upd (s.2.2 j) k v else s.2.2 i) q
  by_cases e : i = j
  · subst e
    rw [sA_at, if_pos rfl]
    by_cases e2 : q = k
    · rw [e2, upd_at, upd_at]
    · rw [upd_ne _ _ e2, upd_ne _ _ e2]
      exact h3 i hi q hq
  · rw [sA_ne _ _ (by omega), if_neg e]
    exact h3 i hi q hq
section ACTS
variable {L : Nat} {xs : Nat → Int32} {W : WD}
theorem XSc_st {sh : List Sh} {x y : ST} {c : SCN} {s : SV} (h : XSc sh x 3 c) (hoff : Off (fun o => 10 ≤ o ∧ o < 18 ∨ 183 ≤ o ∧ o < 188) x y) (hs : SQ (gSt y 10) s) : XSc sh y 3 (c.1, s, c.2.2) := by
  obtain ⟨a1, ⟨t, t1, t2, t3, t4⟩, a3, a4, a5, a6, a7, a8⟩ := h
  have e := hoff 3 (by omega)
  refine ⟨a1, ⟨t, by rw [e.2.2.1]; exact t1, t2, t3, ?_⟩, hs, PaOK_off hoff (fun o q1 q2 => by omega) a4, by rw [e.1]; exact a5, by rw [e.1]; exact a6, by rw [e.1]; exact a7, fun j hj i hi => ?_⟩
  · rw [gTo_off hoff (t := t) (fun o q1 q2 => by omega)]
    exact t4
  · rw [(hoff (3 + 177 + j) (by omega)).2.2.2.1]
    exact a8 j hj i hi
theorem XI_st {sh : List Sh} {z z' : ST} {s : SV} (hx : XI L xs sh z W) (off : Off (fun o => 10 ≤ o ∧ o < 18) z z') (hs : SQ (gSt z' 10) s) : XI L xs sh z' (setN W (W.2.1.1, s, W.2.1.2.2)) := by
  refine XI_a (Off_mono off (fun o q => by unfold Da; omega)) ?_ (XSc_st hx.2.2.2.2.1 (Off_mono off (fun o q => by omega)) hs) hx
  rw [gCk_off off (fun o q1 q2 => by omega)]
  exact hx.2.2.1
/-- what is now is kept -/
theorem X_push {sh : List Sh} {y : ST} (d : Nat) (hx : XI L xs sh y W) : ∃ z, cV (ZZ L xs) (d + 2) mX3_push [.ref 18, .ref 10] (HP sh y) = some (HP sh z) ∧ Off (fun o => 18 ≤ o ∧ o < 180) y z ∧ XI L xs sh z (setN W (actC W.2.1 W.2.1.2.1)) := by
  have hS : isSc sh 3 := hx.1.1.2.2.1
  obtain ⟨a1, ⟨t, t1, t2, t3, t4⟩, a3, a4, a5, a6, a7, a8⟩ := id hx.2.2.2.2.1
  obtain ⟨z, z1, z2, z3⟩ := v_push (L := L) (xs := xs) d hS.2.2.2.2.2 a4 hS.2.2.2.2.1 (Or.inl (by decide))
  have z2 : Off (fun o => 18 ≤ o ∧ o < 180) y z := z2
  have e := z2 3 (by omega)
  obtain ⟨p1, p2⟩ := pushP_sq (k := W.2.1.2.2.1.1) (P := W.2.1.2.2.1.2) (s := gSt y 10) a3
  rw [p1] at z3
  refine ⟨z, z1, z2, XI_a (Off_mono z2 (fun o q => by unfold Da; omega)) ?_ ⟨a1, ⟨t, by rw [e.2.2.1]; exact t1, t2, t3, ?_⟩, SQ_trans (gSt_off z2 (fun o q1 q2 => by omega)) a3, PaOK_sq z3 (fun i _ => p2 i), by rw [e.1]; exact a5, by rw [e.1]; exact a6, by rw [e.1]; exact a7, fun j hj i hi => ?_⟩ hx⟩
  · rw [gCk_off z2 (fun o q1 q2 => by omega)]
    exact hx.2.2.1
  · rw [gTo_off z2 (t := t) (fun o q1 q2 => by omega)]
    exact t4
  · rw [(z2 (3 + 177 + j) (by omega)).2.2.2.1]
    exact a8 j hj i hi
theorem M_keeps {sh : List Sh} {x : ST} {m : MM} (d : Nat) (hM : isMo sh) (hi : MI L xs m W) (hv : VW W) : ∃ m', cV (ZZ L xs) (d + 4) mX13_keepsAct [.ref 259] (HP sh (pM x m)) = some (HP sh (pM x m')) ∧ (∀ b, b ≠ 38 → m'.2.1 b = m.2.1 b) ∧ (∀ j, j ≠ 51 → j ≠ 52 → j ≠ 53 → m'.1 j = m.1 j) ∧ MPa m' (pushP W.2.1.2.2.1.1 W.2.1.2.2.1.2 W.2.1.2.1).1 W.2.1.1.2.2.1 W.2.1.1.2.2.2 (pushP W.2.1.2.2.1.1 W.2.1.2.2.1.2 W.2.1.2.1).2 := by
  obtain ⟨m', a1, a2, a3, -, a5⟩ := v_keepsAct (L := L) (xs := xs) (x := x) d hM hv.2.1.1.1.1.2.1 hv.2.1.1.1.1.2.2.2 hv.2.1.1.2.2.1.1 hi.2.1.2.2.1 hi.2.1.2.1.2 hi.2.1.2.1.1
  exact ⟨m', a1, a2, a3, a5⟩
/-- an act's end, in the model: the state is another -/
theorem MI_act {m m1 m' : MM} {s : SV} (hv : VW W) (hi : MI L xs m W) (h1 : ∀ b, b ≠ 38 → m1.2.1 b = m.2.1 b) (h2 : ∀ j, j ≠ 51 → j ≠ 52 → j ≠ 53 → m1.1 j = m.1 j) (hP : MPa m1 (pushP W.2.1.2.2.1.1 W.2.1.2.2.1.2 W.2.1.2.1).1 W.2.1.1.2.2.1 W.2.1.1.2.2.2 (pushP W.2.1.2.2.1.1 W.2.1.2.2.1.2 W.2.1.2.1).2) (h3 : m'.1 = m1.1) (h4 : ∀ b, 9 ≤ b → b ≠ 37 → m'.2.1 b = m1.2.1 b) (h5 : ∀ k, k < 4 ∨ 7 ≤ k → m'.2.1 0 k = m1.2.1 0 k) (hO : MOp m' s.2.1) (hD : Mdy m' W.2.1.1.2.2.1 W.2.1.1.2.2.2 s) : MI L xs m' (setN W (actC W.2.1 s)) := by
  refine MI_now (m := m) ⟨⟨?_, ?_, ?_⟩, fun b i hb h38 hi2 => ?_⟩ hv hi (MSc_dy (m := m) hv.2.1.1 (fun k hk => ?_) (fun b hb hb2 => ?_) hO hD ⟨?_, ?_⟩ hi.2.1)
  · rw [h3]; exact h2 28 (by decide) (by decide) (by decide)
  · rw [h3]; exact h2 32 (by decide) (by decide) (by decide)
  · rw [h3]; exact h2 37 (by decide) (by decide) (by decide)
  · rw [h4 b (by omega) (mlen_j hi2).1, h1 b h38]
  · rw [h5 k hk, h1 0 (by decide)]
  · rw [h4 b hb (by omega), h1 b (by omega)]
  · rw [h3]; exact hP.1
  · rw [h4 38 (by decide) (by decide)]
    exact hP.2
theorem Sp_stand (hv : VW W) (a b : Int32) : Step L xs W mX12_stand mX13_stand [.int a, .int b] := by
  have h6 : W.2.1.1.2.2.1 ≤ 6 := hv.2.1.1.1.1.2.1
  have h8 : W.2.1.1.2.1 ≤ 8 := hv.2.1.1.1.2.2.2.2.1.1
  by_cases ha : iN W.2.1.1.2.2.1 a = true
  · obtain ⟨q, hq, rfl⟩ := iN_ex (by omega) ha
    by_cases hb : iN W.2.1.1.2.1 b = true
    · obtain ⟨p, hp, rfl⟩ := iN_ex (by omega) hb
      by_cases he : W.2.1.2.1.2.2 0 q = nI p
      · refine ⟨W, -1, Xsame fun sh y d hx => ?_, Msame hv fun sh x m d hM hi => ?_⟩
        · have hB : isSt sh 10 := hx.1.1.2.2.1.2.2.2.2.1
          show RS (ZZ L xs) (d + 60) mX12_stand 0 [some (.ref 0), some (.int (nI q)), some (.int (nI p)), none] [] _ = _
          rw [bX12_stand_0, WM_is hx.1.1.1, some_bind', i_isPerson _ hx hv, some_bind', if_neg (z1 ha), WM_is hx.1.1.1, some_bind', i_isPlace _ hx hv, some_bind', if_neg (z1 hb), WM_now hx.1.1.1, some_bind', Sc_state hx.1.1.2.2.1, some_bind', St_place hB, some_bind', Ste_place hB _ (by omega), some_bind', Xst hx (j := 0) (by decide) (show q < 6 by omega), if_neg (fun z => z he), bX12_stand_32]
        · show RS (ZZ L xs) (d + 60) mX13_stand 0 [some (.ref 259), some (.int (nI q)), some (.int (nI p)), none] [] _ = _
          rw [bX13_stand_0, M_is hM, some_bind', i_personM _ hM hi hv, some_bind', if_neg (z1 ha), M_is hM, some_bind', i_placeM _ hM hi hv, some_bind', if_neg (z1 hb), M_at hM, some_bind', Me_at hM (by omega), some_bind', Md_at hi.2.1.2.1.2 hq, if_neg (fun z => z he), bX13_stand_26]
      · refine ⟨setN W (actC W.2.1 (stR W.2.1.2.1 0 (upd (W.2.1.2.1.2.2 0) q (nI p)))), W.2.1.2.1.2.2 0 q, fun sh y d hx => ?_, fun sh x m d hM hi => ?_⟩
        · have hS : isSc sh 3 := hx.1.1.2.2.1
          have hB : isSt sh 10 := hS.2.2.2.2.1
          have hP : isPa sh 18 := hS.2.2.2.2.2
          have hW : isWM sh 0 := hx.1.1.1
          obtain ⟨z, k1, k2, k3⟩ := X_push (L := L) (xs := xs) (d + 57) hx
          have off : Off (fun o => 10 ≤ o ∧ o < 18) z (sA z 11 (upd (z.2.2.2.1 11) q (nI p))) := Off_sA (Off_refl _ _) (by omega) _
          refine ⟨sh, sA z 11 (upd (z.2.2.2.1 11) q (nI p)), cI_of ?_, XI_st k3 off (SQ_sA k3.2.2.2.2.1.2.2.1 (j := 0) (by decide) q (nI p)), OffM_of (Off_trans (Off_mono k2 (E := fun o => 10 ≤ o ∧ o < 188) (fun o q => by omega)) (Off_mono off (fun o q => by omega))) (fun o ho => by omega), Gr_refl _⟩
          show RS (ZZ L xs) (d + 60) mX12_stand 0 [some (.ref 0), some (.int (nI q)), some (.int (nI p)), none] [] _ = _
          rw [bX12_stand_0, WM_is hx.1.1.1, some_bind', i_isPerson _ hx hv, some_bind', if_neg (z1 ha), WM_is hx.1.1.1, some_bind', i_isPlace _ hx hv, some_bind', if_neg (z1 hb)]
          have e1 := Xst hx (j := 0) (by decide) (show q < 6 by omega)
          have e2 := Xst k3 (j := 0) (by decide) (show q < 6 by omega)
          simp (disch := omega) only [WM_tape hW, WM_townReader hW, WM_ruleReader hW, WM_rules hW, WM_ruleCount hW, WM_now hW, WM_images hW, WM_clock hW, WM_outlook hW, WM_history hW, WMw_ruleCount hW, WMw_blankRule hW, WM_is hW, Sc_state hS, Sc_past hS, Sc_force hS, Sc_x hS, Sc_notes hS, Sc_noteHour hS, Sc_noteStranger hS, Sc_notePerson hS, Scw_town hS, Scw_force hS, Scw_x hS, Scw_notes hS, Sc_is hS, Sce_noteHour hS, Sce_noteStranger hS, Sce_notePerson hS, Scu_noteHour hS, Scu_noteStranger hS, Scu_notePerson hS, St_hour hB, St_chain hB, St_come hB, St_open hB, St_place hB, St_kind hB, St_asked hB, St_total hB, St_chains hB, St_at hB, St_before hB, Stw_hour hB, Stw_chain hB, Stw_come hB, Stw_open hB, St_is hB, Ste_place hB, Ste_kind hB, Ste_asked hB, Ste_total hB, Ste_chains hB, Ste_at hB, Ste_before hB, Stu_place hB, Stu_kind hB, Stu_asked hB, Stu_total hB, Stu_chains hB, Stu_at hB, Stu_before hB, Pa_size hP, Pa_next hP, Pa_kept hP, Paw_size hP, Paw_next hP, Pa_is hP, some_bind', k1]
          rw [if_pos (show ¬ y.2.2.2.1 11 q = nI p from fun z => he (e1.symm.trans z))]
          exact congrArg (fun v => some (HP sh (sA z 11 (upd (z.2.2.2.1 11) q (nI p))), some (Value.int v))) e2
        · obtain ⟨m1, k1, k2, k3, k4⟩ := M_keeps (x := x) (d + 55) hM hi hv
          obtain ⟨v1, ⟨⟨v2, v3, v4⟩, h, v5, v6, v7⟩, -⟩ := id hv.2.1.1
          refine ⟨mA m1 1 q (nI p), cI_of ?_, MI_act hv hi k2 k3 k4 rfl (fun b hb _ => mA_ne _ _ _ (by omega)) (fun k _ => by rw [mA_ne _ _ _ (by decide)]) (fun i hi2 => ?_) (Mdy_r (Mdy_q (m := m) (fun i _ _ => by rw [k2 0 (by decide)]) (fun a h1 h2 i _ => by rw [k2 a (by omega)]) h6 hv.2.1.1.1.1.2.2.2 hi.2.1.2.1.2) 1 0 rfl (by decide) q (nI p)), VW_now hv (VC_act hv.2.1.1 ⟨⟨v2, fun r hr => ?_, fun r hr => ?_⟩, h, v5, v6, VB_cong v7 rfl rfl⟩) hv.2.1.2⟩
          · show RS (ZZ L xs) (d + 60) mX13_stand 0 [some (.ref 259), some (.int (nI q)), some (.int (nI p)), none] [] _ = _
            rw [bX13_stand_0, M_is hM, some_bind', i_personM _ hM hi hv, some_bind', if_neg (z1 ha), M_is hM, some_bind', i_placeM _ hM hi hv, some_bind', if_neg (z1 hb), M_at hM, some_bind', Me_at hM (by omega), some_bind', Md_at hi.2.1.2.1.2 hq, if_pos he, M_is hM, some_bind', k1, some_bind', M_at hM, some_bind', Me_at hM (by omega), some_bind', some_bind', Mu_at hM (by omega), some_bind', k2 1 (by decide), Md_at hi.2.1.2.1.2 hq]
          · rw [mA_ne _ _ _ (by decide), k2 8 (by decide)]
            exact hi.2.1.2.1.1 i hi2
          · rw [stR_at]
            by_cases e : r = q
            · rw [e, upd_at]
              exact ⟨p, hp, rfl⟩
            · rw [upd_ne _ _ e]
              exact v3 r hr
          · rw [stR_ne _ _ (by decide)]
            exact v4 r hr
    · refine ⟨W, -1, Xsame fun sh y d hx => ?_, Msame hv fun sh x m d hM hi => ?_⟩
      · show RS (ZZ L xs) (d + 60) mX12_stand 0 [some (.ref 0), some (.int (nI q)), some (.int b), none] [] _ = _
        rw [bX12_stand_0, WM_is hx.1.1.1, some_bind', i_isPerson _ hx hv, some_bind', if_neg (z1 ha), WM_is hx.1.1.1, some_bind', i_isPlace _ hx hv, some_bind', if_pos (z0 hb), bX12_stand_32]
      · show RS (ZZ L xs) (d + 60) mX13_stand 0 [some (.ref 259), some (.int (nI q)), some (.int b), none] [] _ = _
        rw [bX13_stand_0, M_is hM, some_bind', i_personM _ hM hi hv, some_bind', if_neg (z1 ha), M_is hM, some_bind', i_placeM _ hM hi hv, some_bind', if_pos (z0 hb), bX13_stand_26]
  · refine ⟨W, -1, Xsame fun sh y d hx => ?_, Msame hv fun sh x m d hM hi => ?_⟩
    · show RS (ZZ L xs) (d + 60) mX12_stand 0 [some (.ref 0), some (.int a), some (.int b), none] [] _ = _
      rw [bX12_stand_0, WM_is hx.1.1.1, some_bind', i_isPerson _ hx hv, some_bind', if_pos (z0 ha), bX12_stand_32]
    · show RS (ZZ L xs) (d + 60) mX13_stand 0 [some (.ref 259), some (.int a), some (.int b), none] [] _ = _
      rw [bX13_stand_0, M_is hM, some_bind', i_personM _ hM hi hv, some_bind', if_pos (z0 ha), bX13_stand_26]
end ACTS
