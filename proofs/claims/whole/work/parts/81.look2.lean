section LOOK2
variable {L : Nat} {xs : Nat → Int32} {W : WD}
def Dl (o : Nat) : Prop := Dh o ∨ o = 258
theorem ruN_1 (j : Nat) : ruN j + 1 = ruN (j + 1) := by
  rw [ruN_s]
  unfold ruN
  exact Int32.sub_add_cancel _ _
section
variable {sh : List Sh}
theorem lk_fill (d : Nat) (hv : VW W) {h j : Nat} (e : Int32) {a : Nat × (Nat → Nat → Int32)} (ha : a.1 ≤ 6) (wv : Nat → Int32) {R : Option ((Nat → Int32) → Int64)} {wr : Int32} : ∀ (f g : Nat), f + g = W.2.1.1.2.2.2 → ∀ (z : ST) (s : SV) (u8 u9 : Option Value), QT L xs sh W 250 R wr z s → (∀ k, k < W.2.1.1.2.2.2 → z.2.2.2.1 186 k = wv k) → (∀ k, k < g → z.2.2.2.1 258 (k * 7 + a.1) = wv k) → LkX W a z → ∃ (z' : ST) (u7 : Option Value), RS (ZZ L xs) (d + 59) mX1_bestLook 88 [some (.ref 249), some (.ref 196), some (.int (nI W.2.2.2.1)), some (.int (nI h)), some (.int e), some (.int (nI a.1)), some (.int (ruN j)), some (.int (nI g)), u8, u9] [] (HP sh z) = RS (ZZ L xs) (d + 59) mX1_bestLook 135 [some (.ref 249), some (.ref 196), some (.int (nI W.2.2.2.1)), some (.int (nI h)), some (.int e), some (.int (nI (a.1 + 1))), some (.int (ruN j)), u7, none, none] [] (HP sh z') ∧ Off (fun o => o = 258) z z' ∧ XI L xs sh z' W ∧ LkX W (a.1 + 1, fun k g => if k = a.1 then wv g else a.2 k g) z' := by
  have h5 : W.2.1.1.2.2.2 ≤ 5 := hv.2.1.1.1.1.2.2.2
  intro f
  induction f with
  | zero =>
    intro g hg z s u8 u9 q hw hA hL
    obtain ⟨t, t1, -, -, t4, -⟩ := Q_places q.1 hv
    have hH : isHi sh 249 := q.1.1.2.2.2.1
    refine ⟨z, some (.int (nI g)), ?_, Off_refl _ _, q.1, ?_⟩
    · rw [bX1_bestLook_88 (hv1 := rfl), Hi_now hH, some_bind', t1, some_bind', t4, some_bind', if_pos (nI_le (by omega) (by omega)), nI_1]
    · intro k g' hk hg'
      have hk : k < a.1 + 1 := hk
      show _ = (if k = a.1 then wv g' else a.2 k g')
      by_cases q2 : k = a.1
      · rw [if_pos q2, q2]
        exact hA g' (by omega)
      · rw [if_neg q2]
        exact hL k g' (by omega) hg'
  | succ f ih =>
    intro g hg z s u8 u9 q hw hA hL
    obtain ⟨t, t1, -, -, t4, -⟩ := Q_places q.1 hv
    have hH : isHi sh 249 := q.1.1.2.2.2.1
    have hC : isCk sh 183 := q.1.1.1.2.2.2
    have hS : isSc sh 3 := q.1.1.1.2.2.1
    have hW : isWM sh 0 := q.1.1.1.1
    have hwg := hw g (by omega)
    have hoff : Off (fun o => o = 258) z (sA z 258 (upd (z.2.2.2.1 258) (g * 7 + a.1) (wv g))) := Off_sA (D := fun o => o = 258) (Off_refl _ _) (by rfl) _
    have e1 : (sA z 258 (upd (z.2.2.2.1 258) (g * 7 + a.1) (wv g))).2.2.2.1 258 = upd (z.2.2.2.1 258) (g * 7 + a.1) (wv g) := sA_at _ _ _
    have e2 : (sA z 258 (upd (z.2.2.2.1 258) (g * 7 + a.1) (wv g))).2.2.2.1 186 = z.2.2.2.1 186 := sA_ne _ _ (by decide)
    have q2 := QT_off q hoff (fun o q => by omega)
    have step : RS (ZZ L xs) (d + 59) mX1_bestLook 88 [some (.ref 249), some (.ref 196), some (.int (nI W.2.2.2.1)), some (.int (nI h)), some (.int e), some (.int (nI a.1)), some (.int (ruN j)), some (.int (nI g)), u8, u9] [] (HP sh z) = RS (ZZ L xs) (d + 59) mX1_bestLook 88 [some (.ref 249), some (.ref 196), some (.int (nI W.2.2.2.1)), some (.int (nI h)), some (.int e), some (.int (nI a.1)), some (.int (ruN j)), some (.int (nI (g + 1))), none, none] [] (HP sh (sA z 258 (upd (z.2.2.2.1 258) (g * 7 + a.1) (wv g)))) := by
      rw [bX1_bestLook_88 (hv1 := rfl), Hi_now hH, some_bind', t1, some_bind', t4, some_bind', if_neg (nI_ge (by omega) (by omega)), nI_m7, nI_add, nI_1]
      simp (disch := omega) only [Hi_now hH, Hi_clock hH, Hi_trial hH, Hi_answers hH, Hi_is hH, Hie_answers hH, Hiu_answers hH, Sc_state hS, Sc_past hS, Sc_force hS, Sc_x hS, Sc_notes hS, Sc_noteHour hS, Sc_noteStranger hS, Sc_notePerson hS, Scw_town hS, Scw_force hS, Scw_x hS, Scw_notes hS, Sc_is hS, Sce_noteHour hS, Sce_noteStranger hS, Sce_notePerson hS, Scu_noteHour hS, Scu_noteStranger hS, Scu_notePerson hS, WM_tape hW, WM_townReader hW, WM_ruleReader hW, WM_rules hW, WM_ruleCount hW, WM_now hW, WM_images hW, WM_clock hW, WM_outlook hW, WM_history hW, WMw_ruleCount hW, WMw_blankRule hW, WM_is hW, Ck_ways hC, Ck_whom hC, Ck_words hC, Ck_wrong hC, Ckw_town hC, Ckw_rule hC, Ckw_wrong hC, Ck_is hC, Cke_whom hC, Cke_words hC, Cku_whom hC, Cku_words hC, some_bind', hwg]
    generalize sA z 258 (upd (z.2.2.2.1 258) (g * 7 + a.1) (wv g)) = w at *
    obtain ⟨z', u7, p1, p2, p3, p4⟩ := ih (g + 1) (by omega) w s none none q2 (fun k hk => by rw [e2]; exact hw k hk) (fun k hk => by
      rw [e1]
      by_cases qq : k = g
      · rw [qq, upd_at]
      · rw [upd_ne _ _ (by omega)]
        exact hA k (by omega)) (fun k g' hk hg' => by
      rw [e1, upd_ne _ _ (by omega)]
      exact hL k g' hk hg')
    exact ⟨z', u7, step.trans p1, Off_trans hoff p2, p3, p4⟩
end
theorem Sp_look (hv : VW W) (a b : Int32) : Step L xs W mX12_look mX13_look [.int a, .int b] := by
  have h5 : W.2.1.1.2.2.2 ≤ 5 := hv.2.1.1.1.1.2.2.2
  have h6 : W.2.1.1.2.2.1 ≤ 6 := hv.2.1.1.1.1.2.1
  have h8 : W.2.1.1.2.1 ≤ 8 := hv.2.1.1.1.2.2.2.2.1.1
  have hb : trq 206 := Or.inl rfl
  by_cases g1 : decide (0 < W.2.1.1.2.1) = true
  rotate_left
  · refine ⟨W, -1, Xsame fun sh y d hx => ?_, Msame hv fun sh x m d hM hi => ?_⟩
    · show RS (ZZ L xs) (d + 60) mX12_look 0 [some (.ref 0), some (.int a), some (.int b)] [] _ = _
      rw [bX12_look_0, WM_is hx.1.1.1, some_bind', i_hasTown _ hx hv, some_bind', if_pos (z0 g1), bX12_look_26]
    · show RS (ZZ L xs) (d + 60) mX13_look 0 [some (.ref 259), some (.int a), some (.int b), none, none, none] [] _ = _
      rw [bX13_look_0, M_is hM, some_bind', i_townM _ hM hi hv, some_bind', if_pos (z0 g1), bX13_look_29]
  by_cases g2 : wiB 0 60 a = true
  rotate_left
  · refine ⟨W, -1, Xsame fun sh y d hx => ?_, Msame hv fun sh x m d hM hi => ?_⟩
    · show RS (ZZ L xs) (d + 60) mX12_look 0 [some (.ref 0), some (.int a), some (.int b)] [] _ = _
      rw [bX12_look_0, WM_is hx.1.1.1, some_bind', i_hasTown _ hx hv, some_bind', if_neg (z1 g1), i_within, some_bind', if_pos (z0 g2), bX12_look_26]
    · show RS (ZZ L xs) (d + 60) mX13_look 0 [some (.ref 259), some (.int a), some (.int b), none, none, none] [] _ = _
      rw [bX13_look_0, M_is hM, some_bind', i_townM _ hM hi hv, some_bind', if_neg (z1 g1), i_inM _ (show (0 : Int64) = (0 : Int32).toInt64 from rfl) (show (60 : Int64) = (60 : Int32).toInt64 from rfl), some_bind', if_pos (z0 g2), bX13_look_29]
  obtain ⟨h, lh, hh, rfl⟩ := wiB_ex (lo := 0) (hi := 60) rfl rfl (by decide) (by decide) g2
  by_cases g3 : wiB 0 1 b = true
  rotate_left
  · refine ⟨W, -1, Xsame fun sh y d hx => ?_, Msame hv fun sh x m d hM hi => ?_⟩
    · show RS (ZZ L xs) (d + 60) mX12_look 0 [some (.ref 0), some (.int (nI h)), some (.int b)] [] _ = _
      rw [bX12_look_0, WM_is hx.1.1.1, some_bind', i_hasTown _ hx hv, some_bind', if_neg (z1 g1), i_within, some_bind', if_neg (z1 g2), i_within, some_bind', if_neg (fun z => z (z0 g3)), bX12_look_26]
    · show RS (ZZ L xs) (d + 60) mX13_look 0 [some (.ref 259), some (.int (nI h)), some (.int b), none, none, none] [] _ = _
      rw [bX13_look_0, M_is hM, some_bind', i_townM _ hM hi hv, some_bind', if_neg (z1 g1), i_inM _ (show (0 : Int64) = (0 : Int32).toInt64 from rfl) (show (60 : Int64) = (60 : Int32).toInt64 from rfl), some_bind', if_neg (z1 g2), i_inM _ (show (0 : Int64) = (0 : Int32).toInt64 from rfl) (show (1 : Int64) = (1 : Int32).toInt64 from rfl), some_bind', if_neg (fun z => z (z0 g3)), bX13_look_29]
  have hp : 0 < W.2.1.1.2.1 := of_decide_eq_true g1
  have hn6 : W.2.2.2.1 ≤ 6 := hv.2.2.2.1
  have hb0 : trq 250 := Or.inr (Or.inr (Or.inr (Or.inr (Or.inr rfl))))
  refine ⟨W, lkA W b (lp (lkG W h) (W.2.2.2.1 + 1) 0 (0, fun _ _ => 0)), Xask fun sh y d hx => ?_, Mask hv fun sh x m d hM hi => ?_⟩
  · have hS : isSc sh 3 := hx.1.1.2.2.1
    have hW : isWM sh 0 := hx.1.1.1
    have hC : isCk sh 183 := hx.1.1.2.2.2
    have hH : isHi sh 249 := hx.1.2.2.2.1
    have hcnt : y.1 0 4 = nI W.2.2.2.1 := hx.2.2.2.2.2.2.1
    -- the best of them
    have best : ∀ (z : ST) (a : Nat × (Nat → Nat → Int32)), a.1 ≤ 7 → XI L xs sh z W → LkX W a z → ∀ (u1 u2 u3 : Option Value), RS (ZZ L xs) (d + 59) mX1_bestLook 152 [some (.ref 249), u1, u2, u3, some (.int b), some (.int (nI a.1)), some (.int (-2)), some (.int (-2)), some (.int 0), none] [] (HP sh z) = some (HP sh z, some (.int (lkA W b a))) := fun z a ha hz hL u1 u2 u3 => by
      obtain ⟨t, t1, -, -, t4, -⟩ := Q_places hz hv
      have fin : ∀ (i6 i7 : Int32) (u0 u1 u2 u3 u5 u8 u9 : Option Value), RS (ZZ L xs) (d + 59) mX1_bestLook 213 [u0, u1, u2, u3, some (.int b), u5, some (.int i6), some (.int i7), u8, u9] [] (HP sh z) = some (HP sh z, some (.int (if b = 0 then i6 else i7))) := fun i6 i7 u0 u1 u2 u3 u5 u8 u9 => by
        rw [bX1_bestLook_213]
        by_cases c0 : b = 0
        · rw [if_neg (fun z => z c0), if_pos c0, bX1_bestLook_225]
        · rw [if_pos c0, if_neg c0, bX1_bestLook_225]
      by_cases c00 : a.1 = 0
      · rw [bX1_bestLook_152, if_pos (by rw [c00]; decide), fin]
        unfold lkA
        rw [if_pos (Or.inl c00), ite_self]
      · have hpos : ¬ nI a.1 ≤ 0 := nI_ge (a := 0) (by omega) (by omega)
        by_cases n0 : W.2.1.1.2.2.2 = 0
        · rw [bX1_bestLook_152, if_neg hpos, Hi_now hH, some_bind', t1, some_bind', t4, some_bind', if_pos (by rw [n0]; decide), fin]
          unfold lkA
          rw [if_pos (Or.inr n0), ite_self]
        · have loop : ∀ (f g : Nat), f + g = W.2.1.1.2.2.2 → ∀ (c : Nat) (u1 u2 u3 u9 : Option Value), c < g → RS (ZZ L xs) (d + 59) mX1_bestLook 152 [some (.ref 249), u1, u2, u3, some (.int b), some (.int (nI a.1)), some (.int (nI c)), some (.int (alV a c)), some (.int (nI g)), u9] [] (HP sh z) = some (HP sh z, some (.int (if b = 0 then nI (lp (lkB a) f g c) else alV a (lp (lkB a) f g c)))) := by
            intro f
            induction f with
            | zero =>
              intro g hg c u1 u2 u3 u9 hc
              rw [bX1_bestLook_152, if_neg hpos, Hi_now hH, some_bind', t1, some_bind', t4, some_bind', if_pos (nI_le (by omega) (by omega)), fin]
              rfl
            | succ f ih =>
              intro g hg c u1 u2 u3 u9 hc
              rw [bX1_bestLook_152, if_neg hpos, Hi_now hH, some_bind', t1, some_bind', t4, some_bind', if_neg (nI_ge (by omega) (by omega)), Hi_is hH, some_bind', nI_m7, i_alike _ hH ha h5 hL (show g < W.2.1.1.2.2.2 by omega), some_bind', if_neg (fun z => nI_pos (n := c) (by omega) (by rw [z]; decide))]
              by_cases le : alV a c ≤ alV a g
              · rw [if_pos le, bX1_bestLook_207, nI_1, ih (g + 1) (by omega) c none none none none (by omega), show lp (lkB a) (f + 1) g c = lp (lkB a) f (g + 1) c from congrArg (lp (lkB a) f (g + 1)) (if_pos le)]
              · rw [if_neg le, bX1_bestLook_199, bX1_bestLook_207, nI_1, ih (g + 1) (by omega) g none none none none (by omega), show lp (lkB a) (f + 1) g c = lp (lkB a) f (g + 1) g from congrArg (lp (lkB a) f (g + 1)) (if_neg le)]
          have i0 := i_alike (L := L) (xs := xs) (d + 57) hH ha h5 hL (show 0 < W.2.1.1.2.2.2 by omega)
          rw [bX1_bestLook_152, if_neg hpos, Hi_now hH, some_bind', t1, some_bind', t4, some_bind', if_neg (show ¬ nI W.2.1.1.2.2.2 ≤ 0 from nI_ge (a := 0) (by omega) (by omega)), Hi_is hH, some_bind', show cI (ZZ L xs) (d + 58) mX1_mostAlike [.ref 249, .int (0 * 7), .int (nI a.1)] (HP sh z) = some (HP sh z, alV a 0) from i0, some_bind', if_pos rfl, bX1_bestLook_199, bX1_bestLook_207]
          unfold lkA
          rw [if_neg (show ¬ (a.1 = 0 ∨ W.2.1.1.2.2.2 = 0) by omega)]
          exact loop (W.2.1.1.2.2.2 - 1) 1 (by omega) 0 none none none none (by omega)
    have loop : ∀ (f j : Nat), f + j = W.2.2.2.1 + 1 → ∀ (z : ST) (a : Nat × (Nat → Nat → Int32)) (u7 u8 u9 : Option Value), a.1 ≤ j → LkX W a z → XI L xs sh z W → ∃ z', RS (ZZ L xs) (d + 59) mX1_bestLook 6 [some (.ref 249), some (.ref 196), some (.int (nI W.2.2.2.1)), some (.int (nI h)), some (.int b), some (.int (nI a.1)), some (.int (ruN j)), u7, u8, u9] [] (HP sh z) = some (HP sh z', some (.int (lkA W b (lp (lkG W h) f j a)))) ∧ Off Dl z z' ∧ XI L xs sh z' W := by
      intro f
      induction f with
      | zero =>
        intro j hj z a u7 u8 u9 ha hL hz
        refine ⟨z, ?_, Off_refl _ _, hz⟩
        rw [bX1_bestLook_6 (hv1 := rfl), if_pos ((ruN_le (by omega) (by omega)).mpr (by omega))]
        exact best z a (by omega) hz hL _ _ _
      | succ f ih =>
        intro j hj z a u7 u8 u9 ha hL hz
        obtain ⟨v, v1, v2, v3, v4⟩ := Xrule hz hv (j := j) (by omega)
        obtain ⟨t', t1, -, -, -, t5, -⟩ := Q_places hz hv
        obtain ⟨t, w, w0, w1, w2, w3⟩ := Q_windv (L := L) (xs := xs) (d + 57) hz v1 v2 (W.2.1.1.1.1 5) 250
        obtain ⟨u, s', u1, u2, u3⟩ := i_notes (L := L) (xs := xs) (d + 53) hv w3
        have hoff : Off Dh z u := Off_trans (Off_mono w2 (fun o q => Or.inr q)) (Off_mono u2 (fun o q => Or.inl q))
        have hc2 := lkG_le (W := W) (h := h) ha
        have htt : t' = t := by
          rw [t1] at w0
          cases w0
          rfl
        subst htt
        have key : ∀ (x0 : Value), x0 = v → ∃ z', RS (ZZ L xs) (d + 59) mX1_bestLook 37 [some (.ref 249), some (.ref 196), some (.int (nI W.2.2.2.1)), some (.int (nI h)), some (.int b), some (.int (nI a.1)), some (.int (ruN j)), none, none, none] [x0, .ref t', .ref 183] (HP sh z) = some (HP sh z', some (.int (lkA W b (lp (lkG W h) (f + 1) j a)))) ∧ Off Dl z z' ∧ XI L xs sh z' W := fun x0 hx0 => by
          subst hx0
          rw [bX1_bestLook_37 (hv1 := rfl) (hw0 := v1) (hw1 := rfl) (hw2 := rfl), Hi_now hH, some_bind', t1, some_bind', t5, some_bind', Ck_is hC, some_bind', w1, some_bind', Hi_is hH, some_bind', u1, some_bind']
          by_cases e0 : ruV W j = 0
          · have hl : lkG W h j a = a := if_pos e0
            rw [hl] at hc2
            obtain ⟨z', p1, p2, p3⟩ := ih (j + 1) (by omega) u a none none none hc2 (fun k g hk hg => by rw [(hoff 258 (fun q => by unfold Dh Dt at q; omega)).2.2.2.1]; exact hL k g hk hg) u3.1
            refine ⟨z', ?_, Off_trans (Off_mono hoff (fun o q => Or.inl q)) p2, p3⟩
            rw [if_pos (show fiV W (RF W (ruN j)) (W.2.1.1.1.1 5) = 0 from e0), bX1_bestLook_135 (hv1 := rfl), ruN_1, p1, show lp (lkG W h) (f + 1) j a = lp (lkG W h) f (j + 1) a from congrArg (lp (lkG W h) f (j + 1)) hl]
          · obtain ⟨tb, zb, b0, b1, b2, b3⟩ := Q_beg (L := L) (xs := xs) (d + 56) hb0 u3
            obtain ⟨zr, r1, r2, r3, r4⟩ := Q_runW (L := L) (xs := xs) (d + 53) hv hb0 b3 h (by omega)
            have offr : Off Dh z zr := Off_trans hoff (Off_mono (Off_trans (Off_mono b2 (fun o q => Or.inl q)) r2) (fun o q => Or.inl q))
            obtain ⟨zf, v7, f1, f2, f3, f4⟩ := lk_fill (L := L) (xs := xs) d hv (h := h) (j := j) b (a := a) (by omega) (noW W (RF W (ruN j)) (W.2.1.1.1.1 5) h) W.2.1.1.2.2.2 0 (by omega) zr _ none none r3 r4 (fun k hk => absurd hk (by omega)) (fun k g hk hg => by rw [(offr 258 (fun q => by unfold Dh Dt at q; omega)).2.2.2.1]; exact hL k g hk hg)
            have hl : (lkG W h j a).1 = a.1 + 1 := by unfold lkG; rw [if_neg e0]
            have hlk : lkG W h j a = (a.1 + 1, fun k g => if k = a.1 then noW W (RF W (ruN j)) (W.2.1.1.1.1 5) h g else a.2 k g) := if_neg e0
            rw [← hlk] at f4
            obtain ⟨z', p1, p2, p3⟩ := ih (j + 1) (by omega) zf (lkG W h j a) none none none hc2 f4 f3
            rw [hl] at p1
            refine ⟨z', ?_, Off_trans (Off_trans (Off_mono offr (fun o q => Or.inl q)) (Off_mono f2 (fun o q => Or.inr q))) p2, p3⟩
            rw [if_neg (show ¬ fiV W (RF W (ruN j)) (W.2.1.1.1.1 5) = 0 from e0), Hi_trial hH, some_bind', Hi_now hH, some_bind', b0, some_bind', St_is hH.2.1, some_bind', b1, some_bind', Hi_clock hH, some_bind', Hi_trial hH, some_bind', Ck_is hC, some_bind', nI_1, r1, some_bind']
            refine f1.trans ?_
            rw [bX1_bestLook_135 (hv1 := rfl), ruN_1]
            exact p1
        rw [bX1_bestLook_6 (hv1 := rfl), if_neg (fun z => by have := (ruN_le (by omega) (by omega)).mp z; omega), Hi_clock hH, some_bind', Hi_now hH, some_bind', t1, some_bind']
        rcases Nat.eq_zero_or_pos j with h0 | h0
        · rw [if_neg (fun z => z (by rw [h0]; exact ruN_0))]
          exact key .null (v3 h0).symm
        · obtain ⟨i, rfl⟩ : ∃ i, j = i + 1 := ⟨j - 1, by omega⟩
          rw [if_pos (fun z => nI_pos (n := i) (by omega) (by rw [← ruN_s, z]; decide))]
          have e1 := v4 i rfl
          rw [← ruN_s] at e1
          rw [e1, some_bind']
          exact key v rfl
    obtain ⟨z, p1, p2, p3⟩ := loop (W.2.2.2.1 + 1) 0 (by omega) y (0, fun _ _ => 0) none none none (by omega) (fun k g hk _ => absurd hk (Nat.not_lt_zero k)) hx
    have haf : cI (ZZ L xs) (d + 59) mX1_bestLook [.ref 249, .ref 196, .int (nI W.2.2.2.1), .int (nI h), .int b] (HP sh y) = some (HP sh z, lkA W b (lp (lkG W h) (W.2.2.2.1 + 1) 0 (0, fun _ _ => 0))) := by
      refine cI_of ?_
      show RS (ZZ L xs) (d + 59) mX1_bestLook 0 [some (.ref 249), some (.ref 196), some (.int (nI W.2.2.2.1)), some (.int (nI h)), some (.int b), none, none, none, none, none] [] _ = _
      rw [bX1_bestLook_0 (hv1 := rfl)]
      rw [ruN_0] at p1
      exact p1
    refine ⟨z, ?_, p3, Off_mono p2 (fun o q => by unfold Dl Dh Dt at q; unfold Dq; omega)⟩
    show RS (ZZ L xs) (d + 60) mX12_look 0 [some (.ref 0), some (.int (nI h)), some (.int b)] [] _ = _
    rw [bX12_look_0, WM_is hx.1.1.1, some_bind', i_hasTown _ hx hv, some_bind', if_neg (z1 g1), i_within, some_bind', if_neg (z1 g2), i_within, some_bind', if_pos (z1 g3), WM_history hW, some_bind', WM_rules hW, some_bind', WM_ruleCount hW, some_bind', hcnt, Hi_is hH, some_bind', haf, some_bind']
  · obtain ⟨m1, k1, k2, k3⟩ := Q_keep (L := L) (xs := xs) (x := x) (d + 56) hM hv hi
    have inner : ∀ (f i : Nat), f + i = 5 → ∀ (m1 : MM) (c : Nat) (i4 : Int32), c ≤ 6 → MJ m m1 → QM L xs sh x W m (RF W W.2.1.2.2.2.1.1) (W.2.1.1.1.1 5) m1 W.2.1.2.1 → ∃ (m2 : MM) (u5 : Option Value), RS (ZZ L xs) (d + 60) mX13_look 61 [some (.ref 259), some (.int (nI h)), some (.int b), some (.int (nI c)), some (.int i4), some (.int (nI i))] [] (HP sh (pM x m1)) = RS (ZZ L xs) (d + 60) mX13_look 98 [some (.ref 259), some (.int (nI h)), some (.int b), some (.int (nI (c + 1))), some (.int i4), u5] [] (HP sh (pM x m2)) ∧ MJ m m2 ∧ QM L xs sh x W m (RF W W.2.1.2.2.2.1.1) (W.2.1.1.1.1 5) m2 W.2.1.2.1 ∧ (∀ k, i ≤ k → k < 5 → m2.2.1 44 (5 * c + k) = m1.2.1 43 (5 * h + k)) ∧ ∀ k, k < 5 * c + i → m2.2.1 44 k = m1.2.1 44 k := by
      intro f
      induction f with
      | zero =>
        intro i hi2 m1 c i4 hc hJ q
        refine ⟨m1, some (.int (nI i)), ?_, hJ, q, fun k q1 q2 => by omega, fun _ _ => rfl⟩
        rw [bX13_look_61, if_pos (show (5 : Int32) ≤ nI i from nI_le (a := 5) (by omega) (by omega)), nI_1]
      | succ f ih =>
        intro i hi2 m1 c i4 hc hJ q
        obtain ⟨m2, u5, p1, p2, p3, p4, p5⟩ := ih (i + 1) (by omega) (mA m1 44 (5 * c + i) (m1.2.1 43 (5 * h + i))) c i4 hc (MJ_A hJ rfl _ _) (QM_hi q (by decide) (by decide) _ _)
        refine ⟨m2, u5, ?_, p2, p3, fun k q1 q2 => ?_, fun k hk => ?_⟩
        · rw [bX13_look_61, if_neg (show ¬ (5 : Int32) ≤ nI i from nI_ge (b := 5) (by omega) (by omega)), M_shows hM, some_bind', M_lay hM, some_bind', nI_5m, nI_5m, nI_add, nI_add, Me_lay hM (by omega), some_bind', Mu_shows hM (by omega), some_bind', nI_1]
          exact p1
        · by_cases e : k = i
          · rw [e, p5 _ (by omega), mA_eq, upd_at]
          · rw [p4 k (by omega) q2, mA_ne _ _ _ (by decide)]
        · rw [p5 k (by omega), mA_eq, upd_ne _ _ (by omega)]
    have loop : ∀ (f j : Nat), f + j = W.2.2.2.1 + 1 → ∀ (m1 : MM) (a : Nat × (Nat → Nat → Int32)) (u5 : Option Value), a.1 ≤ j → LkM W a m1 → MJ m m1 → QM L xs sh x W m (RF W W.2.1.2.2.2.1.1) (W.2.1.1.1.1 5) m1 W.2.1.2.1 → ∃ m2, RS (ZZ L xs) (d + 60) mX13_look 40 [some (.ref 259), some (.int (nI h)), some (.int b), some (.int (nI a.1)), some (.int (ruN j)), u5] [] (HP sh (pM x m1)) = some (HP sh (pM x m2), some (.int (lkA W b (lp (lkG W h) f j a)))) ∧ MJ m m2 := by
      intro f
      induction f with
      | zero =>
        intro j hj m1 a u5 ha hL hJ q
        have e32 : m1.1 32 = nI W.2.2.2.1 := hJ.1.2.1.trans hi.2.2.2.1.1
        refine ⟨m1, ?_, hJ⟩
        show _ = some (HP sh (pM x m1), some (Value.int (lkA W b a)))
        rw [bX13_look_40, M_rules hM, some_bind', e32, if_pos ((ruN_le (by omega) (by omega)).mpr (by omega))]
        by_cases c00 : a.1 = 0
        · unfold lkA
          rw [if_pos (show nI a.1 = 0 by rw [c00]; rfl), bX13_look_117, if_pos (Or.inl c00)]
        · rw [if_neg (nI_ne0 (by omega) (by omega)), M_scalar hM, some_bind', eI_l3, Me_scalar hM (by decide), some_bind', q.2.1.2.2.2.1]
          by_cases n0 : W.2.1.1.2.2.2 = 0
          · unfold lkA
            rw [if_neg (fun z => z (by rw [n0]; rfl)), bX13_look_117, if_pos (Or.inr n0)]
          · have lp2 : ∀ (f g : Nat), f + g = W.2.1.1.2.2.2 → ∀ (c : Nat) (u1 : Option Value), c < g → RS (ZZ L xs) (d + 60) mX13_look 126 [some (.ref 259), u1, some (.int b), some (.int (nI a.1)), some (.int (nI c)), some (.int (nI g))] [] (HP sh (pM x m1)) = some (HP sh (pM x m1), some (.int (if b = 0 then nI (lp (lkB a) f g c) else alV a (lp (lkB a) f g c)))) := by
              intro f
              induction f with
              | zero =>
                intro g hg c u1 hc
                rw [bX13_look_126, M_scalar hM, some_bind', eI_l3, Me_scalar hM (by decide), some_bind', q.2.1.2.2.2.1, if_pos (nI_le (by omega) (by omega))]
                by_cases c0 : b = 0
                · rw [if_neg (fun z => z c0), if_pos c0, bX13_look_185]
                  rfl
                · rw [if_pos c0, if_neg c0, M_is hM, some_bind', i_alikeM _ hM (show a.1 ≤ 7 by omega) h5 hL (show c < W.2.1.1.2.2.2 by omega), some_bind', bX13_look_185]
                  rfl
              | succ f ih2 =>
                intro g hg c u1 hc
                rw [bX13_look_126, M_scalar hM, some_bind', eI_l3, Me_scalar hM (by decide), some_bind', q.2.1.2.2.2.1, if_neg (nI_ge (by omega) (by omega)), M_is hM, some_bind', i_alikeM _ hM (show a.1 ≤ 7 by omega) h5 hL (show g < W.2.1.1.2.2.2 by omega), some_bind', M_is hM, some_bind', i_alikeM _ hM (show a.1 ≤ 7 by omega) h5 hL (show c < W.2.1.1.2.2.2 by omega), some_bind']
                by_cases le : alV a c ≤ alV a g
                · rw [if_pos le, bX13_look_161, nI_1, ih2 (g + 1) (by omega) c none (by omega), show lp (lkB a) (f + 1) g c = lp (lkB a) f (g + 1) c from congrArg (lp (lkB a) f (g + 1)) (if_pos le)]
                · rw [if_neg le, bX13_look_161, nI_1, ih2 (g + 1) (by omega) g none (by omega), show lp (lkB a) (f + 1) g c = lp (lkB a) f (g + 1) g from congrArg (lp (lkB a) f (g + 1)) (if_neg le)]
            unfold lkA
            rw [if_pos (nI_ne0 (by omega) (by omega)), if_neg (show ¬ (a.1 = 0 ∨ W.2.1.1.2.2.2 = 0) by omega)]
            exact lp2 (W.2.1.1.2.2.2 - 1) 1 (by omega) 0 _ (by omega)
      | succ f ih =>
        intro j hj m1 a u5 ha hL hJ q
        have e32 : m1.1 32 = nI W.2.2.2.1 := hJ.1.2.1.trans hi.2.2.2.1.1
        obtain ⟨m2, f1, f2, f3, f4, f5⟩ := Q_could (L := L) (xs := xs) (x := x) (d + 48) hM hv hp hi (j := j) (by omega) q
        have hc2 := lkG_le (W := W) (h := h) ha
        rw [bX13_look_40, M_rules hM, some_bind', e32, if_neg (fun z => by have := (ruN_le (by omega) (by omega)).mp z; omega), M_is hM, some_bind', f1, some_bind']
        by_cases e0 : ruV W j = 0
        · have hl : lkG W h j a = a := if_pos e0
          rw [hl] at hc2
          obtain ⟨m4, p1, p2⟩ := ih (j + 1) (by omega) m2 a none hc2 (fun k g hk hg => by rw [f4]; exact hL k g hk hg) f2 f3
          refine ⟨m4, ?_, p2⟩
          rw [if_pos e0, bX13_look_98, ruN_1, p1, show lp (lkG W h) (f + 1) j a = lp (lkG W h) f (j + 1) a from congrArg (lp (lkG W h) f (j + 1)) hl]
        · obtain ⟨m3, v5, i1, i2, i3, i4, i5⟩ := inner 5 0 rfl m2 a.1 (ruN j) (by omega) f2 f3
          have hl : (lkG W h j a).1 = a.1 + 1 := by unfold lkG; rw [if_neg e0]
          have hL2 : LkM W (lkG W h j a) m3 := fun k g hk hg => by
            unfold lkG at hk ⊢
            rw [if_neg e0] at hk ⊢
            have hk : k < a.1 + 1 := hk
            show _ = (if k = a.1 then noW W (RF W (ruN j)) (W.2.1.1.1.1 5) h g else a.2 k g)
            by_cases q2 : k = a.1
            · rw [if_pos q2, q2, i4 g (Nat.zero_le _) (by omega)]
              exact f5 h g (by omega) hg
            · rw [if_neg q2, i5 _ (by omega), f4]
              exact hL k g (by omega) hg
          obtain ⟨m4, p1, p2⟩ := ih (j + 1) (by omega) m3 (lkG W h j a) none hc2 hL2 i2 i3
          rw [hl] at p1
          refine ⟨m4, ?_, p2⟩
          rw [if_neg e0]
          refine i1.trans ?_
          rw [bX13_look_98, ruN_1]
          exact p1
    obtain ⟨m2, p1, p2⟩ := loop (W.2.2.2.1 + 1) 0 (by omega) m1 (0, fun _ _ => 0) none (by omega) (fun k g hk _ => absurd hk (Nat.not_lt_zero k)) k2 k3
    refine ⟨m2, ?_, p2⟩
    show RS (ZZ L xs) (d + 60) mX13_look 0 [some (.ref 259), some (.int (nI h)), some (.int b), none, none, none] [] _ = _
    rw [bX13_look_0, M_is hM, some_bind', i_townM _ hM hi hv, some_bind', if_neg (z1 g1), i_inM _ (show (0 : Int64) = (0 : Int32).toInt64 from rfl) (show (60 : Int64) = (60 : Int32).toInt64 from rfl), some_bind', if_neg (z1 g2), i_inM _ (show (0 : Int64) = (0 : Int32).toInt64 from rfl) (show (1 : Int64) = (1 : Int32).toInt64 from rfl), some_bind', if_pos (z1 g3), M_is hM, some_bind', k1, some_bind']
    rw [ruN_0] at p1
    exact p1
end LOOK2
