section GAME5
variable {L : Nat} {xs : Nat → Int32} {W : WD}
theorem Sp_game (hv : VW W) (a b c e : Int32) : Step L xs W mX12_game mX13_game [.int a, .int b, .int c, .int e] := by
  have h5 : W.2.1.1.2.2.2 ≤ 5 := hv.2.1.1.1.1.2.2.2
  have h6 : W.2.1.1.2.2.1 ≤ 6 := hv.2.1.1.1.1.2.1
  have h8 : W.2.1.1.2.1 ≤ 8 := hv.2.1.1.1.2.2.2.2.1.1
  have X0 : ∀ (sh : List Sh) (y : ST) (d : Nat), XI L xs sh y W → RS (ZZ L xs) (d + 60) mX12_game 0 [some (.ref 0), some (.int a), some (.int b), some (.int c), some (.int e), none] [] (HP sh y) = RS (ZZ L xs) (d + 60) mX12_game 26 [some (.ref 0), some (.int a), some (.int b), some (.int c), some (.int e), none] [.int (if iN W.2.1.1.2.2.1 a = true ∧ iN W.2.1.1.2.2.1 b = true ∧ ¬ a = b then 1 else 0)] (HP sh y) := fun sh y d hx => by
    rw [bX12_game_0, WM_is hx.1.1.1, some_bind', i_isPerson _ hx hv, some_bind']
    by_cases g1 : iN W.2.1.1.2.2.1 a = true
    · rw [if_neg (z1 g1), WM_is hx.1.1.1, some_bind', i_isPerson _ hx hv, some_bind']
      by_cases g2 : iN W.2.1.1.2.2.1 b = true
      · rw [if_neg (z1 g2)]
        by_cases g3 : a = b
        · rw [if_pos g3, bX12_game_25, if_neg (fun z => z.2.2 g3)]
        · rw [if_neg g3, if_pos ⟨g1, g2, g3⟩]
      · rw [if_pos (z0 g2), bX12_game_25, if_neg (fun z => g2 z.2.1)]
    · rw [if_pos (z0 g1), bX12_game_25, if_neg (fun z => g1 z.1)]
  by_cases g0 : iN W.2.1.1.2.2.1 a = true ∧ iN W.2.1.1.2.2.1 b = true ∧ ¬ a = b
  rotate_left
  · refine ⟨W, -1000, Xsame fun sh y d hx => ?_, Msame hv fun sh x m d hM hi => ?_⟩
    · show RS (ZZ L xs) (d + 60) mX12_game 0 [some (.ref 0), some (.int a), some (.int b), some (.int c), some (.int e), none] [] _ = _
      rw [X0 sh y d hx, if_neg g0, bX12_game_26, if_pos rfl, bX12_game_52]
    · show RS (ZZ L xs) (d + 60) mX13_game 0 [some (.ref 259), some (.int a), some (.int b), some (.int c), some (.int e), none, none, none, none] [] _ = _
      rw [bX13_game_0, M_is hM, some_bind', i_personM _ hM hi hv, some_bind']
      by_cases g1 : iN W.2.1.1.2.2.1 a = true
      · rw [if_neg (z1 g1), M_is hM, some_bind', i_personM _ hM hi hv, some_bind']
        by_cases g2 : iN W.2.1.1.2.2.1 b = true
        · rw [if_neg (z1 g2)]
          by_cases g3 : a = b
          · rw [if_pos g3, bX13_game_44]
          · exact absurd ⟨g1, g2, g3⟩ g0
        · rw [if_pos (z0 g2), bX13_game_44]
      · rw [if_pos (z0 g1), bX13_game_44]
  have M0 : ∀ (sh : List Sh) (x : ST) (m : MM) (d : Nat), isMo sh → MI L xs m W → RS (ZZ L xs) (d + 60) mX13_game 0 [some (.ref 259), some (.int a), some (.int b), some (.int c), some (.int e), none, none, none, none] [] (HP sh (pM x m)) = if z01 (wiB 1 3 c) = 0 then some (HP sh (pM x m), some (.int (-1000))) else if ¬ z01 (wiB 0 1 e) = 0 then RS (ZZ L xs) (d + 60) mX13_game 62 [some (.ref 259), some (.int a), some (.int b), some (.int c), some (.int e), some (.int (nI W.2.1.1.2.1)), some (.int 1), some (.int 0), none] [] (HP sh (pM x m)) else some (HP sh (pM x m), some (.int (-1000))) := fun sh x m d hM hi => by
    rw [bX13_game_0, M_is hM, some_bind', i_personM _ hM hi hv, some_bind', if_neg (z1 g0.1), M_is hM, some_bind', i_personM _ hM hi hv, some_bind', if_neg (z1 g0.2.1), if_neg g0.2.2, i_inM _ (show (1 : Int64) = (1 : Int32).toInt64 from rfl) (show (3 : Int64) = (3 : Int32).toInt64 from rfl), some_bind', i_inM _ (show (0 : Int64) = (0 : Int32).toInt64 from rfl) (show (1 : Int64) = (1 : Int32).toInt64 from rfl), some_bind', M_scalar hM, some_bind', eI_l0, Me_scalar hM (by decide), some_bind', hi.2.1.1.1.1, bX13_game_44]
  by_cases g4 : wiB 1 3 c = true
  rotate_left
  · refine ⟨W, -1000, Xsame fun sh y d hx => ?_, Msame hv fun sh x m d hM hi => ?_⟩
    · show RS (ZZ L xs) (d + 60) mX12_game 0 [some (.ref 0), some (.int a), some (.int b), some (.int c), some (.int e), none] [] _ = _
      rw [X0 sh y d hx, if_pos g0, bX12_game_26, if_neg (by decide), i_within, some_bind', if_pos (z0 g4), bX12_game_52]
    · show RS (ZZ L xs) (d + 60) mX13_game 0 [some (.ref 259), some (.int a), some (.int b), some (.int c), some (.int e), none, none, none, none] [] _ = _
      rw [M0 sh x m d hM hi, if_pos (z0 g4)]
  by_cases g5 : wiB 0 1 e = true
  rotate_left
  · refine ⟨W, -1000, Xsame fun sh y d hx => ?_, Msame hv fun sh x m d hM hi => ?_⟩
    · show RS (ZZ L xs) (d + 60) mX12_game 0 [some (.ref 0), some (.int a), some (.int b), some (.int c), some (.int e), none] [] _ = _
      rw [X0 sh y d hx, if_pos g0, bX12_game_26, if_neg (by decide), i_within, some_bind', if_neg (z1 g4), i_within, some_bind', if_neg (fun z => z (z0 g5)), bX12_game_52]
    · show RS (ZZ L xs) (d + 60) mX13_game 0 [some (.ref 259), some (.int a), some (.int b), some (.int c), some (.int e), none, none, none, none] [] _ = _
      rw [M0 sh x m d hM hi, if_neg (z1 g4), if_neg (fun z => z (z0 g5))]
  obtain ⟨p, hp, rfl⟩ := iN_ex (by omega) g0.1
  obtain ⟨q, hq, rfl⟩ := iN_ex (by omega) g0.2.1
  obtain ⟨n, ln, hn, rfl⟩ := wiB_ex (lo := 1) (hi := 3) rfl rfl (by decide) (by decide) g4
  refine ⟨W, if e = 0 then gaV W p q n 0 W.2.1.2.1 else gaF W p q n 0 (-1) W.2.1.2.1, Xask fun sh y d hx => ?_, Mask hv fun sh x m d hM hi => ?_⟩
  · have hS : isSc sh 3 := hx.1.1.2.2.1
    have hW : isWM sh 0 := hx.1.1.1
    have hC : isCk sh 183 := hx.1.1.2.2.2
    have hO : isOl sh 205 := hx.1.2.2.1
    have hN : isSt sh 10 := hS.2.2.2.2.1
    have hB : isSt sh 217 := isSt_trq hx.1 (Or.inr (Or.inl rfl))
    have hb0 : trq 217 := Or.inr (Or.inl rfl)
    obtain ⟨u, u1, u2, u3⟩ := Q_wind (L := L) (xs := xs) (d + 57) hv hx 217
    have off4 : Off (fun o => o = 205) u (sI (sI (sI (sI u 205 6 (nI p)) 205 7 (nI q)) 205 8 (nI n)) 205 9 (-1)) := Off_sI (D := fun o => o = 205) (Off_sI (D := fun o => o = 205) (Off_sI (D := fun o => o = 205) (Off_sI (D := fun o => o = 205) (Off_refl _ _) (by rfl) _ _) (by rfl) _ _) (by rfl) _ _) (by rfl) _ _
    have f6 : (sI (sI (sI (sI u 205 6 (nI p)) 205 7 (nI q)) 205 8 (nI n)) 205 9 (-1)).1 205 6 = nI p := rfl
    have f7 : (sI (sI (sI (sI u 205 6 (nI p)) 205 7 (nI q)) 205 8 (nI n)) 205 9 (-1)).1 205 7 = nI q := rfl
    have f8 : (sI (sI (sI (sI u 205 6 (nI p)) 205 7 (nI q)) 205 8 (nI n)) 205 9 (-1)).1 205 8 = nI n := rfl
    have f9 : (sI (sI (sI (sI u 205 6 (nI p)) 205 7 (nI q)) 205 8 (nI n)) 205 9 (-1)).1 205 9 = -1 := rfl
    have hw4 : ∀ (k : PH → Option (PH × Option Value)), (fP (HP sh u) (.ref 205) 2 6 (.int (nI p))).bind (fun h2 => (fP h2 (.ref 205) 2 7 (.int (nI q))).bind fun h7 => (fP h7 (.ref 205) 2 8 (.int (nI n))).bind fun h12 => (fP h12 (.ref 205) 2 9 (.int (-1))).bind k) = k (HP sh (sI (sI (sI (sI u 205 6 (nI p)) 205 7 (nI q)) 205 8 (nI n)) 205 9 (-1))) := fun k => by
      rw [Olw_one hO, some_bind', Olw_other hO, some_bind', Olw_turnCount hO, some_bind', Olw_firstMove hO, some_bind']
    generalize sI (sI (sI (sI u 205 6 (nI p)) 205 7 (nI q)) 205 8 (nI n)) 205 9 (-1) = w at *
    have w3 := QT_off u3 off4 (fun o q => by omega)
    obtain ⟨v, v1, v2, v3⟩ := Q_now (L := L) (xs := xs) (d + 57) hb0 w3
    have e205 : v.1 205 = w.1 205 := (v2 205 (by omega)).1
    obtain ⟨z, p1, p2, p3, p4⟩ := x_play (L := L) (xs := xs) hv hp hq hn n 0 rfl (d + 52 - n) v W.2.1.2.1 ⟨v3, by rw [e205]; exact f6, by rw [e205]; exact f7, by rw [e205]; exact f8⟩ hv.2.1.1.2.1.1.2.1
    rw [show d + 52 - n + n + 6 = d + 58 by omega] at p1
    rw [e205, f9] at p4
    have hoff : Off Dq y z := Off_trans (Off_trans (Off_trans (Off_mono u2 (fun o q => by unfold Dq; omega)) (Off_mono off4 (fun o q => by unfold Dq; omega))) (Off_mono v2 (fun o q => by unfold Dq; omega))) (Off_mono p2 (fun o q => by unfold Dga at q; unfold Dq; omega))
    have haf : cI (ZZ L xs) (d + 59) mX2_duel [.ref 205, .int (nI p), .int (nI q), .int (nI n), .int e] (HP sh u) = some (HP sh z, if e = 0 then gaV W p q n 0 W.2.1.2.1 else gaF W p q n 0 (-1) W.2.1.2.1) := by
      refine cI_of ?_
      show RS (ZZ L xs) (d + 59) mX2_duel 0 [some (.ref 205), some (.int (nI p)), some (.int (nI q)), some (.int (nI n)), some (.int e), none] [] _ = _
      rw [bX2_duel_0, hw4, Ol_turns hO, some_bind', show (205 + 9 : Nat) = 214 from rfl, show eR (HP sh w) (.ref 214) 0 = some (.ref 217) from r_turn w3.1 (show 0 < 4 by decide), some_bind', Ol_now hO, some_bind', Sc_state hS, some_bind', St_is hB, some_bind', v1, some_bind', Ol_is hO, some_bind', show cI (ZZ L xs) (d + 58) mX2_play [.ref 205, .int 0] (HP sh v) = _ from p1, some_bind']
      by_cases c0 : e = 0
      · rw [if_neg (fun z => z c0), if_pos c0, bX2_duel_57]
      · rw [if_pos c0, if_neg c0, Ol_firstMove hO, some_bind', p4, bX2_duel_57]
    refine ⟨z, ?_, p3.1.1, hoff⟩
    show RS (ZZ L xs) (d + 60) mX12_game 0 [some (.ref 0), some (.int (nI p)), some (.int (nI q)), some (.int (nI n)), some (.int e), none] [] _ = _
    rw [X0 sh y d hx, if_pos g0, bX12_game_26, if_neg (by decide), i_within, some_bind', if_neg (z1 g4), i_within, some_bind', if_pos (z1 g5), WM_is hW, some_bind', u1, some_bind', WM_outlook hW, some_bind', Ol_is hO, some_bind', haf, some_bind']
  · obtain ⟨m1, k1, k2, k3⟩ := Q_keep (L := L) (xs := xs) (x := x) (d + 56) hM hv hi
    obtain ⟨m2, p1, p2, p3⟩ := m_fill (L := L) (xs := xs) (x := x) d hM hv hi hp hq hn e (W.2.1.1.2.1 ^ n) 0 (by omega) m1 none k2 k3 (fun k hk => absurd hk (by omega))
    obtain ⟨n', rfl⟩ : ∃ n', n = n' + 1 := ⟨n - 1, by omega⟩
    obtain ⟨m3, q1, q2⟩ := m_red (L := L) (xs := xs) (x := x) (m := m) d hM hv hp hq hn e n' (by omega) m2 _ _ _ none p2 p3
    rw [nI_pred] at p1
    have pw : ∀ (f t : Nat), f + t = n' + 1 → ∀ (u8 : Option Value), RS (ZZ L xs) (d + 60) mX13_game 62 [some (.ref 259), some (.int (nI p)), some (.int (nI q)), some (.int (nI (n' + 1))), some (.int e), some (.int (nI W.2.1.1.2.1)), some (.int (nI (W.2.1.1.2.1 ^ t))), some (.int (nI t)), u8] [] (HP sh (pM x m)) = some (HP sh (pM x m3), some (.int (if e = 0 then gaV W p q (n' + 1) 0 W.2.1.2.1 else gaF W p q (n' + 1) 0 (-1) W.2.1.2.1))) := by
      intro f
      induction f with
      | zero =>
        intro t ht u8
        have : t = n' + 1 := by omega
        subst this
        rw [bX13_game_62, if_pos (nI_le (by omega) (by omega)), M_is hM, some_bind', k1, some_bind']
        exact p1.trans q1
      | succ f ih =>
        intro t ht u8
        rw [bX13_game_62, if_neg (nI_ge (by omega) (by omega)), nI_1, pk_mul, ← Nat.pow_succ]
        exact ih (t + 1) (by omega) none
    refine ⟨m3, ?_, q2⟩
    show RS (ZZ L xs) (d + 60) mX13_game 0 [some (.ref 259), some (.int (nI p)), some (.int (nI q)), some (.int (nI (n' + 1))), some (.int e), none, none, none, none] [] _ = _
    rw [M0 sh x m d hM hi, if_neg (z1 g4), if_pos (z1 g5)]
    exact pw (n' + 1) 0 (by omega) none
end GAME5
