/-! post -/
theorem nI_subI {a b : Nat} (ha : a < 2 ^ 30) (hb : b < 2 ^ 30) : (nI a - nI b).toInt = (a : Int) - b := by
  rw [Int32.toInt_sub, nI_toInt (by omega), nI_toInt (by omega)]
  apply Int.bmod_eq_of_le
  · omega
  · omega
theorem nI_sub_le {a b c : Nat} (ha : a < 2 ^ 30) (hb : b < 2 ^ 30) (hc : c < 2 ^ 30) : nI a - nI c ≤ nI b - nI c ↔ nI a ≤ nI b := by
  rw [Int32.le_iff_toInt_le, Int32.le_iff_toInt_le, nI_subI ha hc, nI_subI hb hc, nI_toInt (by omega), nI_toInt (by omega)]
  omega
theorem aj_m1 {i j : Nat} (hi : i < 8) (hj : j < 8) : aj (-1) i j = true := by
  have h : ∀ (i j : Fin 8), aj (-1) i.val j.val = true := by decide
  exact h ⟨i, hi⟩ ⟨j, hj⟩
theorem and_nst {l : Int64} (hs : symm8 l) {a b : Nat} (ha : a < 8) (hb : b < 8) (h : aj l a b = true) : l &&& (stS a b ^^^ (-1)) = l ^^^ stS a b := by
  apply aj_ext
  intro i j hi hj
  rw [aj_and, aj_xor, aj_xor, aj_m1 hi hj, aj_stS ha hb hi hj]
  have hba := hs a b ha hb h
  by_cases h1 : i = a ∧ j = b
  · rw [h1.1, h1.2, h]
    cases (decide (a ≠ b) && (decide (a = a) && decide (b = b) || decide (a = b) && decide (b = a))) <;> rfl
  · by_cases h2 : i = b ∧ j = a
    · rw [h2.1, h2.2, hba]
      cases (decide (a ≠ b) && (decide (b = a) && decide (a = b) || decide (b = b) && decide (a = a))) <;> rfl
    · have e1 : (decide (i = a) && decide (j = b)) = false := by rw [← Bool.decide_and]; exact decide_eq_false h1
      have e2 : (decide (i = b) && decide (j = a)) = false := by rw [← Bool.decide_and]; exact decide_eq_false h2
      rw [e1, e2]
      simp
section POST
variable {L : Nat} {xs : Nat → Int32} {W : WD}
theorem i_townM {sh : List Sh} {x : ST} {m : MM} (d : Nat) (hM : isMo sh) (hi : MI L xs m W) (hv : VW W) : cI (ZZ L xs) (d + 1) mX13_isTown [.ref 259] (HP sh (pM x m)) = some (HP sh (pM x m), z01 (decide (0 < W.2.1.1.2.1))) := by
  have h8 : W.2.1.1.2.1 ≤ 8 := hv.2.1.1.1.2.2.2.2.1.1
  rw [i_isTownM _ hM hi.2.1.1.1.1 h8]
  by_cases h : 0 < W.2.1.1.2.1
  · rw [if_pos h, decide_eq_true h]
    rfl
  · rw [if_neg h, decide_eq_false h]
    rfl
/-- how many have come, after n hours with these streets -/
def posC (W : WD) (n : Nat) (l : Int64) : Int32 := (woR W n (stO W.2.1.2.1 l)).1.2.2
def posG (W : WD) (n i j : Nat) (a : Int32 × Int32 × Int32) : Int32 × Int32 × Int32 := if aj W.2.1.2.1.2.1 i j = true then (if posC W n (W.2.1.2.1.2.1 ^^^ stS i j) ≤ a.1 then a else (posC W n (W.2.1.2.1.2.1 ^^^ stS i j), nI i, nI j)) else a
def posO (W : WD) (n i : Nat) (a : Int32 × Int32 × Int32) : Int32 × Int32 × Int32 := lp (posG W n i) (W.2.1.1.2.1 - (i + 1)) (i + 1) a
def posA (W : WD) (c : Int32) (a : Int32 × Int32 × Int32) : Int32 := if c = 0 then a.1 - W.2.1.2.1.1.2.2 else if c = 1 then a.2.1 else a.2.2
theorem VB_wo (hv : VW W) {s : SV} (hs : VB W.2.1.1.2.2.1 s 4995) {n : Nat} (hn : n ≤ 60) : VB W.2.1.1.2.2.1 (woR W n s) 6000 := by
  have h5 : W.2.1.1.2.2.2 ≤ 5 := hv.2.1.1.1.1.2.2.2
  have h6 : W.2.1.1.2.2.1 ≤ 6 := hv.2.1.1.1.1.2.1
  have : n * W.2.1.1.2.2.2 ≤ 60 * 5 := Nat.mul_le_mul hn h5
  exact VB_mono (VB_roS (R := RF W W.2.1.2.2.2.1.1) (w := W.2.1.1.1) (ns := W.2.1.1.2.2.2) (wr := W.2.1.1.1.1 5) h6 n s 4995 hs).1 (by omega)
theorem VB_now (hv : VW W) : VB W.2.1.1.2.2.1 W.2.1.2.1 4995 := by
  obtain ⟨-, h, hh, -, hvb⟩ := id hv.2.1.1.2.1
  exact VB_mono hvb (by omega)
theorem posC_b (hv : VW W) {n : Nat} (hn : n ≤ 60) (l : Int64) : ∃ k : Nat, k ≤ 6000 ∧ posC W n l = nI k := (VB_wo hv (s := stO W.2.1.2.1 l) (VB_cong (VB_now hv) rfl rfl) hn).1
theorem pos_le (hv : VW W) {a b : Int32} (ha : ∃ k : Nat, k ≤ 6000 ∧ a = nI k) (hb : ∃ k : Nat, k ≤ 6000 ∧ b = nI k) : a - W.2.1.2.1.1.2.2 ≤ b - W.2.1.2.1.1.2.2 ↔ a ≤ b := by
  obtain ⟨i, i1, rfl⟩ := ha
  obtain ⟨j, j1, rfl⟩ := hb
  obtain ⟨k, k1, k2⟩ := (VB_now hv).1
  rw [k2]
  exact nI_sub_le (by omega) (by omega) (by omega)
section
variable {sh : List Sh} {z : ST} {s : SV}
theorem Q_by (d : Nat) (hv : VW W) (h : QT L xs sh W 206 (RF W W.2.1.2.2.2.1.1) (W.2.1.1.1.1 5) z s) (n : Nat) (hn : n < 2 ^ 31) (l : Int64) : ∃ z', cI (ZZ L xs) (d + 7) mX2_comeBy [.ref 205, .long l, .int (nI n)] (HP sh z) = some (HP sh z', posC W n l - W.2.1.2.1.1.2.2) ∧ Off (Dt 206) z z' ∧ QT L xs sh W 206 (RF W W.2.1.2.2.2.1.1) (W.2.1.1.1.1 5) z' (woR W n (stO W.2.1.2.1 l)) := by
  have hb : trq 206 := Or.inl rfl
  have hx := h.1
  have hS : isSc sh 3 := hx.1.1.2.2.1
  have hW : isWM sh 0 := hx.1.1.1
  have hC : isCk sh 183 := hx.1.1.2.2.2
  have hO : isOl sh 205 := hx.1.2.2.1
  have hB : isSt sh 206 := hO.2.1
  have hN : isSt sh 10 := hS.2.2.2.2.1
  obtain ⟨v, v1, v2, v3⟩ := Q_now (L := L) (xs := xs) (d + 5) hb h
  obtain ⟨o1, o2⟩ := Q_open hb v3 l
  obtain ⟨w, w1, w2, w3⟩ := Q_run (L := L) (xs := xs) (d + 1) hv hb o2 n hn
  have e1 : w.1 206 2 = posC W n l := (Q_int w3).2.2
  have e2 : w.1 10 2 = W.2.1.2.1.1.2.2 := (XI_ints w3.1).2.2
  refine ⟨w, cI_of ?_, Off_trans (Off_trans (Off_mono v2 (fun o q => Or.inl q)) (Off_mono o1 (fun o q => Or.inl q))) w2, w3⟩
  show RS (ZZ L xs) (d + 7) mX2_comeBy 0 [some (.ref 205), some (.long l), none, some (.int (nI n))] [] _ = _
  rw [bX2_comeBy_0]
  simp (disch := omega) only [Ol_now hO, Ol_clock hO, Ol_trial hO, Ol_turns hO, Ol_gainOfOne hO, Ol_gainOfOther hO, Ol_one hO, Ol_other hO, Ol_turnCount hO, Ol_firstMove hO, Ol_x hO, Olw_one hO, Olw_other hO, Olw_turnCount hO, Olw_firstMove hO, Olw_x hO, Ol_is hO, Ole_gainOfOne hO, Ole_gainOfOther hO, Olu_gainOfOne hO, Olu_gainOfOther hO, Sc_state hS, Sc_past hS, Sc_force hS, Sc_x hS, Sc_notes hS, Sc_noteHour hS, Sc_noteStranger hS, Sc_notePerson hS, Scw_town hS, Scw_force hS, Scw_x hS, Scw_notes hS, Sc_is hS, Sce_noteHour hS, Sce_noteStranger hS, Sce_notePerson hS, Scu_noteHour hS, Scu_noteStranger hS, Scu_notePerson hS, WM_tape hW, WM_townReader hW, WM_ruleReader hW, WM_rules hW, WM_ruleCount hW, WM_now hW, WM_images hW, WM_clock hW, WM_outlook hW, WM_history hW, WMw_ruleCount hW, WMw_blankRule hW, WM_is hW, St_hour hB, St_chain hB, St_come hB, St_open hB, St_place hB, St_kind hB, St_asked hB, St_total hB, St_chains hB, St_at hB, St_before hB, Stw_hour hB, Stw_chain hB, Stw_come hB, Stw_open hB, St_is hB, Ste_place hB, Ste_kind hB, Ste_asked hB, Ste_total hB, Ste_chains hB, Ste_at hB, Ste_before hB, Stu_place hB, Stu_kind hB, Stu_asked hB, Stu_total hB, Stu_chains hB, Stu_at hB, Stu_before hB, St_hour hN, St_chain hN, St_come hN, St_open hN, St_place hN, St_kind hN, St_asked hN, St_total hN, St_chains hN, St_at hN, St_before hN, Stw_hour hN, Stw_chain hN, Stw_come hN, Stw_open hN, St_is hN, Ste_place hN, Ste_kind hN, Ste_asked hN, Ste_total hN, Ste_chains hN, Ste_at hN, Ste_before hN, Stu_place hN, Stu_kind hN, Stu_asked hN, Stu_total hN, Stu_chains hN, Stu_at hN, Stu_before hN, Ck_is hC, some_bind', v1, w1, e1, e2]
end
section
variable {sh : List Sh} {x : ST} {m m1 : MM} {s : SV}
theorem Q_in (d : Nat) [NeZero d] (hM : isMo sh) (hv : VW W) (hp : 0 < W.2.1.1.2.1) (hi : MI L xs m W) (h : QM L xs sh x W m (RF W W.2.1.2.2.2.1.1) (W.2.1.1.1.1 5) m1 s) (n : Nat) (hn : n < 2 ^ 31) : ∃ m2, cI (ZZ L xs) (d + 9) mX13_comeIn [.ref 259, .int (nI n)] (HP sh (pM x m1)) = some (HP sh (pM x m2), (woR W n s).1.2.2) ∧ MJ m m2 ∧ QM L xs sh x W m (RF W W.2.1.2.2.2.1.1) (W.2.1.1.1.1 5) m2 W.2.1.2.1 := by
  obtain ⟨g, g1, g2, g3⟩ := Q_goFor (L := L) (xs := xs) (x := x) d hM (hv.2.1.1.1.2.2.2.1 hp) h n hn
  obtain ⟨l, l1, l2, l3, l4⟩ := Q_lay (L := L) (xs := xs) (x := x) (d + 5) hM hv hi g3.1
  have e1 : g.2.1 0 6 = (woR W n s).1.2.2 := g3.2.2.2.1.2.2.1
  refine ⟨l, cI_of ?_, l2, l3⟩
  show RS (ZZ L xs) (d + 9) mX13_comeIn 0 [some (.ref 259), some (.int (nI n)), none] [] _ = _
  rw [bX13_comeIn_0, M_is hM, some_bind', g1, some_bind', M_scalar hM, some_bind', eI_l6, Me_scalar hM (by decide), some_bind', e1, M_is hM, some_bind', l1, some_bind']
end
theorem Sp_post (hv : VW W) (a b : Int32) : Step L xs W mX12_post mX13_post [.int a, .int b] := by
  have h5 : W.2.1.1.2.2.2 ≤ 5 := hv.2.1.1.1.1.2.2.2
  have h6 : W.2.1.1.2.2.1 ≤ 6 := hv.2.1.1.1.1.2.1
  have h8 : W.2.1.1.2.1 ≤ 8 := hv.2.1.1.1.2.2.2.2.1.1
  have hb : trq 206 := Or.inl rfl
  by_cases g1 : decide (0 < W.2.1.1.2.1) = true
  rotate_left
  · refine ⟨W, -2, Xsame fun sh y d hx => ?_, Msame hv fun sh x m d hM hi => ?_⟩
    · show RS (ZZ L xs) (d + 60) mX12_post 0 [some (.ref 0), some (.int a), some (.int b)] [] _ = _
      rw [bX12_post_0, WM_is hx.1.1.1, some_bind', i_hasTown _ hx hv, some_bind', if_pos (z0 g1), bX12_post_26]
    · show RS (ZZ L xs) (d + 60) mX13_post 0 [some (.ref 259), some (.int a), some (.int b), none, none, none, none, none, none, none] [] _ = _
      rw [bX13_post_0, M_is hM, some_bind', i_townM _ hM hi hv, some_bind', if_pos (z0 g1), bX13_post_31]
  by_cases g2 : wiB 1 60 a = true
  rotate_left
  · refine ⟨W, -2, Xsame fun sh y d hx => ?_, Msame hv fun sh x m d hM hi => ?_⟩
    · show RS (ZZ L xs) (d + 60) mX12_post 0 [some (.ref 0), some (.int a), some (.int b)] [] _ = _
      rw [bX12_post_0, WM_is hx.1.1.1, some_bind', i_hasTown _ hx hv, some_bind', if_neg (z1 g1), i_within, some_bind', if_pos (z0 g2), bX12_post_26]
    · show RS (ZZ L xs) (d + 60) mX13_post 0 [some (.ref 259), some (.int a), some (.int b), none, none, none, none, none, none, none] [] _ = _
      rw [bX13_post_0, M_is hM, some_bind', i_townM _ hM hi hv, some_bind', if_neg (z1 g1), i_inM _ (show (1 : Int64) = (1 : Int32).toInt64 from rfl) (show (60 : Int64) = (60 : Int32).toInt64 from rfl), some_bind', if_pos (z0 g2), bX13_post_31]
  obtain ⟨n, ln, hn, rfl⟩ := wiB_ex (lo := 1) (hi := 60) rfl rfl (by decide) (by decide) g2
  by_cases g3 : wiB 0 2 b = true
  rotate_left
  · refine ⟨W, -2, Xsame fun sh y d hx => ?_, Msame hv fun sh x m d hM hi => ?_⟩
    · show RS (ZZ L xs) (d + 60) mX12_post 0 [some (.ref 0), some (.int (nI n)), some (.int b)] [] _ = _
      rw [bX12_post_0, WM_is hx.1.1.1, some_bind', i_hasTown _ hx hv, some_bind', if_neg (z1 g1), i_within, some_bind', if_neg (z1 g2), i_within, some_bind', if_neg (fun z => z (z0 g3)), bX12_post_26]
    · show RS (ZZ L xs) (d + 60) mX13_post 0 [some (.ref 259), some (.int (nI n)), some (.int b), none, none, none, none, none, none, none] [] _ = _
      rw [bX13_post_0, M_is hM, some_bind', i_townM _ hM hi hv, some_bind', if_neg (z1 g1), i_inM _ (show (1 : Int64) = (1 : Int32).toInt64 from rfl) (show (60 : Int64) = (60 : Int32).toInt64 from rfl), some_bind', if_neg (z1 g2), i_inM _ (show (0 : Int64) = (0 : Int32).toInt64 from rfl) (show (2 : Int64) = (2 : Int32).toInt64 from rfl), some_bind', if_neg (fun z => z (z0 g3)), bX13_post_31]
  have hp : 0 < W.2.1.1.2.1 := of_decide_eq_true g1
  have hVs := hv.2.1.1.2.1.1.1
  refine ⟨W, posA W b (lp (posO W n) W.2.1.1.2.1 0 (posC W n W.2.1.2.1.2.1, -1, -1)), Xask fun sh y d hx => ?_, Mask hv fun sh x m d hM hi => ?_⟩
  · have hS : isSc sh 3 := hx.1.1.2.2.1
    have hW : isWM sh 0 := hx.1.1.1
    have hC : isCk sh 183 := hx.1.1.2.2.2
    have hO : isOl sh 205 := hx.1.2.2.1
    have hB : isSt sh 206 := hO.2.1
    have hN : isSt sh 10 := hS.2.2.2.2.1
    obtain ⟨u, u1, u2, u3⟩ := Q_wind (L := L) (xs := xs) (d + 57) hv hx 206
    obtain ⟨v, v1, v2, v3⟩ := Q_by (L := L) (xs := xs) (d + 51) hv u3 n (by omega) W.2.1.2.1.2.1
    have inner : ∀ (f i j : Nat), f + j = W.2.1.1.2.1 → i < j → ∀ (z : ST) (s : SV) (r : Int32 × Int32 × Int32) (u8 u9 u10 : Option Value), (∃ k : Nat, k ≤ 6000 ∧ r.1 = nI k) → QT L xs sh W 206 (RF W W.2.1.2.2.2.1.1) (W.2.1.1.1.1 5) z s → ∃ (z' : ST) (s' : SV) (r' : Int32 × Int32 × Int32) (u7 : Option Value), r' = lp (posG W n i) f j r ∧ (∃ k : Nat, k ≤ 6000 ∧ r'.1 = nI k) ∧ RS (ZZ L xs) (d + 59) mX2_bestShut 46 [some (.ref 205), some (.int (nI n)), some (.int b), some (.int (r.1 - W.2.1.2.1.1.2.2)), some (.int r.2.1), some (.int r.2.2), some (.int (nI i)), some (.int (nI j)), u8, u9, u10] [] (HP sh z) = RS (ZZ L xs) (d + 59) mX2_bestShut 25 [some (.ref 205), some (.int (nI n)), some (.int b), some (.int (r'.1 - W.2.1.2.1.1.2.2)), some (.int r'.2.1), some (.int r'.2.2), some (.int (nI (i + 1))), u7, none, none, none] [] (HP sh z') ∧ Off (Dt 206) z z' ∧ QT L xs sh W 206 (RF W W.2.1.2.2.2.1.1) (W.2.1.1.1.1 5) z' s' := by
      intro f
      induction f with
      | zero =>
        intro i j hj hij z s r u8 u9 u10 hr h
        obtain ⟨t0, t1, t2, -⟩ := Q_places h.1 hv
        refine ⟨z, s, r, some (.int (nI j)), rfl, hr, ?_, Off_refl _ _, h⟩
        rw [bX2_bestShut_46, Ol_now hO, some_bind', t1, some_bind', t2, some_bind', if_pos (nI_le (by omega) (by omega)), nI_1]
      | succ f ih =>
        intro i j hj hij z s r u8 u9 u10 hr h
        obtain ⟨t0, t1, t2, -⟩ := Q_places h.1 hv
        have hop : z.2.1 10 3 = W.2.1.2.1.2.1 := Xop h.1
        have hst : (W.2.1.2.1.2.1 &&& stS i j = 0) ↔ aj W.2.1.2.1.2.1 i j = false := and_st hVs.2.1 (by omega) (by omega) (by omega)
        rw [bX2_bestShut_46, Ol_now hO, some_bind', t1, some_bind', t2, some_bind', if_neg (nI_ge (by omega) (by omega)), i_street _ (by omega) (by omega), some_bind']
        simp only [Ol_now hO, Ol_clock hO, Ol_trial hO, Ol_turns hO, Ol_gainOfOne hO, Ol_gainOfOther hO, Ol_one hO, Ol_other hO, Ol_turnCount hO, Ol_firstMove hO, Ol_x hO, Olw_one hO, Olw_other hO, Olw_turnCount hO, Olw_firstMove hO, Olw_x hO, Ol_is hO, Ole_gainOfOne hO, Ole_gainOfOther hO, Olu_gainOfOne hO, Olu_gainOfOther hO, Sc_state hS, Sc_past hS, Sc_force hS, Sc_x hS, Sc_notes hS, Sc_noteHour hS, Sc_noteStranger hS, Sc_notePerson hS, Scw_town hS, Scw_force hS, Scw_x hS, Scw_notes hS, Sc_is hS, Sce_noteHour hS, Sce_noteStranger hS, Sce_notePerson hS, Scu_noteHour hS, Scu_noteStranger hS, Scu_notePerson hS, WM_tape hW, WM_townReader hW, WM_ruleReader hW, WM_rules hW, WM_ruleCount hW, WM_now hW, WM_images hW, WM_clock hW, WM_outlook hW, WM_history hW, WMw_ruleCount hW, WMw_blankRule hW, WM_is hW, St_hour hB, St_chain hB, St_come hB, St_open hB, St_place hB, St_kind hB, St_asked hB, St_total hB, St_chains hB, St_at hB, St_before hB, Stw_hour hB, Stw_chain hB, Stw_come hB, Stw_open hB, St_is hB, Ste_place hB, Ste_kind hB, Ste_asked hB, Ste_total hB, Ste_chains hB, Ste_at hB, Ste_before hB, Stu_place hB, Stu_kind hB, Stu_asked hB, Stu_total hB, Stu_chains hB, Stu_at hB, Stu_before hB, St_hour hN, St_chain hN, St_come hN, St_open hN, St_place hN, St_kind hN, St_asked hN, St_total hN, St_chains hN, St_at hN, St_before hN, Stw_hour hN, Stw_chain hN, Stw_come hN, Stw_open hN, St_is hN, Ste_place hN, Ste_kind hN, Ste_asked hN, Ste_total hN, Ste_chains hN, Ste_at hN, Ste_before hN, Stu_place hN, Stu_kind hN, Stu_asked hN, Stu_total hN, Stu_chains hN, Stu_at hN, Stu_before hN, Ck_is hC, some_bind', hop]
        by_cases ha : aj W.2.1.2.1.2.1 i j = true
        · obtain ⟨w, w1, w2, w3⟩ := Q_by (L := L) (xs := xs) (d + 51) hv h n (by omega) (W.2.1.2.1.2.1 ^^^ stS i j)
          have hc := posC_b hv hn (W.2.1.2.1.2.1 ^^^ stS i j)
          rw [if_neg (lg_ne0.mpr (fun z => by
            rw [hst, ha] at z
            cases z)), and_nst hVs.2.1 (by omega) (by omega) ha, w1, some_bind']
          by_cases hle : posC W n (W.2.1.2.1.2.1 ^^^ stS i j) ≤ r.1
          · obtain ⟨z', s', r', u7, p0, p1, p2, p3, p4⟩ := ih i (j + 1) (by omega) (by omega) w _ r none none none hr w3
            refine ⟨z', s', r', u7, ?_, p1, ?_, Off_trans w2 p3, p4⟩
            · rw [p0]
              show _ = lp (posG W n i) f (j + 1) (posG W n i j r)
              unfold posG
              rw [if_pos ha, if_pos hle]
            · rw [if_pos ((pos_le hv hc hr).mpr hle), bX2_bestShut_129, nI_1]
              exact p2
          · obtain ⟨z', s', r', u7, p0, p1, p2, p3, p4⟩ := ih i (j + 1) (by omega) (by omega) w _ (posC W n (W.2.1.2.1.2.1 ^^^ stS i j), nI i, nI j) none none none hc w3
            refine ⟨z', s', r', u7, ?_, p1, ?_, Off_trans w2 p3, p4⟩
            · rw [p0]
              show _ = lp (posG W n i) f (j + 1) (posG W n i j r)
              conv => rhs; unfold posG
              rw [if_pos ha, if_neg hle]
              rfl
            · rw [if_neg (fun z => hle ((pos_le hv hc hr).mp z)), bX2_bestShut_129, nI_1]
              exact p2
        · obtain ⟨z', s', r', u7, p0, p1, p2, p3, p4⟩ := ih i (j + 1) (by omega) (by omega) z _ r none none none hr h
          refine ⟨z', s', r', u7, ?_, p1, ?_, p3, p4⟩
          · rw [p0]
            show _ = lp (posG W n i) f (j + 1) (posG W n i j r)
            conv => rhs; unfold posG
            rw [if_neg ha]
            rfl
          · rw [if_pos (show lg_cmp (W.2.1.2.1.2.1 &&& stS i j) 0 = 0 by
              rw [hst.mpr (by simpa using ha)]
              decide), bX2_bestShut_129, nI_1]
            exact p2
    have outer : ∀ (f i : Nat), f + i = W.2.1.1.2.1 → ∀ (z : ST) (s : SV) (r : Int32 × Int32 × Int32) (u7 u8 u9 u10 : Option Value), (∃ k : Nat, k ≤ 6000 ∧ r.1 = nI k) → QT L xs sh W 206 (RF W W.2.1.2.2.2.1.1) (W.2.1.1.1.1 5) z s → ∃ z', RS (ZZ L xs) (d + 59) mX2_bestShut 25 [some (.ref 205), some (.int (nI n)), some (.int b), some (.int (r.1 - W.2.1.2.1.1.2.2)), some (.int r.2.1), some (.int r.2.2), some (.int (nI i)), u7, u8, u9, u10] [] (HP sh z) = some (HP sh z', some (.int (posA W b (lp (posO W n) f i r)))) ∧ Off (Dt 206) z z' ∧ XI L xs sh z' W := by
      intro f
      induction f with
      | zero =>
        intro i hi z s r u7 u8 u9 u10 hr h
        obtain ⟨t0, t1, t2, -⟩ := Q_places h.1 hv
        refine ⟨z, ?_, Off_refl _ _, h.1⟩
        rw [bX2_bestShut_25, Ol_now hO, some_bind', t1, some_bind', t2, some_bind', if_pos (nI_le (by omega) (by omega))]
        unfold posA
        by_cases c0 : b = 0
        · rw [if_neg (fun z => z c0), if_pos c0]
          rfl
        · rw [if_pos c0, if_neg c0]
          by_cases c1 : b = 1
          · rw [if_neg (fun z => z c1), if_pos c1, bX2_bestShut_159]
            rfl
          · rw [if_pos c1, if_neg c1, bX2_bestShut_159]
            rfl
      | succ f ih =>
        intro i hi z s r u7 u8 u9 u10 hr h
        obtain ⟨t0, t1, t2, -⟩ := Q_places h.1 hv
        obtain ⟨z', s', r', v7, p0, p1, p2, p3, p4⟩ := inner (W.2.1.1.2.1 - (i + 1)) i (i + 1) (by omega) (by omega) z s r none none none hr h
        obtain ⟨z2, q1, q2, q3⟩ := ih (i + 1) (by omega) z' s' r' v7 none none none p1 p4
        refine ⟨z2, ?_, Off_trans p3 q2, q3⟩
        rw [bX2_bestShut_25, Ol_now hO, some_bind', t1, some_bind', t2, some_bind', if_neg (nI_ge (by omega) (by omega)), nI_1, p2, q1, p0]
        rfl
    obtain ⟨w, w1, w2, w3⟩ := outer W.2.1.1.2.1 0 (by omega) v _ (posC W n W.2.1.2.1.2.1, -1, -1) none none none none (posC_b hv hn _) v3
    have hoff : Off Dq y w := Off_trans (Off_mono u2 (fun o q => by unfold Dq; omega)) (Off_mono (Off_trans v2 w2) (fun o q => Dt_q hb q))
    have hop : u.2.1 10 3 = W.2.1.2.1.2.1 := Xop u3.1
    have haf : cI (ZZ L xs) (d + 59) mX2_bestShut [.ref 205, .int (nI n), .int b] (HP sh u) = some (HP sh w, posA W b (lp (posO W n) W.2.1.1.2.1 0 (posC W n W.2.1.2.1.2.1, -1, -1))) := by
      refine cI_of ?_
      show RS (ZZ L xs) (d + 59) mX2_bestShut 0 [some (.ref 205), some (.int (nI n)), some (.int b), none, none, none, none, none, none, none, none] [] _ = _
      rw [bX2_bestShut_0]
      simp only [Ol_now hO, Ol_clock hO, Ol_trial hO, Ol_turns hO, Ol_gainOfOne hO, Ol_gainOfOther hO, Ol_one hO, Ol_other hO, Ol_turnCount hO, Ol_firstMove hO, Ol_x hO, Olw_one hO, Olw_other hO, Olw_turnCount hO, Olw_firstMove hO, Olw_x hO, Ol_is hO, Ole_gainOfOne hO, Ole_gainOfOther hO, Olu_gainOfOne hO, Olu_gainOfOther hO, Sc_state hS, Sc_past hS, Sc_force hS, Sc_x hS, Sc_notes hS, Sc_noteHour hS, Sc_noteStranger hS, Sc_notePerson hS, Scw_town hS, Scw_force hS, Scw_x hS, Scw_notes hS, Sc_is hS, Sce_noteHour hS, Sce_noteStranger hS, Sce_notePerson hS, Scu_noteHour hS, Scu_noteStranger hS, Scu_notePerson hS, WM_tape hW, WM_townReader hW, WM_ruleReader hW, WM_rules hW, WM_ruleCount hW, WM_now hW, WM_images hW, WM_clock hW, WM_outlook hW, WM_history hW, WMw_ruleCount hW, WMw_blankRule hW, WM_is hW, St_hour hB, St_chain hB, St_come hB, St_open hB, St_place hB, St_kind hB, St_asked hB, St_total hB, St_chains hB, St_at hB, St_before hB, Stw_hour hB, Stw_chain hB, Stw_come hB, Stw_open hB, St_is hB, Ste_place hB, Ste_kind hB, Ste_asked hB, Ste_total hB, Ste_chains hB, Ste_at hB, Ste_before hB, Stu_place hB, Stu_kind hB, Stu_asked hB, Stu_total hB, Stu_chains hB, Stu_at hB, Stu_before hB, St_hour hN, St_chain hN, St_come hN, St_open hN, St_place hN, St_kind hN, St_asked hN, St_total hN, St_chains hN, St_at hN, St_before hN, Stw_hour hN, Stw_chain hN, Stw_come hN, Stw_open hN, St_is hN, Ste_place hN, Ste_kind hN, Ste_asked hN, Ste_total hN, Ste_chains hN, Ste_at hN, Ste_before hN, Stu_place hN, Stu_kind hN, Stu_asked hN, Stu_total hN, Stu_chains hN, Stu_at hN, Stu_before hN, Ck_is hC, some_bind', hop, v1]
      exact w1
    refine ⟨w, ?_, w3, hoff⟩
    show RS (ZZ L xs) (d + 60) mX12_post 0 [some (.ref 0), some (.int (nI n)), some (.int b)] [] _ = _
    rw [bX12_post_0, WM_is hx.1.1.1, some_bind', i_hasTown _ hx hv, some_bind', if_neg (z1 g1), i_within, some_bind', if_neg (z1 g2), i_within, some_bind', if_pos (z1 g3), WM_is hW, some_bind', u1, some_bind', WM_outlook hW, some_bind', Ol_is hO, some_bind', haf, some_bind']
  · obtain ⟨m1, k1, k2, k3⟩ := Q_keep (L := L) (xs := xs) (x := x) (d + 56) hM hv hi
    obtain ⟨m2, j1, j2, j3⟩ := Q_in (L := L) (xs := xs) (x := x) (d + 50) hM hv hp hi k3 n (by omega)
    have e0 : (woR W n W.2.1.2.1).1.2.2 = posC W n W.2.1.2.1.2.1 := rfl
    have inner : ∀ (f i j : Nat), f + j = W.2.1.1.2.1 → i < j → ∀ (m1 : MM) (r : Int32 × Int32 × Int32) (u9 : Option Value), MJ m m1 → QM L xs sh x W m (RF W W.2.1.2.2.2.1.1) (W.2.1.1.1.1 5) m1 W.2.1.2.1 → ∃ (m2 : MM) (u8 : Option Value), RS (ZZ L xs) (d + 60) mX13_post 79 [some (.ref 259), some (.int (nI n)), some (.int b), some (.int W.2.1.2.1.1.2.2), some (.int r.1), some (.int r.2.1), some (.int r.2.2), some (.int (nI i)), some (.int (nI j)), u9] [] (HP sh (pM x m1)) = RS (ZZ L xs) (d + 60) mX13_post 62 [some (.ref 259), some (.int (nI n)), some (.int b), some (.int W.2.1.2.1.1.2.2), some (.int (lp (posG W n i) f j r).1), some (.int (lp (posG W n i) f j r).2.1), some (.int (lp (posG W n i) f j r).2.2), some (.int (nI (i + 1))), u8, none] [] (HP sh (pM x m2)) ∧ MJ m m2 ∧ QM L xs sh x W m (RF W W.2.1.2.2.2.1.1) (W.2.1.1.1.1 5) m2 W.2.1.2.1 := by
      intro f
      induction f with
      | zero =>
        intro i j hj hij m1 r u9 hJ h
        refine ⟨m1, some (.int (nI j)), ?_, hJ, h⟩
        rw [bX13_post_79, M_scalar hM, some_bind', eI_l0, Me_scalar hM (by decide), some_bind', h.2.1.1, if_pos (nI_le (by omega) (by omega)), nI_1]
        rfl
      | succ f ih =>
        intro i j hj hij m1 r u9 hJ h
        have hbt : bt (nb W.2.1.2.1.2.1 (nI i)) j = aj W.2.1.2.1.2.1 i j := by
          rw [bt_nb _ (by omega) (by omega), decide_eq_true (show j < 8 by omega), Bool.true_and]
        have hr8 : m1.2.1 8 i = nb W.2.1.2.1.2.1 (nI i) := h.2.2.1 i (by omega)
        rw [bX13_post_79, M_scalar hM, some_bind', eI_l0, Me_scalar hM (by decide), some_bind', h.2.1.1, if_neg (nI_ge (by omega) (by omega)), M_open hM, some_bind', Me_open hM (by omega), some_bind', hr8, i_has _ _ (by omega), some_bind', hbt]
        by_cases ha : aj W.2.1.2.1.2.1 i j = true
        · obtain ⟨c, c1, c2⟩ := Q_shuts (L := L) (xs := xs) (x := x) (d + 58) hM h (a := i) (b := j) (by omega) (by omega) (by omega)
          obtain ⟨e, e1, e2, e3⟩ := Q_in (L := L) (xs := xs) (x := x) (d + 50) hM hv hp hi c2 n (by omega)
          have e1 : cI (ZZ L xs) (d + 59) mX13_comeIn [.ref 259, .int (nI n)] (HP sh (pM x c)) = some (HP sh (pM x e), posC W n (W.2.1.2.1.2.1 ^^^ stS i j)) := e1
          rw [if_neg (fun z => b01_0.mp z ha), M_is hM, some_bind', c1, some_bind', M_is hM, some_bind', e1, some_bind']
          by_cases hle : posC W n (W.2.1.2.1.2.1 ^^^ stS i j) ≤ r.1
          · have hg : lp (posG W n i) (f + 1) j r = lp (posG W n i) f (j + 1) r := congrArg (lp (posG W n i) f (j + 1)) (by unfold posG; rw [if_pos ha, if_pos hle])
            obtain ⟨m2, u8, p1, p2, p3⟩ := ih i (j + 1) (by omega) (by omega) e r none e2 e3
            refine ⟨m2, u8, ?_, p2, p3⟩
            rw [if_pos hle, bX13_post_139, nI_1, hg]
            exact p1
          · have hg : lp (posG W n i) (f + 1) j r = lp (posG W n i) f (j + 1) (posC W n (W.2.1.2.1.2.1 ^^^ stS i j), nI i, nI j) := congrArg (lp (posG W n i) f (j + 1)) (by unfold posG; rw [if_pos ha, if_neg hle])
            obtain ⟨m2, u8, p1, p2, p3⟩ := ih i (j + 1) (by omega) (by omega) e (posC W n (W.2.1.2.1.2.1 ^^^ stS i j), nI i, nI j) none e2 e3
            refine ⟨m2, u8, ?_, p2, p3⟩
            rw [if_neg hle, bX13_post_139, nI_1, hg]
            exact p1
        · have hg : lp (posG W n i) (f + 1) j r = lp (posG W n i) f (j + 1) r := congrArg (lp (posG W n i) f (j + 1)) (by unfold posG; rw [if_neg ha])
          obtain ⟨m2, u8, p1, p2, p3⟩ := ih i (j + 1) (by omega) (by omega) m1 r none hJ h
          refine ⟨m2, u8, ?_, p2, p3⟩
          rw [if_pos (b01_0.mpr ha), bX13_post_139, nI_1, hg]
          exact p1
    have outer : ∀ (f i : Nat), f + i = W.2.1.1.2.1 → ∀ (m1 : MM) (r : Int32 × Int32 × Int32) (u8 u9 : Option Value), MJ m m1 → QM L xs sh x W m (RF W W.2.1.2.2.2.1.1) (W.2.1.1.1.1 5) m1 W.2.1.2.1 → ∃ m2, RS (ZZ L xs) (d + 60) mX13_post 62 [some (.ref 259), some (.int (nI n)), some (.int b), some (.int W.2.1.2.1.1.2.2), some (.int r.1), some (.int r.2.1), some (.int r.2.2), some (.int (nI i)), u8, u9] [] (HP sh (pM x m1)) = some (HP sh (pM x m2), some (.int (posA W b (lp (posO W n) f i r)))) ∧ MJ m m2 := by
      intro f
      induction f with
      | zero =>
        intro i hi2 m1 r u8 u9 hJ h
        refine ⟨m1, ?_, hJ⟩
        rw [bX13_post_62, M_scalar hM, some_bind', eI_l0, Me_scalar hM (by decide), some_bind', h.2.1.1, if_pos (nI_le (by omega) (by omega))]
        unfold posA
        by_cases c0 : b = 0
        · rw [if_neg (fun z => z c0), if_pos c0, bX13_post_174]
          rfl
        · rw [if_pos c0, if_neg c0]
          by_cases c1 : b = 1
          · rw [if_neg (fun z => z c1), if_pos c1, bX13_post_174]
            rfl
          · rw [if_pos c1, if_neg c1, bX13_post_174]
            rfl
      | succ f ih =>
        intro i hi2 m1 r u8 u9 hJ h
        obtain ⟨m2, v8, p1, p2, p3⟩ := inner (W.2.1.1.2.1 - (i + 1)) i (i + 1) (by omega) (by omega) m1 r none hJ h
        obtain ⟨m3, q1, q2⟩ := ih (i + 1) (by omega) m2 (lp (posG W n i) (W.2.1.1.2.1 - (i + 1)) (i + 1) r) v8 none p2 p3
        refine ⟨m3, ?_, q2⟩
        rw [bX13_post_62, M_scalar hM, some_bind', eI_l0, Me_scalar hM (by decide), some_bind', h.2.1.1, if_neg (nI_ge (by omega) (by omega)), nI_1, p1, q1]
        rfl
    obtain ⟨m3, q1, q2⟩ := outer W.2.1.1.2.1 0 (by omega) m2 (posC W n W.2.1.2.1.2.1, -1, -1) none none j2 j3
    refine ⟨m3, ?_, q2⟩
    show RS (ZZ L xs) (d + 60) mX13_post 0 [some (.ref 259), some (.int (nI n)), some (.int b), none, none, none, none, none, none, none] [] _ = _
    rw [bX13_post_0, M_is hM, some_bind', i_townM _ hM hi hv, some_bind', if_neg (z1 g1), i_inM _ (show (1 : Int64) = (1 : Int32).toInt64 from rfl) (show (60 : Int64) = (60 : Int32).toInt64 from rfl), some_bind', if_neg (z1 g2), i_inM _ (show (0 : Int64) = (0 : Int32).toInt64 from rfl) (show (2 : Int64) = (2 : Int32).toInt64 from rfl), some_bind', if_pos (z1 g3), M_scalar hM, some_bind', eI_l6, Me_scalar hM (by decide), some_bind', M_is hM, some_bind', k1, some_bind', M_is hM, some_bind', j1, some_bind', hi.2.1.2.1.2.2.2.1, e0]
    exact q1
end POST
