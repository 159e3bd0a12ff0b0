/-! more calls that only ask; what is set -/
theorem allF_app (s : SV) : ∀ (a b p : Nat) (n : Int32), allF s (a + b) p n = allF s b (p + a) (allF s a p n)
  | 0, b, p, n => by rw [Nat.zero_add]; rfl
  | a + 1, b, p, n => by
    rw [show a + 1 + b = (a + b) + 1 by omega]
    show allF s (a + b) (p + 1) (n + s.2.2 3 p) = allF s b (p + (a + 1)) (allF s a (p + 1) (n + s.2.2 3 p))
    rw [allF_app s a b (p + 1), show p + 1 + a = p + (a + 1) by omega]
theorem allF_0 (s : SV) : ∀ (f p : Nat) (n : Int32), (∀ q, p ≤ q → q < p + f → s.2.2 3 q = 0) → allF s f p n = n
  | 0, _, _, _ => rfl
  | f + 1, p, n, h => by
    show allF s f (p + 1) (n + s.2.2 3 p) = n
    rw [h p (Nat.le_refl _) (by omega), Int32.add_zero]
    exact allF_0 s f (p + 1) n (fun q h1 h2 => h q (by omega) (by omega))
theorem allF_q {s t : SV} : ∀ (f p : Nat) (n : Int32), (∀ q, p ≤ q → q < p + f → s.2.2 3 q = t.2.2 3 q) → allF s f p n = allF t f p n
  | 0, _, _, _ => rfl
  | f + 1, p, n, h => by
    show allF s f (p + 1) (n + s.2.2 3 p) = allF t f (p + 1) (n + t.2.2 3 p)
    rw [h p (Nat.le_refl _) (by omega)]
    exact allF_q f (p + 1) _ (fun q h1 h2 => h q (by omega) (by omega))
theorem allF_np {s : SV} {np B : Nat} (h6 : np ≤ 6) (hb : VB np s B) : allF s 6 0 0 = allF s np 0 0 := by
  have := allF_app s np (6 - np) 0 0
  rw [show np + (6 - np) = 6 by omega, Nat.zero_add, allF_0 s (6 - np) np _ (fun q h1 h2 => hb.2.2 q h1 (by omega))] at this
  exact this
section GET
variable {L : Nat} {xs : Nat → Int32} {W : WD}
theorem i_allX {sh : List Sh} {y : ST} (d : Nat) (hx : XI L xs sh y W) (hv : VW W) : cI (ZZ L xs) (d + 1) mX7_askedInAll [.ref 10] (HP sh y) = some (HP sh y, allF W.2.1.2.1 W.2.1.1.2.2.1 0 0) := by
  have hB : isSt sh 10 := hx.1.1.2.2.1.2.2.2.2.1
  obtain ⟨h, -, -, hb⟩ := hv.2.1.1.2.1.2
  rw [i_all d hB, allF_q (t := W.2.1.2.1) 6 0 0 (fun q _ h2 => Xst hx (j := 3) (by decide) (show q < 6 by omega)), allF_np hv.2.1.1.1.1.2.1 hb]
theorem Sp_stranger (hv : VW W) (a b : Int32) : Step L xs W mX12_stranger mX13_stranger [.int a, .int b] := by
  have h5 : W.2.1.1.2.2.2 ≤ 5 := hv.2.1.1.1.1.2.2.2
  by_cases ha : iN W.2.1.1.2.2.2 a = true
  · obtain ⟨q, hq, rfl⟩ := iN_ex (by omega) ha
    refine ⟨W, if b = 0 then W.2.1.1.1.2.2 2 q else if b = 1 then W.2.1.1.1.2.2 3 q else if b = 2 then W.2.1.1.1.2.2 4 q else if b = 3 then W.2.1.2.1.2.2 5 q else -2, Xsame fun sh y d hx => ?_, Msame hv fun sh x m d hM hi => ?_⟩
    · obtain ⟨t, t1, -, t3, -, t4⟩ := X_town hx
      have hB : isSt sh 10 := hx.1.1.2.2.1.2.2.2.2.1
      show RS (ZZ L xs) (d + 60) mX12_stranger 0 [some (.ref 0), some (.int (nI q)), some (.int b)] [] _ = _
      rw [bX12_stranger_0, WM_is hx.1.1.1, some_bind', i_isStranger _ hx hv, some_bind', if_pos (z1 ha)]
      by_cases b0 : b = 0
      · rw [if_pos b0, if_pos b0, bX12_stranger_44, WM_now hx.1.1.1, some_bind', t4, some_bind', To_from t1, some_bind', Toe_from t1 _ (by omega), some_bind', ← Xto (sh := sh) t3 (j := 2) (by decide)]
      rw [if_neg b0, if_neg b0]
      by_cases b1 : b = 1
      · rw [if_pos b1, if_pos b1, bX12_stranger_57, WM_now hx.1.1.1, some_bind', t4, some_bind', To_to t1, some_bind', Toe_to t1 _ (by omega), some_bind', ← Xto (sh := sh) t3 (j := 3) (by decide)]
      rw [if_neg b1, if_neg b1]
      by_cases b2 : b = 2
      · rw [if_pos b2, if_pos b2, bX12_stranger_70, WM_now hx.1.1.1, some_bind', t4, some_bind', To_every t1, some_bind', Toe_every t1 _ (by omega), some_bind', ← Xto (sh := sh) t3 (j := 4) (by decide)]
      rw [if_neg b2, if_neg b2]
      by_cases b3 : b = 3
      · rw [if_pos b3, if_pos b3, bX12_stranger_83, WM_now hx.1.1.1, some_bind', Sc_state hx.1.1.2.2.1, some_bind', St_at hB, some_bind', Ste_at hB _ (by omega), some_bind', Xst hx (j := 5) (by decide) (show q < 5 by omega)]
      rw [if_neg b3, if_neg b3, bX12_stranger_96]
    · have hD := hi.2.1.2.1.2
      have hw := hi.2.1.1.1.2.2.2.2.2 q hq
      show RS (ZZ L xs) (d + 60) mX13_stranger 0 [some (.ref 259), some (.int (nI q)), some (.int b)] [] _ = _
      rw [bX13_stranger_0, M_is hM, some_bind', i_strangerM _ hM hi hv, some_bind', if_pos (z1 ha)]
      by_cases b0 : b = 0
      · rw [if_pos b0, if_pos b0, bX13_stranger_44, M_from hM, some_bind', Me_from hM (by omega), some_bind', hw.1]
      rw [if_neg b0, if_neg b0]
      by_cases b1 : b = 1
      · rw [if_pos b1, if_pos b1, bX13_stranger_51, M_to hM, some_bind', Me_to hM (by omega), some_bind', hw.2.1]
      rw [if_neg b1, if_neg b1]
      by_cases b2 : b = 2
      · rw [if_pos b2, if_pos b2, bX13_stranger_58, M_every hM, some_bind', Me_every hM (by omega), some_bind', hw.2.2]
      rw [if_neg b2, if_neg b2]
      by_cases b3 : b = 3
      · rw [if_pos b3, if_pos b3, bX13_stranger_65, M_where hM, some_bind', Me_where hM (by omega), some_bind', Md_where hD hq]
      rw [if_neg b3, if_neg b3, bX13_stranger_72]
  · refine ⟨W, -2, Xsame fun sh y d hx => ?_, Msame hv fun sh x m d hM hi => ?_⟩
    · show RS (ZZ L xs) (d + 60) mX12_stranger 0 [some (.ref 0), some (.int a), some (.int b)] [] _ = _
      rw [bX12_stranger_0, WM_is hx.1.1.1, some_bind', i_isStranger _ hx hv, some_bind', if_neg (fun z => z (z0 ha))]
    · show RS (ZZ L xs) (d + 60) mX13_stranger 0 [some (.ref 259), some (.int a), some (.int b)] [] _ = _
      rw [bX13_stranger_0, M_is hM, some_bind', i_strangerM _ hM hi hv, some_bind', if_neg (fun z => z (z0 ha))]
theorem Xop {sh : List Sh} {y : ST} (hx : XI L xs sh y W) : y.2.1 10 3 = W.2.1.2.1.2.1 := hx.2.2.2.2.1.2.2.1.2.1
theorem Sp_streets (hv : VW W) (a : Int32) : Step L xs W mX12_streets mX13_streets [.int a] := by
  have h8 : W.2.1.1.2.1 ≤ 8 := hv.2.1.1.1.2.2.2.2.1.1
  by_cases ha : iN W.2.1.1.2.1 a = true
  · obtain ⟨q, hq, rfl⟩ := iN_ex (by omega) ha
    refine ⟨W, nb W.2.1.2.1.2.1 (nI q), Xsame fun sh y d hx => ?_, Msame hv fun sh x m d hM hi => ?_⟩
    · have hB : isSt sh 10 := hx.1.1.2.2.1.2.2.2.2.1
      show RS (ZZ L xs) (d + 60) mX12_streets 0 [some (.ref 0), some (.int (nI q))] [] _ = _
      rw [bX12_streets_0, WM_is hx.1.1.1, some_bind', i_isPlace _ hx hv, some_bind', if_neg (z1 ha), WM_now hx.1.1.1, some_bind', Sc_state hx.1.1.2.2.1, some_bind', St_open hB, some_bind', Xop hx, i_nb, some_bind', bX12_streets_26]
    · show RS (ZZ L xs) (d + 60) mX13_streets 0 [some (.ref 259), some (.int (nI q))] [] _ = _
      rw [bX13_streets_0, M_is hM, some_bind', i_placeM _ hM hi hv, some_bind', if_neg (z1 ha), M_open hM, some_bind', Me_open hM (by omega), some_bind', bX13_streets_18, hi.2.1.2.1.1 q (by omega)]
  · refine ⟨W, -1, Xsame fun sh y d hx => ?_, Msame hv fun sh x m d hM hi => ?_⟩
    · show RS (ZZ L xs) (d + 60) mX12_streets 0 [some (.ref 0), some (.int a)] [] _ = _
      rw [bX12_streets_0, WM_is hx.1.1.1, some_bind', i_isPlace _ hx hv, some_bind', if_pos (z0 ha), bX12_streets_26]
    · show RS (ZZ L xs) (d + 60) mX13_streets 0 [some (.ref 259), some (.int a)] [] _ = _
      rw [bX13_streets_0, M_is hM, some_bind', i_placeM _ hM hi hv, some_bind', if_pos (z0 ha), bX13_streets_18]
theorem Sp_before (hv : VW W) (a b : Int32) : Step L xs W mX12_before mX13_before [.int a, .int b] := by
  have h5 : W.2.1.1.2.2.2 ≤ 5 := hv.2.1.1.1.1.2.2.2
  have h6 : W.2.1.1.2.2.1 ≤ 6 := hv.2.1.1.1.1.2.1
  by_cases ha : iN W.2.1.1.2.2.2 a = true
  · by_cases hb : iN W.2.1.1.2.2.1 b = true
    · obtain ⟨g, hg, rfl⟩ := iN_ex (by omega) ha
      obtain ⟨p, hp, rfl⟩ := iN_ex (by omega) hb
      refine ⟨W, W.2.1.2.1.2.2 6 (g * 6 + p), Xsame fun sh y d hx => ?_, Msame hv fun sh x m d hM hi => ?_⟩
      · have hB : isSt sh 10 := hx.1.1.2.2.1.2.2.2.2.1
        show RS (ZZ L xs) (d + 60) mX12_before 0 [some (.ref 0), some (.int (nI g)), some (.int (nI p))] [] _ = _
        rw [bX12_before_0, WM_is hx.1.1.1, some_bind', i_isStranger _ hx hv, some_bind', if_neg (z1 ha), WM_is hx.1.1.1, some_bind', i_isPerson _ hx hv, some_bind', if_pos (z1 hb), WM_now hx.1.1.1, some_bind', Sc_state hx.1.1.2.2.1, some_bind', St_before hB, some_bind', nI_m6, nI_add, Ste_before hB _ (by omega), some_bind', Xst hx (j := 6) (by decide) (show g * 6 + p < 30 by omega)]
      · show RS (ZZ L xs) (d + 60) mX13_before 0 [some (.ref 259), some (.int (nI g)), some (.int (nI p))] [] _ = _
        rw [bX13_before_0, M_is hM, some_bind', i_strangerM _ hM hi hv, some_bind', if_neg (z1 ha), M_is hM, some_bind', i_personM _ hM hi hv, some_bind', if_neg (z1 hb), M_knows hM, some_bind', nI_6m, nI_add, Me_knows hM (by omega), some_bind', bX13_before_31, Nat.mul_comm, Md_knows hi.2.1.2.1.2 hg hp h6]
    · refine ⟨W, -1, Xsame fun sh y d hx => ?_, Msame hv fun sh x m d hM hi => ?_⟩
      · show RS (ZZ L xs) (d + 60) mX12_before 0 [some (.ref 0), some (.int a), some (.int b)] [] _ = _
        rw [bX12_before_0, WM_is hx.1.1.1, some_bind', i_isStranger _ hx hv, some_bind', if_neg (z1 ha), WM_is hx.1.1.1, some_bind', i_isPerson _ hx hv, some_bind', if_neg (fun z => z (z0 hb)), bX12_before_16]
      · show RS (ZZ L xs) (d + 60) mX13_before 0 [some (.ref 259), some (.int a), some (.int b)] [] _ = _
        rw [bX13_before_0, M_is hM, some_bind', i_strangerM _ hM hi hv, some_bind', if_neg (z1 ha), M_is hM, some_bind', i_personM _ hM hi hv, some_bind', if_pos (z0 hb), bX13_before_30, bX13_before_31]
  · refine ⟨W, -1, Xsame fun sh y d hx => ?_, Msame hv fun sh x m d hM hi => ?_⟩
    · show RS (ZZ L xs) (d + 60) mX12_before 0 [some (.ref 0), some (.int a), some (.int b)] [] _ = _
      rw [bX12_before_0, WM_is hx.1.1.1, some_bind', i_isStranger _ hx hv, some_bind', if_pos (z0 ha), bX12_before_16]
    · show RS (ZZ L xs) (d + 60) mX13_before 0 [some (.ref 259), some (.int a), some (.int b)] [] _ = _
      rw [bX13_before_0, M_is hM, some_bind', i_strangerM _ hM hi hv, some_bind', if_pos (z0 ha), bX13_before_30, bX13_before_31]
theorem Sp_count (hv : VW W) (a : Int32) : Step L xs W mX12_count mX13_count [.int a] := by
  refine ⟨W, if a = 0 then nI W.2.1.1.2.1 else if a = 1 then W.2.1.1.1.1 1 else if a = 2 then nI W.2.1.1.2.2.1 else if a = 3 then nI W.2.1.1.2.2.2 else if a = 4 then nI W.2.2.2.1 else if a = 5 then W.2.1.2.2.2.1.1 else if a = 6 then W.2.1.2.1.1.1 else if a = 7 then W.2.1.2.1.1.2.1 else if a = 8 then W.2.1.2.1.1.2.2 else if a = 9 then allF W.2.1.2.1 W.2.1.1.2.2.1 0 0 else if a = 10 then nI W.2.1.2.2.2.2.1 else if a = 11 then nI W.2.1.2.2.1.1 else if a = 12 then W.2.1.2.2.2.1.2 else if a = 13 then nI W.1.1 else -1, Xsame fun sh y d hx => ?_, Msame hv fun sh x m d hM hi => ?_⟩
  · obtain ⟨t, t1, -, t3, -, t4⟩ := X_town hx
    have hS : isSc sh 3 := hx.1.1.2.2.1
    have hB : isSt sh 10 := hS.2.2.2.2.1
    have hP : isPa sh 18 := hS.2.2.2.2.2
    have hT : isTa sh 1 := hx.1.1.2.1
    have hI : ∀ k, y.1 t k = W.2.1.1.1.1 k := fun k => by rw [← t3]; rfl
    obtain ⟨-, -, q3, q4, q5, q6, q7, -⟩ := hx.2.2.2.2.1
    have q3 : (y.1 10 0, y.1 10 1, y.1 10 2) = W.2.1.2.1.1 := q3.1
    have c0 : y.1 10 0 = W.2.1.2.1.1.1 := congrArg (fun z => z.1) q3
    have c1 : y.1 10 1 = W.2.1.2.1.1.2.1 := congrArg (fun z => z.2.1) q3
    have c2 : y.1 10 2 = W.2.1.2.1.1.2.2 := congrArg (fun z => z.2.2) q3
    show RS (ZZ L xs) (d + 60) mX12_count 0 [some (.ref 0), some (.int a)] [] _ = _
    rw [bX12_count_0]
    by_cases h : a = 0
    · rw [if_pos h, if_pos h, bX12_count_72, WM_now hx.1.1.1, some_bind', t4, some_bind', To_places t1, some_bind', hI, hv.2.1.1.1.2.1]
    rw [if_neg h, if_neg h]
    by_cases h : a = 1
    · rw [if_pos h, if_pos h, bX12_count_83, WM_now hx.1.1.1, some_bind', t4, some_bind', To_term t1, some_bind', hI]
    rw [if_neg h, if_neg h]
    by_cases h : a = 2
    · rw [if_pos h, if_pos h, bX12_count_94, WM_now hx.1.1.1, some_bind', t4, some_bind', To_people t1, some_bind', hI, hv.2.1.1.1.1.1]
    rw [if_neg h, if_neg h]
    by_cases h : a = 3
    · rw [if_pos h, if_pos h, bX12_count_105, WM_now hx.1.1.1, some_bind', t4, some_bind', To_strangers t1, some_bind', hI, hv.2.1.1.1.1.2.2.1]
    rw [if_neg h, if_neg h]
    by_cases h : a = 4
    · rw [if_pos h, if_pos h, bX12_count_116, WM_ruleCount hx.1.1.1, some_bind', hx.2.2.2.2.2.2.1]
    rw [if_neg h, if_neg h]
    by_cases h : a = 5
    · rw [if_pos h, if_pos h, bX12_count_121, WM_now hx.1.1.1, some_bind', Sc_force hS, some_bind', q5]
    rw [if_neg h, if_neg h]
    by_cases h : a = 6
    · rw [if_pos h, if_pos h, bX12_count_129, WM_now hx.1.1.1, some_bind', Sc_state hS, some_bind', St_hour hB, some_bind', c0]
    rw [if_neg h, if_neg h]
    by_cases h : a = 7
    · rw [if_pos h, if_pos h, bX12_count_140, WM_now hx.1.1.1, some_bind', Sc_state hS, some_bind', St_chain hB, some_bind', c1]
    rw [if_neg h, if_neg h]
    by_cases h : a = 8
    · rw [if_pos h, if_pos h, bX12_count_151, WM_now hx.1.1.1, some_bind', Sc_state hS, some_bind', St_come hB, some_bind', c2]
    rw [if_neg h, if_neg h]
    by_cases h : a = 9
    · rw [if_pos h, if_pos h, bX12_count_162, WM_now hx.1.1.1, some_bind', Sc_state hS, some_bind', St_is hB, some_bind', i_allX _ hx hv, some_bind']
    rw [if_neg h, if_neg h]
    by_cases h : a = 10
    · rw [if_pos h, if_pos h, bX12_count_173, WM_now hx.1.1.1, some_bind', Sc_notes hS, some_bind', q7]
    rw [if_neg h, if_neg h]
    by_cases h : a = 11
    · rw [if_pos h, if_pos h, bX12_count_181, WM_now hx.1.1.1, some_bind', Sc_past hS, some_bind', Pa_size hP, some_bind', q4.2.2.1]
    rw [if_neg h, if_neg h]
    by_cases h : a = 12
    · rw [if_pos h, if_pos h, bX12_count_192, WM_now hx.1.1.1, some_bind', Sc_x hS, some_bind', q6]
    rw [if_neg h, if_neg h]
    by_cases h : a = 13
    · rw [if_pos h, if_pos h, bX12_count_200, WM_tape hx.1.1.1, some_bind', Ta_length hT, some_bind', hx.2.1.1]
    rw [if_neg h, if_neg h, bX12_count_208]
  · obtain ⟨⟨⟨a1, a2, a3, a4, a5, a6⟩, ⟨b1, b2⟩⟩, ⟨c1, c2⟩, ⟨d1, d2⟩, ⟨e1, e2⟩, ⟨f1, f2⟩⟩ := hi.2.1
    show RS (ZZ L xs) (d + 60) mX13_count 0 [some (.ref 259), some (.int a)] [] _ = _
    rw [bX13_count_0]
    by_cases h : a = 0
    · rw [if_pos h, if_pos h, bX13_count_72, M_scalar hM, some_bind', eI_l0, Me_scalar hM (by decide), some_bind', a1]
    rw [if_neg h, if_neg h]
    by_cases h : a = 1
    · rw [if_pos h, if_pos h, bX13_count_79, M_scalar hM, some_bind', eI_l1, Me_scalar hM (by decide), some_bind', a2]
    rw [if_neg h, if_neg h]
    by_cases h : a = 2
    · rw [if_pos h, if_pos h, bX13_count_86, M_scalar hM, some_bind', eI_l2, Me_scalar hM (by decide), some_bind', a3]
    rw [if_neg h, if_neg h]
    by_cases h : a = 3
    · rw [if_pos h, if_pos h, bX13_count_93, M_scalar hM, some_bind', eI_l3, Me_scalar hM (by decide), some_bind', a4]
    rw [if_neg h, if_neg h]
    by_cases h : a = 4
    · rw [if_pos h, if_pos h, bX13_count_100, M_rules hM, some_bind', hi.2.2.2.1.1]
    rw [if_neg h, if_neg h]
    by_cases h : a = 5
    · rw [if_pos h, if_pos h, bX13_count_105, M_scalar hM, some_bind', eI_l9, Me_scalar hM (by decide), some_bind', e1]
    rw [if_neg h, if_neg h]
    by_cases h : a = 6
    · rw [if_pos h, if_pos h, bX13_count_113, M_scalar hM, some_bind', eI_l4, Me_scalar hM (by decide), some_bind', c2.1]
    rw [if_neg h, if_neg h]
    by_cases h : a = 7
    · rw [if_pos h, if_pos h, bX13_count_120, M_scalar hM, some_bind', eI_l5, Me_scalar hM (by decide), some_bind', c2.2.1]
    rw [if_neg h, if_neg h]
    by_cases h : a = 8
    · rw [if_pos h, if_pos h, bX13_count_127, M_scalar hM, some_bind', eI_l6, Me_scalar hM (by decide), some_bind', c2.2.2.1]
    rw [if_neg h, if_neg h]
    by_cases h : a = 9
    · rw [if_pos h, if_pos h, bX13_count_135, M_is hM, some_bind', i_allM _ hM a3 hv.2.1.1.1.1.2.1 c2, some_bind']
    rw [if_neg h, if_neg h]
    by_cases h : a = 10
    · rw [if_pos h, if_pos h, bX13_count_140, M_scalar hM, some_bind', eI_l7, Me_scalar hM (by decide), some_bind', f1]
    rw [if_neg h, if_neg h]
    by_cases h : a = 11
    · rw [if_pos h, if_pos h, bX13_count_148, M_pastMany hM, some_bind', d1]
    rw [if_neg h, if_neg h]
    by_cases h : a = 12
    · rw [if_pos h, if_pos h, bX13_count_153, M_scalar hM, some_bind', eI_l8, Me_scalar hM (by decide), some_bind', e2]
    rw [if_neg h, if_neg h]
    by_cases h : a = 13
    · rw [if_pos h, if_pos h, bX13_count_161, M_taped hM, some_bind', hi.1.1]
    rw [if_neg h, if_neg h, bX13_count_166]
end GET
