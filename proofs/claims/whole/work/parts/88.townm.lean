/-! a town told: the model's reader -/
theorem nb_or {l : Int64} {a b i : Nat} (ha : a < 8) (hb : b < 8) (hne : a ≠ b) (hi : i < 8) : nb (l ||| stS a b) (nI i) = if i = a then nb l (nI i) ||| iShl 1 (nI b) else if i = b then nb l (nI i) ||| iShl 1 (nI a) else nb l (nI i) := by
  apply bt_ext
  intro j hj
  rw [bt_nb _ hi hj]
  by_cases h8 : j < 8
  · rw [aj_or, aj_stS ha hb hi h8, decide_eq_true h8, Bool.true_and, decide_eq_true hne, Bool.true_and]
    by_cases h1 : i = a
    · rw [if_pos h1, bt_or, bt_nb _ hi hj, bt_shl (by omega) hj, decide_eq_true h8, Bool.true_and, decide_eq_true h1, decide_eq_false (show ¬ i = b by omega)]
      simp
    · rw [if_neg h1]
      by_cases h2 : i = b
      · rw [if_pos h2, bt_or, bt_nb _ hi hj, bt_shl (by omega) hj, decide_eq_true h8, Bool.true_and, decide_eq_true h2, decide_eq_false h1]
        simp
      · rw [if_neg h2, bt_nb _ hi hj, decide_eq_true h8, Bool.true_and, decide_eq_false h1, decide_eq_false h2]
        simp
  · rw [decide_eq_false h8, Bool.false_and]
    by_cases h1 : i = a
    · rw [if_pos h1, bt_or, bt_nb _ hi hj, bt_shl (by omega) hj, decide_eq_false h8, decide_eq_false (show ¬ j = b by omega)]
      rfl
    · rw [if_neg h1]
      by_cases h2 : i = b
      · rw [if_pos h2, bt_or, bt_nb _ hi hj, bt_shl (by omega) hj, decide_eq_false h8, decide_eq_false (show ¬ j = a by omega)]
        rfl
      · rw [if_neg h2, bt_nb _ hi hj, decide_eq_false h8]
        rfl
theorem sh_1 {e : Int32} {j : Nat} (hj : j < 32) : iShr e (nI j) &&& 1 = z01 (bt e j) := by
  obtain ⟨k, hk, q⟩ := pk_andE (iShr e (nI j)) (m := 1) 1 rfl
  by_cases h : bt e j = true
  · rw [(bt_shr hj).mpr h, h]
    rfl
  · have h2 : ¬ iShr e (nI j) &&& 1 = 1 := fun z => h ((bt_shr hj).mp z)
    rw [q] at h2 ⊢
    have : k = 0 := by
      have : k ≠ 1 := fun z => h2 (by rw [z]; rfl)
      omega
    rw [this, show bt e j = false by cases hh : bt e j <;> simp_all]
    rfl
theorem fz_z (e : Nat) : fz 0 e = e := if_pos rfl
theorem fz_n {f : Nat} (e : Nat) (h : f ≠ 0) : fz f e = f := if_neg h
section TOWNM
variable {L : Nat} {xs : Nat → Int32} {sh : List Sh} {x : ST} {m : MM} {T : TP} {p f : Nat}
theorem en_D {s : Nat} (h : kd T s = 2) : en T s = rn isD T s := by
  unfold en
  rw [h, if_neg (by decide), if_neg (by decide), if_pos rfl]
theorem tkE_dg {s lo M : Nat} {u : Int32} (h : dgE T s ≠ 0) : tkE T s lo M u = dgE T s := by
  unfold tkE dgE at *
  by_cases hd : isD (Bt T s) = true
  · rw [if_pos hd] at h ⊢
    rw [if_pos (kd_D.mpr hd)]
    by_cases h5 : rn isD T s - s ≤ 5
    · rw [if_pos h5] at h
      exact absurd rfl h
    · rw [if_neg h5, if_neg (fun z => h5 z.1)]
  · rw [if_neg hd, if_neg (fun z => hd (kd_D.mp z))]
theorem dgE_0 {s : Nat} (h : dgE T s = 0) : kd T s = 2 ∧ rn isD T s - s ≤ 5 := by
  unfold dgE ft at h
  by_cases hd : isD (Bt T s) = true
  · rw [if_pos hd] at h
    by_cases h5 : rn isD T s - s ≤ 5
    · exact ⟨kd_D.mpr hd, h5⟩
    · rw [if_neg h5] at h
      omega
  · rw [if_neg hd] at h
    omega
theorem dgE_lt {s : Nat} (h : s ≤ 450) : dgE T s < 10000 := by
  unfold dgE ft
  split
  · split <;> omega
  · omega
theorem tkE_lt2 {s lo M : Nat} {u : Int32} (h : s ≤ 450) : tkE T s lo M u < 10000 := by
  unfold tkE ft
  split
  · split <;> omega
  · omega
theorem i_amountM (d : Nat) (hM : isMo sh) (hi : MTa m T) (hV : VTa T) (hp : p ≤ 450) (hf : f < 10000) {lo M : Nat} (hlo : lo < 100) (hM1 : M < 100) : ∃ v p', cI (ZZ L xs) (d + 4) mX13_amount [.ref 259, .int (nI lo), .int (nI M)] (HP sh (pM x (mS m p f))) = some (HP sh (pM x (mS m p' (fz f (tkE T (rn isB T p) lo M (-1))))), v) ∧ p' ≤ 450 ∧ (f = 0 → tkE T (rn isB T p) lo M (-1) = 0 → v = nI (nv T (rn isB T p)) ∧ rn isB T p' = nx' T (rn isB T p)) := by
  have h400 := hV.1
  have hs := rn_top2 isB (T := T) hp (by omega)
  generalize hse : rn isB T p = s at *
  have b0 : ∀ (r : Option (PH × Option Value)), (RS (ZZ L xs) (d + 4) mX13_amount 0 [some (.ref 259), some (.int (nI lo)), some (.int (nI M)), none, none] [] (HP sh (pM x (mS m p f))) = r) → CL (ZZ L xs) (d + 4) mX13_amount [.ref 259, .int (nI lo), .int (nI M)] (HP sh (pM x (mS m p f))) = r := fun r h => h
  by_cases h0 : f = 0
  · subst h0
    obtain ⟨v, a1, a2⟩ := i_digitsM (L := L) (xs := xs) (x := x) (f := 0) (p := s) (d) hM hi hV (by omega) (by decide)
    rw [fz_z] at a1
    have hdl := dgE_lt (T := T) hs
    have start : RS (ZZ L xs) (d + 4) mX13_amount 0 [some (.ref 259), some (.int (nI lo)), some (.int (nI M)), none, none] [] (HP sh (pM x (mS m p 0))) = RS (ZZ L xs) (d + 4) mX13_amount 26 [some (.ref 259), some (.int (nI lo)), some (.int (nI M)), some (.int (nI s)), none] [.int v] (HP sh (pM x (mS m (rn isD T s) (dgE T s)))) := by
      rw [bX13_amount_0, M_is hM, some_bind', v_blM (d + 1) hM hi hV (by omega), some_bind', hse, M_p hM, some_bind', show (mS m s 0).1 29 = nI s from rfl, M_fault hM, some_bind', if_neg (fun z => z rfl), M_is hM, some_bind', a1, some_bind']
    have hpt := rn_top2 isD (T := T) (s := s) (n := 450) (by omega) (by omega)
    rw [fz_z]
    by_cases hd : dgE T s = 0
    · obtain ⟨k2, k5⟩ := dgE_0 hd
      have hnv := nv_lt k5
      have hv := a2 hd
      have hin := i_inM (L := L) (xs := xs) (d + 2) (lo := nI lo) (hi := nI M) rfl rfl v (HP sh (pM x (mS m (rn isD T s) (dgE T s))))
      have hpn : rn isB T (rn isD T s) = nx' T s := by
        unfold nx'
        rw [en_D k2]
      by_cases hr : lo ≤ nv T s ∧ nv T s ≤ M
      · have he : tkE T s lo M (-1) = 0 := by
          unfold tkE
          rw [if_pos k2, if_pos ⟨k5, hr.1, hr.2, fun z => nI_pos (n := nv T s) (by omega) (by rw [z]; decide)⟩]
        refine ⟨v, rn isD T s, cI_of (b0 _ ?_), hpt, fun _ _ => ⟨hv, hpn⟩⟩
        rw [start, bX13_amount_26, M_fault hM, some_bind', show (mS m (rn isD T s) (dgE T s)).1 30 = nI (dgE T s) from rfl, if_neg (fun z => z (by rw [hd]; rfl)), hin, some_bind', if_pos (z1 (by rw [hv]; unfold wiB; rw [decide_eq_true (nI_le hr.1 (by omega)), decide_eq_true (nI_le hr.2 (by omega))]; rfl)), bX13_amount_54, he, hd]
      · have he : tkE T s lo M (-1) = ft s 1 := by
          unfold tkE
          rw [if_pos k2, if_neg (fun z => hr ⟨z.2.1, z.2.2.1⟩)]
        have hw : wiB (nI lo) (nI M) v = false := by
          rw [hv]
          unfold wiB
          by_cases q : lo ≤ nv T s
          · rw [decide_eq_false (show ¬ nI (nv T s) ≤ nI M from nI_ge (by omega) (by omega)), Bool.and_false]
          · rw [decide_eq_false (show ¬ nI lo ≤ nI (nv T s) from nI_ge (by omega) (by omega)), Bool.false_and]
        refine ⟨v, rn isD T s, cI_of (b0 _ ?_), hpt, fun _ z => ?_⟩
        · rw [start, bX13_amount_26, M_fault hM, some_bind', show (mS m (rn isD T s) (dgE T s)).1 30 = nI (dgE T s) from rfl, if_neg (fun z => z (by rw [hd]; rfl)), hin, some_bind', hw, if_neg (fun z => z rfl), M_is hM, some_bind', show cV (ZZ L xs) (d + 3) mX13_fails [.ref 259, .int 1, .int (nI s)] (HP sh (pM x (mS m (rn isD T s) (dgE T s)))) = _ from v_failsM (d + 2) hM 1 s (by omega), some_bind', bX13_amount_54, he, hd, fz_z]
        · rw [he] at z
          unfold ft at z
          omega
    · refine ⟨v, rn isD T s, cI_of (b0 _ ?_), hpt, fun _ z => absurd (by rw [tkE_dg hd] at z; exact z) hd⟩
      rw [start, bX13_amount_26, M_fault hM, some_bind', show (mS m (rn isD T s) (dgE T s)).1 30 = nI (dgE T s) from rfl, if_pos (nI_ne0 (by omega) (by omega)), bX13_amount_54, tkE_dg hd]
  · refine ⟨0, s, cI_of (b0 _ ?_), hs, fun z => absurd z h0⟩
    rw [bX13_amount_0, M_is hM, some_bind', v_blM (d + 1) hM hi hV (by omega), some_bind', hse, M_p hM, some_bind', show (mS m s f).1 29 = nI s from rfl, M_fault hM, some_bind', show (mS m s f).1 30 = nI f from rfl, if_pos (nI_ne0 (by omega) (by omega)), bX13_amount_26, M_fault hM, some_bind', show (mS m s f).1 30 = nI f from rfl, if_pos (nI_ne0 (by omega) (by omega)), bX13_amount_54, fz_n _ h0]
theorem i_unlikeM (d : Nat) (hM : isMo sh) (hi : MTa m T) (hV : VTa T) (hp : p ≤ 450) (hf : f < 10000) {pl : Nat} (h1 : 1 ≤ pl) (h8 : pl ≤ 8) (hpl : m.2.1 19 0 = nI pl) (u : Int32) : ∃ v p', cI (ZZ L xs) (d + 5) mX13_unlikePlace [.ref 259, .int u] (HP sh (pM x (mS m p f))) = some (HP sh (pM x (mS m p' (fz f (tkE T (rn isB T p) 0 (pl - 1) u)))), v) ∧ p' ≤ 450 ∧ (f = 0 → tkE T (rn isB T p) 0 (pl - 1) u = 0 → v = nI (nv T (rn isB T p)) ∧ rn isB T p' = nx' T (rn isB T p)) := by
  have h400 := hV.1
  have hs := rn_top2 isB (T := T) hp (by omega)
  have hss : rn isB T (rn isB T p) = rn isB T p := rn_rn (by decide) T p
  generalize hse : rn isB T p = s at *
  obtain ⟨v, p', a1, a2, a3⟩ := i_amountM (L := L) (xs := xs) (x := x) (m := m) (p := s) (f := f) (d) hM hi hV hs hf (lo := 0) (M := pl - 1) (by decide) (by omega)
  rw [hss] at a1 a3
  have a1 : cI (ZZ L xs) (d + 4) mX13_amount [.ref 259, .int 0, .int (nI (pl - 1))] (HP sh (pM x (mS m s f))) = some (HP sh (pM x (mS m p' (fz f (tkE T s 0 (pl - 1) (-1))))), v) := a1
  have hl := tkE_lt2 (T := T) (lo := 0) (M := pl - 1) (u := -1) hs
  have b0 : CL (ZZ L xs) (d + 5) mX13_unlikePlace [.ref 259, .int u] (HP sh (pM x (mS m p f))) = if ¬ nI (fz f (tkE T s 0 (pl - 1) (-1))) = 0 then some (HP sh (pM x (mS m p' (fz f (tkE T s 0 (pl - 1) (-1))))), some (.int v)) else if ¬ v = u then some (HP sh (pM x (mS m p' (fz f (tkE T s 0 (pl - 1) (-1))))), some (.int v)) else (cV (ZZ L xs) (d + 4) mX13_fails [.ref 259, .int 1, .int (nI s)] (HP sh (pM x (mS m p' (fz f (tkE T s 0 (pl - 1) (-1))))))).bind fun p38 => some (p38, some (.int v)) := by
    show RS (ZZ L xs) (d + 5) mX13_unlikePlace 0 [some (.ref 259), some (.int u), none, none] [] _ = _
    rw [bX13_unlikePlace_0, M_is hM, some_bind', v_blM (d + 2) hM hi hV (by omega), some_bind', hse, M_p hM, some_bind', show (mS m s f).1 29 = nI s from rfl, M_newScalar hM, some_bind', eI_l0, Me_newScalar hM (by decide), some_bind', show (mS m s f).2.1 19 0 = nI pl from hpl, nI_m1 h1, M_is hM, some_bind', a1, some_bind', M_fault hM, some_bind', show (mS m p' (fz f (tkE T s 0 (pl - 1) (-1)))).1 30 = nI (fz f (tkE T s 0 (pl - 1) (-1))) from rfl, M_is hM, some_bind']
    simp only [bX13_unlikePlace_41]
  by_cases h0 : f = 0
  · subst h0
    rw [fz_z] at b0 ⊢
    by_cases e1 : tkE T s 0 (pl - 1) (-1) = 0
    · have i1 := tkE_in e1
      obtain ⟨hv, hpn⟩ := a3 rfl e1
      rw [e1, if_neg (fun z => z rfl)] at b0
      by_cases q : v = u
      · have he : tkE T s 0 (pl - 1) u = ft s 1 := by
          unfold tkE
          rw [if_pos i1.1, if_neg (fun z => z.2.2.2 (by rw [← hv]; exact q))]
        refine ⟨v, p', cI_of ?_, a2, fun _ z => ?_⟩
        · rw [b0, if_neg (fun z => z q), show cV (ZZ L xs) (d + 4) mX13_fails [.ref 259, .int 1, .int (nI s)] (HP sh (pM x (mS m p' 0))) = _ from v_failsM (d + 3) hM 1 s (by decide), some_bind', he, fz_z]
        · rw [he] at z
          unfold ft at z
          omega
      · have he : tkE T s 0 (pl - 1) u = 0 := by
          unfold tkE
          rw [if_pos i1.1, if_pos ⟨i1.2.1, i1.2.2.1, i1.2.2.2.1, fun z => q (by rw [hv]; exact z)⟩]
        exact ⟨v, p', cI_of (by rw [b0, if_pos q, he]), a2, fun _ _ => ⟨hv, hpn⟩⟩
    · have he : tkE T s 0 (pl - 1) u = tkE T s 0 (pl - 1) (-1) := by
        by_cases hd : dgE T s = 0
        · obtain ⟨k2, k5⟩ := dgE_0 hd
          have hnv := nv_lt k5
          have c1 : ¬ (rn isD T s - s ≤ 5 ∧ 0 ≤ nv T s ∧ nv T s ≤ pl - 1 ∧ ¬ nI (nv T s) = -1) := fun z => e1 (by unfold tkE; rw [if_pos k2, if_pos z])
          unfold tkE
          rw [if_pos k2, if_pos k2, if_neg c1, if_neg (fun z => c1 ⟨z.1, z.2.1, z.2.2.1, fun q => nI_pos (n := nv T s) (by omega) (by rw [q]; decide)⟩)]
        · rw [tkE_dg hd, tkE_dg hd]
      rw [if_pos (nI_ne0 (by omega) (by omega))] at b0
      rw [he]
      exact ⟨v, p', cI_of b0, a2, fun _ z => absurd z e1⟩
  · rw [fz_n _ h0, if_pos (nI_ne0 (by omega) (by omega))] at b0
    rw [fz_n _ h0]
    exact ⟨v, p', cI_of b0, a2, fun z => absurd z h0⟩
def NwO (m m' : MM) : Prop := m'.1 = m.1 ∧ ∀ a, a < 19 ∨ 27 ≤ a → m'.2.1 a = m.2.1 a
theorem NwO_refl (m : MM) : NwO m m := ⟨rfl, fun _ _ => rfl⟩
theorem NwO_A {m m' : MM} (h : NwO m m') {a : Nat} (h1 : 19 ≤ a) (h2 : a < 27) (j : Nat) (v : Int32) : NwO m (mA m' a j v) := ⟨h.1, fun b hb => by rw [mA_ne _ _ _ (by omega)]; exact h.2 b hb⟩
theorem NwO_trans {a b c : MM} (h : NwO a b) (g : NwO b c) : NwO a c := ⟨g.1.trans h.1, fun r hr => (g.2 r hr).trans (h.2 r hr)⟩
theorem MTa_N {m' : MM} (h : NwO m m') (hi : MTa m T) : MTa m' T := ⟨by rw [h.1]; exact hi.1, fun i hi2 => by rw [h.2 27 (by omega)]; exact hi.2 i hi2⟩
def TBm (m : MM) (b : TB) : Prop := (m.2.1 19 0 = nI b.2.1 ∧ m.2.1 19 1 = b.1.1 1 ∧ m.2.1 19 2 = nI b.2.2.1 ∧ m.2.1 19 3 = nI b.2.2.2) ∧ (∀ q, q < b.2.2.1 → m.2.1 20 q = b.1.2.2 0 q ∧ m.2.1 21 q = b.1.2.2 1 q ∧ m.2.1 22 q = iShr (b.1.1 5) (nI q) &&& 1) ∧ (∀ g, g < b.2.2.2 → m.2.1 23 g = b.1.2.2 2 g ∧ m.2.1 24 g = b.1.2.2 3 g ∧ m.2.1 25 g = b.1.2.2 4 g) ∧ ∀ i, i < 8 → m.2.1 26 i = nb b.1.2.1 (nI i)
/-- what a piece of the model's reader does -/
def TMs (T : TP) (m m' : MM) (p' f' : Nat) (R : Nat ⊕ (Nat × TB)) : Prop := NwO m m' ∧ p' ≤ 450 ∧ ((∃ e, R = .inl e ∧ (0 < e ∧ e < 10000) ∧ f' = e) ∨ ∃ s b, R = .inr (s, b) ∧ f' = 0 ∧ rn isB T p' = s ∧ TBm m' b)
theorem v_sizeM (d : Nat) (hM : isMo sh) (hi : MTa m T) (hV : VTa T) (hp : p ≤ 450) {b : TB} (hb : TBm m b) (u1 u2 u3 u4 : Option Value) : ∃ m' p' f', RS (ZZ L xs) (d + 6) mX13_townPart 36 [some (.ref 259), u1, u2, u3, u4] [] (HP sh (pM x (mS m p 0))) = some (HP sh (pM x (mS m' p' f')), none) ∧ TMs T m m' p' f' (tSize T (rn isB T p) b) := by
  have h400 := hV.1
  have hs := rn_top2 isB (T := T) hp (by omega)
  obtain ⟨v1, p1, a1, a2, a3⟩ := i_amountM (L := L) (xs := xs) (x := x) (m := m) (p := p) (f := 0) (d + 1) hM hi hV hp (by decide) (lo := 2) (M := 8) (by decide) (by decide)
  have hl1 := tkE_lt2 (T := T) (lo := 2) (M := 8) (u := -1) hs
  have hs1 := rn_top2 isB (T := T) a2 (by omega)
  obtain ⟨v2, p2, b1, b2, b3⟩ := i_amountM (L := L) (xs := xs) (x := x) (m := m) (p := p1) (f := fz 0 (tkE T (rn isB T p) 2 8 (-1))) (d + 1) hM hi hV a2 (by rw [fz_z]; exact hl1) (lo := 1) (M := 30) (by decide) (by decide)
  have hl2 := tkE_lt2 (T := T) (lo := 1) (M := 30) (u := -1) hs1
  have a1 : cI (ZZ L xs) (d + 5) mX13_amount [.ref 259, .int 2, .int 8] (HP sh (pM x (mS m p 0))) = _ := a1
  have b1 : cI (ZZ L xs) (d + 5) mX13_amount [.ref 259, .int 1, .int 30] (HP sh (pM x (mS m p1 (fz 0 (tkE T (rn isB T p) 2 8 (-1)))))) = _ := b1
  refine ⟨mA (mA m 19 1 v2) 19 0 v1, p2, fz (fz 0 (tkE T (rn isB T p) 2 8 (-1))) (tkE T (rn isB T p1) 1 30 (-1)), ?_, NwO_A (NwO_A (NwO_refl _) (by decide) (by decide) _ _) (by decide) (by decide) _ _, b2, ?_⟩
  · rw [bX13_townPart_36, M_is hM, some_bind', a1, some_bind', M_newScalar hM, some_bind', M_is hM, some_bind', b1, some_bind', wI_l1, Mu_newScalar hM (by decide), some_bind', M_newScalar hM, some_bind', wI_l0, Mu_newScalar hM (by decide), some_bind', bX13_townPart_232, mS_A, mS_A]
  · rw [fz_z] at b3 ⊢
    unfold tSize
    by_cases e1 : tkE T (rn isB T p) 2 8 (-1) = 0
    · obtain ⟨c1, c2⟩ := a3 rfl e1
      rw [if_pos e1, e1, fz_z, c2]
      rw [c2] at b3
      rw [e1] at b3
      by_cases e2 : tkE T (nx' T (rn isB T p)) 1 30 (-1) = 0
      · obtain ⟨d1, d2⟩ := b3 rfl e2
        rw [if_pos e2]
        refine Or.inr ⟨_, _, rfl, e2, d2, ⟨?_, ?_, ?_, ?_⟩, ?_, ?_, ?_⟩
        · rw [mA_eq, upd_at, c1]
        · rw [mA_eq, upd_ne _ _ (by decide), mA_eq, upd_at, d1]
          rfl
        · rw [mA_eq, upd_ne _ _ (by decide), mA_eq, upd_ne _ _ (by decide)]
          exact hb.1.2.2.1
        · rw [mA_eq, upd_ne _ _ (by decide), mA_eq, upd_ne _ _ (by decide)]
          exact hb.1.2.2.2
        · intro q hq
          rw [mA_ne _ _ _ (by decide), mA_ne _ _ _ (by decide), mA_ne _ _ _ (by decide), mA_ne _ _ _ (by decide), mA_ne _ _ _ (by decide), mA_ne _ _ _ (by decide)]
          exact hb.2.1 q hq
        · intro q hq
          rw [mA_ne _ _ _ (by decide), mA_ne _ _ _ (by decide), mA_ne _ _ _ (by decide), mA_ne _ _ _ (by decide), mA_ne _ _ _ (by decide), mA_ne _ _ _ (by decide)]
          exact hb.2.2.1 q hq
        · intro q hq
          rw [mA_ne _ _ _ (by decide), mA_ne _ _ _ (by decide)]
          exact hb.2.2.2 q hq
      · rw [if_neg e2]
        rw [c2] at hl2
        exact Or.inl ⟨_, rfl, ⟨Nat.pos_of_ne_zero e2, hl2⟩, rfl⟩
    · rw [if_neg e1, fz_n _ e1]
      exact Or.inl ⟨_, rfl, ⟨Nat.pos_of_ne_zero e1, hl1⟩, rfl⟩
theorem v_streetM (d : Nat) (hM : isMo sh) (hi : MTa m T) (hV : VTa T) (hp : p ≤ 450) {b : TB} (hb : TBm m b) (h1 : 1 ≤ b.2.1) (h8 : b.2.1 ≤ 8) (u1 u3 u4 : Option Value) : ∃ m' p' f', RS (ZZ L xs) (d + 6) mX13_townPart 67 [some (.ref 259), u1, some (.int (nI (b.2.1 - 1))), u3, u4] [] (HP sh (pM x (mS m p 0))) = some (HP sh (pM x (mS m' p' f')), none) ∧ TMs T m m' p' f' (tStreet T (rn isB T p) b) := by
  have h400 := hV.1
  have hs := rn_top2 isB (T := T) hp (by omega)
  obtain ⟨v1, p1, a1, a2, a3⟩ := i_amountM (L := L) (xs := xs) (x := x) (m := m) (p := p) (f := 0) (d + 1) hM hi hV hp (by decide) (lo := 0) (M := b.2.1 - 1) (by decide) (by omega)
  have hl1 := tkE_lt2 (T := T) (lo := 0) (M := b.2.1 - 1) (u := -1) hs
  have hs1 := rn_top2 isB (T := T) a2 (by omega)
  obtain ⟨v2, p2, b1, b2, b3⟩ := i_unlikeM (L := L) (xs := xs) (x := x) (m := m) (p := p1) (f := fz 0 (tkE T (rn isB T p) 0 (b.2.1 - 1) (-1))) (d) hM hi hV a2 (by rw [fz_z]; exact hl1) h1 h8 hb.1.1 v1
  have hl2 := tkE_lt2 (T := T) (lo := 0) (M := b.2.1 - 1) (u := v1) hs1
  have a1 : cI (ZZ L xs) (d + 5) mX13_amount [.ref 259, .int 0, .int (nI (b.2.1 - 1))] (HP sh (pM x (mS m p 0))) = _ := a1
  rw [fz_z] at a1 b1 b3
  have b0 : RS (ZZ L xs) (d + 6) mX13_townPart 67 [some (.ref 259), u1, some (.int (nI (b.2.1 - 1))), u3, u4] [] (HP sh (pM x (mS m p 0))) = _ := bX13_townPart_67 ..
  rw [M_is hM, some_bind', a1, some_bind', M_is hM, some_bind', b1, some_bind', M_fault hM, some_bind', show (mS m p2 (fz (tkE T (rn isB T p) 0 (b.2.1 - 1) (-1)) (tkE T (rn isB T p1) 0 (b.2.1 - 1) v1))).1 30 = nI (fz (tkE T (rn isB T p) 0 (b.2.1 - 1) (-1)) (tkE T (rn isB T p1) 0 (b.2.1 - 1) v1)) from rfl] at b0
  unfold tStreet
  by_cases e1 : tkE T (rn isB T p) 0 (b.2.1 - 1) (-1) = 0
  · obtain ⟨c1, c2⟩ := a3 rfl e1
    have i1 := tkE_in e1
    rw [e1, fz_z, c2, c1] at b0
    rw [c2, c1] at b3
    rw [e1] at b3
    rw [c2, c1] at hl2
    rw [if_pos e1]
    by_cases e2 : tkE T (nx' T (rn isB T p)) 0 (b.2.1 - 1) (nI (nv T (rn isB T p))) = 0
    · obtain ⟨d1, d2⟩ := b3 rfl e2
      have i2 := tkE_in e2
      rw [if_pos e2]
      have hne : nv T (rn isB T p) ≠ nv T (nx' T (rn isB T p)) := fun q => i2.2.2.2.2 (by rw [q])
      rw [e2, if_neg (fun z => z rfl), M_newStreets hM, some_bind', Me_newStreets hM (by omega), some_bind', Mu_newStreets hM (by omega), some_bind', M_newStreets hM, some_bind', d1, Me_newStreets hM (by omega), some_bind', Mu_newStreets hM (by omega), some_bind', bX13_townPart_232, mS_A, mS_A] at b0
      refine ⟨_, _, _, b0, NwO_A (NwO_A (NwO_refl _) (by decide) (by decide) _ _) (by decide) (by decide) _ _, b2, Or.inr ⟨_, _, rfl, rfl, d2, ⟨?_, ?_, ?_, ?_⟩, ?_, ?_, fun i hi8 => ?_⟩⟩
      · rw [mA_ne _ _ _ (by decide), mA_ne _ _ _ (by decide)]
        exact hb.1.1
      · rw [mA_ne _ _ _ (by decide), mA_ne _ _ _ (by decide)]
        exact hb.1.2.1
      · rw [mA_ne _ _ _ (by decide), mA_ne _ _ _ (by decide)]
        exact hb.1.2.2.1
      · rw [mA_ne _ _ _ (by decide), mA_ne _ _ _ (by decide)]
        exact hb.1.2.2.2
      · intro q hq
        rw [mA_ne _ _ _ (by decide), mA_ne _ _ _ (by decide), mA_ne _ _ _ (by decide), mA_ne _ _ _ (by decide), mA_ne _ _ _ (by decide), mA_ne _ _ _ (by decide)]
        exact hb.2.1 q hq
      · intro q hq
        rw [mA_ne _ _ _ (by decide), mA_ne _ _ _ (by decide), mA_ne _ _ _ (by decide), mA_ne _ _ _ (by decide), mA_ne _ _ _ (by decide), mA_ne _ _ _ (by decide)]
        exact hb.2.2.1 q hq
      · show (mA (mA m 26 (nv T (rn isB T p)) (m.2.1 26 (nv T (rn isB T p)) ||| iShl 1 (nI (nv T (nx' T (rn isB T p)))))) 26 (nv T (nx' T (rn isB T p))) ((mA m 26 (nv T (rn isB T p)) (m.2.1 26 (nv T (rn isB T p)) ||| iShl 1 (nI (nv T (nx' T (rn isB T p)))))).2.1 26 (nv T (nx' T (rn isB T p))) ||| iShl 1 (nI (nv T (rn isB T p))))).2.1 26 i = nb (b.1.2.1 ||| stS (nv T (rn isB T p)) (nv T (nx' T (rn isB T p)))) (nI i)
        rw [nb_or (by omega) (by omega) hne hi8, mA_eq, mA_eq]
        by_cases q1 : i = nv T (rn isB T p)
        · rw [if_pos q1, upd_ne _ _ (by omega), q1, upd_at, hb.2.2.2 _ (by omega)]
        · rw [if_neg q1]
          by_cases q2 : i = nv T (nx' T (rn isB T p))
          · rw [if_pos q2, q2, upd_at, upd_ne _ _ (by omega), hb.2.2.2 _ (by omega)]
          · rw [if_neg q2, upd_ne _ _ q2, upd_ne _ _ q1, hb.2.2.2 _ hi8]
    · rw [if_neg e2]
      rw [if_pos (nI_ne0 (Nat.pos_of_ne_zero e2) (by omega)), bX13_townPart_232] at b0
      exact ⟨_, _, _, b0, NwO_refl _, b2, Or.inl ⟨_, rfl, ⟨Nat.pos_of_ne_zero e2, hl2⟩, rfl⟩⟩
  · rw [if_neg e1]
    rw [fz_n _ e1, if_pos (nI_ne0 (Nat.pos_of_ne_zero e1) (by omega)), bX13_townPart_232] at b0
    exact ⟨_, _, _, b0, NwO_refl _, b2, Or.inl ⟨_, rfl, ⟨Nat.pos_of_ne_zero e1, hl1⟩, rfl⟩⟩
end TOWNM
