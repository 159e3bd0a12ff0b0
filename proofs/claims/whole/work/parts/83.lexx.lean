/-! texts in the class: the tape -/
section LEXX
variable {L : Nat} {xs : Nat → Int32} {sh : List Sh} {y : ST} {T : TP}
theorem sI_sI (y : ST) (o k : Nat) (u v : Int32) : sI (sI y o k u) o k v = sI y o k v := by
  refine Prod.ext (funext fun i => funext fun j => ?_) rfl
  show (if i = o ∧ j = k then v else (if i = o ∧ j = k then u else y.1 i j)) = (if i = o ∧ j = k then v else y.1 i j)
  by_cases h : i = o ∧ j = k
  · rw [if_pos h, if_pos h]
  · rw [if_neg h, if_neg h, if_neg h]
def TSt (y : ST) (T : TP) (s : Nat) (f : Int32) : Prop := XTa y T ∧ s ≤ T.1 ∧ y.1 1 5 = nI s ∧ y.1 1 2 = nI (kd T s) ∧ y.1 1 6 = nI (en T s) ∧ y.1 1 4 = f
theorem TSt_off {D : Nat → Prop} {z : ST} {s : Nat} {f : Int32} (h : Off D y z) (h1 : ¬ D 1) (h2 : ¬ D 2) (hx : TSt y T s f) : TSt z T s f := by
  obtain ⟨a, b, c, d, e, g⟩ := hx
  have e1 := (h 1 h1).1
  exact ⟨XTa_off h h1 h2 a, b, by rw [e1]; exact c, by rw [e1]; exact d, by rw [e1]; exact e, by rw [e1]; exact g⟩
theorem XTa_sI {k : Nat} (hk : k ≠ 1) (v : Int32) (hx : XTa y T) : XTa (sI y 1 k v) T := by
  refine ⟨?_, hx.2⟩
  show (if 1 = 1 ∧ 1 = k then v else y.1 1 1) = _
  rw [if_neg (fun q => hk q.2.symm)]
  exact hx.1
theorem i_kindAt (d : Nat) (hT : isTa sh 1) (hx : XTa y T) (hV : VTa T) {i : Nat} (hi : i ≤ T.1) : cI (ZZ L xs) (d + 1) mX8_kindAt [.ref 1, .int (nI i)] (HP sh y) = some (HP sh y, nI (kd T i)) := by
  have h400 := hV.1
  refine cI_of ?_
  show RS (ZZ L xs) (d + 1) mX8_kindAt 0 [some (.ref 1), some (.int (nI i)), none] [] _ = _
  rw [bX8_kindAt_0, Ta_length hT, some_bind', hx.1]
  unfold kd
  by_cases h : i < T.1
  · have hb := hV.2 i h
    rw [if_pos (nI_lt h (by omega)), Ta_bytes hT, some_bind', Tae_bytes hT _ (by omega), some_bind', show y.2.2.2.1 (1 + 1) i = nI (T.2 i) from hx.2 i h, if_neg (show ¬ T.1 ≤ i by omega), Bt_lt h]
    by_cases c1 : T.2 i < 97
    · rw [if_pos (show nI (T.2 i) < 97 from nI_lt c1 (by decide)), bX8_kindAt_31, if_neg (show ¬ isL (T.2 i) = true from fun q => by have := isL_iff.mp q; omega)]
      by_cases c2 : T.2 i < 48
      · rw [if_pos (show nI (T.2 i) < 48 from nI_lt c2 (by decide)), bX8_kindAt_47, bX8_kindAt_48, if_neg (show ¬ isD (T.2 i) = true from fun q => by have := isD_iff.mp q; omega)]
        rfl
      · rw [if_neg (show ¬ nI (T.2 i) < 48 from nI_nlt (b := 48) (by omega) (by omega))]
        by_cases c3 : 57 < T.2 i
        · rw [if_pos (show (57 : Int32) < nI (T.2 i) from nI_lt (a := 57) c3 (by omega)), bX8_kindAt_47, bX8_kindAt_48, if_neg (show ¬ isD (T.2 i) = true from fun q => by have := isD_iff.mp q; omega)]
          rfl
        · rw [if_neg (show ¬ (57 : Int32) < nI (T.2 i) from nI_nlt (a := 57) (by omega) (by omega)), bX8_kindAt_48, if_pos (isD_iff.mpr ⟨by omega, by omega⟩)]
          rfl
    · rw [if_neg (show ¬ nI (T.2 i) < 97 from nI_nlt (b := 97) (by omega) (by omega))]
      by_cases c4 : 122 < T.2 i
      · rw [if_pos (show (122 : Int32) < nI (T.2 i) from nI_lt (a := 122) c4 (by omega)), bX8_kindAt_31, if_neg (show ¬ nI (T.2 i) < 48 from nI_nlt (b := 48) (by omega) (by omega)), if_pos (show (57 : Int32) < nI (T.2 i) from nI_lt (a := 57) (by omega) (by omega)), bX8_kindAt_47, bX8_kindAt_48, if_neg (show ¬ isL (T.2 i) = true from fun q => by have := isL_iff.mp q; omega), if_neg (show ¬ isD (T.2 i) = true from fun q => by have := isD_iff.mp q; omega)]
        rfl
      · rw [if_neg (show ¬ (122 : Int32) < nI (T.2 i) from nI_nlt (a := 122) (by omega) (by omega)), if_pos (isL_iff.mpr ⟨by omega, by omega⟩)]
        rfl
  · rw [if_neg (nI_nlt (by omega) (by omega)), if_pos (show T.1 ≤ i by omega)]
    rfl
theorem i_joins (d : Nat) (hT : isTa sh 1) (hx : XTa y T) (hV : VTa T) {s : Nat} (hs : s < T.1) (h5 : y.1 1 5 = nI s) : cI (ZZ L xs) (d + 1) mX8_joinsEqual [.ref 1] (HP sh y) = some (HP sh y, z01 (jE T s)) := by
  have h400 := hV.1
  have hb := hV.2 s hs
  have lit : ∀ c : Nat, c < 256 → (nI (T.2 s) = nI c ↔ T.2 s = c) := fun c hc => nI_eq (by omega) (by omega)
  have b33 : RS (ZZ L xs) (d + 1) mX8_joinsEqual 33 [some (.ref 1), none] [.int 1] (HP sh y) = some (HP sh y, some (.int (z01 (decide (Bt T (s + 1) = 61))))) := by
    rw [bX8_joinsEqual_33, if_neg (by decide), Ta_start hT, some_bind', h5, Ta_length hT, some_bind', hx.1, nI_1]
    by_cases h1 : T.1 ≤ s + 1
    · rw [if_pos (nI_le h1 (by omega)), bX8_joinsEqual_71, bX8_joinsEqual_72, if_pos (Or.inl rfl), Bt_ge h1]
      rfl
    · have hb1 := hV.2 (s + 1) (by omega)
      rw [if_neg (nI_ge (by omega) (by omega)), Ta_bytes hT, some_bind', some_bind', nI_1, Tae_bytes hT _ (by omega), some_bind', show y.2.2.2.1 (1 + 1) (s + 1) = nI (T.2 (s + 1)) from hx.2 (s + 1) (by omega), Bt_lt (by omega)]
      by_cases e : T.2 (s + 1) = 61
      · rw [e, if_neg (fun z => z rfl), bX8_joinsEqual_72, if_pos (Or.inr rfl)]
        rfl
      · rw [if_pos (show ¬ nI (T.2 (s + 1)) = 61 from fun z => e ((nI_eq (b := 61) (by omega) (by decide)).mp z)), bX8_joinsEqual_71, bX8_joinsEqual_72, if_pos (Or.inl rfl), decide_eq_false e]
        rfl
  refine cI_of ?_
  show RS (ZZ L xs) (d + 1) mX8_joinsEqual 0 [some (.ref 1), none] [] _ = _
  rw [bX8_joinsEqual_0, Ta_bytes hT, some_bind', Ta_start hT, some_bind', h5, Tae_bytes hT _ (by omega), some_bind', show y.2.2.2.1 (1 + 1) s = nI (T.2 s) from hx.2 s hs]
  unfold jE
  rw [Bt_lt hs]
  by_cases c1 : T.2 s = 60
  · rw [if_pos (show nI (T.2 s) = 60 by rw [c1]; rfl), bX8_joinsEqual_28, b33, decide_eq_true c1, Bool.true_or, Bool.true_and]
  · rw [if_neg (show ¬ nI (T.2 s) = 60 from fun z => c1 ((lit 60 (by decide)).mp z)), some_bind', some_bind', Tae_bytes hT _ (by omega), some_bind', show y.2.2.2.1 (1 + 1) s = nI (T.2 s) from hx.2 s hs]
    by_cases c2 : T.2 s = 62
    · rw [if_neg (fun z => z (by rw [c2]; rfl)), bX8_joinsEqual_28, b33, decide_eq_true c2, Bool.or_true, Bool.true_and]
    · rw [if_pos (show ¬ nI (T.2 s) = 62 from fun z => c2 ((lit 62 (by decide)).mp z)), bX8_joinsEqual_33, if_pos rfl, bX8_joinsEqual_71, bX8_joinsEqual_72, if_pos (Or.inl rfl), decide_eq_false c1, decide_eq_false c2]
      rfl
theorem v_adv0 (d : Nat) (hT : isTa sh 1) (hx : XTa y T) (hV : VTa T) {b : Nat} (hb : b ≤ T.1) (h6 : y.1 1 6 = nI b) : ∃ y', cV (ZZ L xs) (d + 2) mX8_advance [.ref 1] (HP sh y) = some (HP sh y') ∧ Off (fun o => o = 1) y y' ∧ TSt y' T (rn isB T b) (y.1 1 4) ∧ y'.1 1 3 = y.1 1 3 := by
  have h400 := hV.1
  -- the blanks
  have bl : ∀ (f a : Nat), T.1 - a ≤ f → a ≤ T.1 → RS (ZZ L xs) (d + 2) mX8_advance 8 [some (.ref 1)] [] (HP sh (sI y 1 5 (nI a))) = RS (ZZ L xs) (d + 2) mX8_advance 46 [some (.ref 1)] [] (HP sh (sI y 1 5 (nI (rn isB T a)))) := by
    intro f
    induction f with
    | zero =>
      intro a hf ha
      rw [bX8_advance_8, Ta_start hT, some_bind', show (sI y 1 5 (nI a)).1 1 5 = nI a from rfl, Ta_length hT, some_bind', show (sI y 1 5 (nI a)).1 1 1 = nI T.1 from hx.1, if_pos (nI_le (by omega) (by omega)), rn_neg (by decide) (by rw [Bt_ge (by omega)]; decide)]
    | succ f ih =>
      intro a hf ha
      rw [bX8_advance_8, Ta_start hT, some_bind', show (sI y 1 5 (nI a)).1 1 5 = nI a from rfl, Ta_length hT, some_bind', show (sI y 1 5 (nI a)).1 1 1 = nI T.1 from hx.1]
      by_cases h : T.1 ≤ a
      · rw [if_pos (nI_le h (by omega)), rn_neg (by decide) (by rw [Bt_ge h]; decide)]
      · have hb := hV.2 a (by omega)
        rw [if_neg (nI_ge (by omega) (by omega)), Ta_bytes hT, some_bind', some_bind', Tae_bytes hT _ (by omega), some_bind', show (sI y 1 5 (nI a)).2.2.2.1 (1 + 1) a = nI (T.2 a) from hx.2 a (by omega)]
        by_cases e : T.2 a = 32
        · rw [if_neg (fun z => z (by rw [e]; rfl)), some_bind', Taw_start hT, some_bind', nI_1, sI_sI, ih (a + 1) (by omega) (by omega), rn_pos (P := isB) (s := a) (by decide) (by rw [Bt_lt (by omega), e]; decide)]
        · rw [if_pos (show ¬ nI (T.2 a) = 32 from fun z => e ((nI_eq (b := 32) (by omega) (by decide)).mp z)), rn_neg (by decide) (by rw [Bt_lt (by omega)]; exact fun q => e (of_decide_eq_true q))]
  have hs := rn_top isB hb
  generalize hse : rn isB T b = s at hs
  obtain ⟨w, hw⟩ : ∃ w, w = sI (sI (sI y 1 5 (nI s)) 1 6 (nI s)) 1 2 (nI (kd T s)) := ⟨_, rfl⟩
  have hwx : XTa w T := by rw [hw]; exact XTa_sI (by decide) _ (XTa_sI (by decide) _ (XTa_sI (by decide) _ hx))
  have w5 : w.1 1 5 = nI s := by rw [hw]; rfl
  have w6 : w.1 1 6 = nI s := by rw [hw]; rfl
  have w2 : w.1 1 2 = nI (kd T s) := by rw [hw]; rfl
  have w4 : w.1 1 4 = y.1 1 4 := by rw [hw]; rfl
  have w3 : w.1 1 3 = y.1 1 3 := by rw [hw]; rfl
  have wo : Off (fun o => o = 1) y w := by rw [hw]; exact Off_sI (D := fun o => o = 1) (Off_sI (D := fun o => o = 1) (Off_sI (D := fun o => o = 1) (Off_refl _ _) rfl _ _) rfl _ _) rfl _ _
  have fin : ∀ e, en T s = e → Off (fun o => o = 1) y (sI w 1 6 (nI e)) ∧ TSt (sI w 1 6 (nI e)) T s (y.1 1 4) ∧ (sI w 1 6 (nI e)).1 1 3 = y.1 1 3 := fun e he => ⟨Off_sI (D := fun o => o = 1) wo rfl _ _, ⟨XTa_sI (by decide) _ hwx, hs, w5, w2, by rw [he]; rfl, w4⟩, w3⟩
  have start : CL (ZZ L xs) (d + 2) mX8_advance [.ref 1] (HP sh y) = RS (ZZ L xs) (d + 2) mX8_advance 46 [some (.ref 1)] [] (HP sh (sI y 1 5 (nI s))) := by
    show RS (ZZ L xs) (d + 2) mX8_advance 0 [some (.ref 1)] [] (HP sh y) = _
    rw [bX8_advance_0, Ta_behind hT, some_bind', h6, Taw_start hT, some_bind', bl _ b (Nat.le_refl _) hb, hse]
  have ex : ∀ e, en T s = e → RS (ZZ L xs) (d + 2) mX8_advance 46 [some (.ref 1)] [] (HP sh (sI y 1 5 (nI s))) = some (HP sh (sI w 1 6 (nI e)), none) → ∃ y', cV (ZZ L xs) (d + 2) mX8_advance [.ref 1] (HP sh y) = some (HP sh y') ∧ Off (fun o => o = 1) y y' ∧ TSt y' T s (y.1 1 4) ∧ y'.1 1 3 = y.1 1 3 := fun e he hr => ⟨_, cV_of (start.trans hr), fin e he⟩
  have b46 : RS (ZZ L xs) (d + 2) mX8_advance 46 [some (.ref 1)] [] (HP sh (sI y 1 5 (nI s))) = if ¬ nI (kd T s) = 3 then RS (ZZ L xs) (d + 2) mX8_advance 96 [some (.ref 1)] [] (HP sh w) else (cI (ZZ L xs) (d + 1) mX8_joinsEqual [.ref 1] (HP sh w)).bind fun p80 => if (p80.2 : Int32) = 0 then RS (ZZ L xs) (d + 2) mX8_advance 91 [some (.ref 1)] [.int 1, .int (nI s), .ref 1] p80.1 else RS (ZZ L xs) (d + 2) mX8_advance 91 [some (.ref 1)] [.int 2, .int (nI s), .ref 1] p80.1 := by
    rw [bX8_advance_46, Ta_start hT, some_bind', show (sI y 1 5 (nI s)).1 1 5 = nI s from rfl, Taw_behind hT, some_bind', Ta_start hT, some_bind', show (sI (sI y 1 5 (nI s)) 1 6 (nI s)).1 1 5 = nI s from rfl, Ta_is hT, some_bind', i_kindAt (d) hT (XTa_sI (by decide) _ (XTa_sI (by decide) _ hx)) hV hs, some_bind', Taw_kind hT, some_bind', ← hw, Ta_kind hT, some_bind', w2, Ta_start hT, some_bind', w5, Ta_is hT, some_bind']
  -- as far as it goes on
  have go : ∀ (k : Nat) (P : Nat → Bool), P 256 = false → (k = 1 ∨ k = 2) → kd T s = k → (∀ a, kd T a = k ↔ P (Bt T a) = true) → ∀ (f a : Nat), T.1 - a ≤ f → a ≤ T.1 → RS (ZZ L xs) (d + 2) mX8_advance 96 [some (.ref 1)] [] (HP sh (sI w 1 6 (nI a))) = some (HP sh (sI w 1 6 (nI (rn P T a))), none) := by
    intro k P hP hk hks hkP f
    have hx6 : ∀ a, XTa (sI w 1 6 (nI a)) T := fun a => XTa_sI (by decide) _ hwx
    have stop : ∀ a, T.1 ≤ a → a ≤ T.1 → RS (ZZ L xs) (d + 2) mX8_advance 96 [some (.ref 1)] [] (HP sh (sI w 1 6 (nI a))) = some (HP sh (sI w 1 6 (nI (rn P T a))), none) := fun a h1 h2 => by
      rw [bX8_advance_96, Ta_kind hT, some_bind', show (sI w 1 6 (nI a)).1 1 2 = nI k by rw [← hks]; exact w2, if_neg (nI_ne0 (by omega) (by omega)), Ta_behind hT, some_bind', show (sI w 1 6 (nI a)).1 1 6 = nI a from rfl, Ta_length hT, some_bind', (hx6 a).1, if_pos (nI_le h1 (by omega)), bX8_advance_142, rn_neg hP (by rw [Bt_ge h1, hP]; decide)]
    induction f with
    | zero =>
      intro a hf ha
      exact stop a (by omega) ha
    | succ f ih =>
      intro a hf ha
      by_cases h : T.1 ≤ a
      · exact stop a h ha
      · rw [bX8_advance_96, Ta_kind hT, some_bind', show (sI w 1 6 (nI a)).1 1 2 = nI k by rw [← hks]; exact w2, if_neg (nI_ne0 (by omega) (by omega)), Ta_behind hT, some_bind', show (sI w 1 6 (nI a)).1 1 6 = nI a from rfl, Ta_length hT, some_bind', (hx6 a).1, if_neg (nI_ge (by omega) (by omega)), some_bind', Ta_is hT, some_bind', i_kindAt (d) hT (hx6 a) hV ha, some_bind', Ta_kind hT, some_bind', show (sI w 1 6 (nI a)).1 1 2 = nI k by rw [← hks]; exact w2]
        have k3 := kd_3 T a
        by_cases e : kd T a = k
        · rw [if_neg (fun z => z (by rw [e])), Ta_behind hT, some_bind', show (sI w 1 6 (nI a)).1 1 6 = nI a from rfl, Taw_behind hT, some_bind', nI_1, sI_sI, ih (a + 1) (by omega) (by omega), rn_pos (s := a) hP ((hkP a).mp e)]
        · rw [if_pos (fun z => e ((nI_eq (by omega) (by omega)).mp z)), bX8_advance_142, rn_neg hP (fun q => e ((hkP a).mpr q))]
  have ww : sI w 1 6 (nI s) = w := by
    refine Prod.ext (funext fun i => funext fun j => ?_) rfl
    show (if i = 1 ∧ j = 6 then nI s else w.1 i j) = w.1 i j
    by_cases h : i = 1 ∧ j = 6
    · rw [if_pos h, h.1, h.2, w6]
    · rw [if_neg h]
  by_cases k3 : kd T s = 3
  · have hs1 : s < T.1 := Nat.lt_of_not_le (fun q => by have := kd_0.mpr q; omega)
    by_cases hj : jE T s = true
    · refine ex (s + 2) (by unfold en; rw [k3, if_neg (by decide), if_neg (by decide), if_neg (by decide), if_pos hj]) ?_
      rw [b46, if_neg (fun z => z (by rw [k3]; rfl)), i_joins (d) hT hwx hV hs1 w5, some_bind', if_neg (z1 hj), bX8_advance_91 (hw2 := rfl), Taw_behind hT, some_bind', show nI s + 2 = nI (s + 2) from nI_add s 2]
    · refine ex (s + 1) (by unfold en; rw [k3, if_neg (by decide), if_neg (by decide), if_neg (by decide), if_neg hj]) ?_
      rw [b46, if_neg (fun z => z (by rw [k3]; rfl)), i_joins (d) hT hwx hV hs1 w5, some_bind', if_pos (z0 hj), bX8_advance_91 (hw2 := rfl), Taw_behind hT, some_bind', nI_1]
  · have hkk := kd_3 T s
    have n3 : ¬ nI (kd T s) = 3 := fun z => k3 ((nI_eq (b := 3) (by omega) (by decide)).mp z)
    by_cases k1 : kd T s = 1
    · refine ex (rn isL T s) (by unfold en; rw [k1, if_neg (by decide), if_pos rfl]) ?_
      rw [b46, if_pos n3, ← ww, go 1 isL (by decide) (Or.inl rfl) k1 (fun a => kd_L) _ s (Nat.le_refl _) hs, ww]
    · by_cases k2 : kd T s = 2
      · refine ex (rn isD T s) (by unfold en; rw [k2, if_neg (by decide), if_neg (by decide), if_pos rfl]) ?_
        rw [b46, if_pos n3, ← ww, go 2 isD (by decide) (Or.inr rfl) k2 (fun a => kd_D) _ s (Nat.le_refl _) hs, ww]
      · have k0 : kd T s = 0 := by omega
        refine ex s (by unfold en; rw [if_pos k0]) ?_
        rw [b46, if_pos n3, ww, bX8_advance_96, Ta_kind hT, some_bind', w2, if_pos (by rw [k0]; rfl), bX8_advance_142]
theorem v_adv (d : Nat) (hT : isTa sh 1) (hV : VTa T) {s : Nat} {f : Int32} (hx : TSt y T s f) : ∃ y', cV (ZZ L xs) (d + 2) mX8_advance [.ref 1] (HP sh y) = some (HP sh y') ∧ Off (fun o => o = 1) y y' ∧ TSt y' T (nx' T s) f ∧ y'.1 1 3 = y.1 1 3 := by
  obtain ⟨a, b, c, e, g, i⟩ := hx
  rw [← i]
  exact v_adv0 d hT a hV (en_le b).2 g
theorem v_openT (d : Nat) (hT : isTa sh 1) (hV : VTa T) (hx : XTa y T) : ∃ y', cV (ZZ L xs) (d + 3) mX8_open [.ref 1] (HP sh y) = some (HP sh y') ∧ Off (fun o => o = 1) y y' ∧ TSt y' T (rn isB T 0) 0 := by
  obtain ⟨y', p1, p2, p3, -⟩ := v_adv0 (L := L) (xs := xs) (d := d) (y := sI (sI y 1 4 0) 1 6 0) hT (XTa_sI (by decide) _ (XTa_sI (by decide) _ hx)) hV (b := 0) (Nat.zero_le _) rfl
  refine ⟨y', cV_of ?_, Off_trans (Off_sI (D := fun o => o = 1) (Off_sI (D := fun o => o = 1) (Off_refl _ _) rfl _ _) rfl _ _) p2, p3⟩
  show RS (ZZ L xs) (d + 3) mX8_open 0 [some (.ref 1)] [] _ = _
  rw [bX8_open_0, Taw_fault hT, some_bind', Taw_behind hT, some_bind', Ta_is hT, some_bind', p1, some_bind']
/-- a fault: the first stays -/
def fst0 (f : Int32) (e : Nat) : Int32 := if f = 0 then nI e else f
def ft (s c : Nat) : Nat := 1 + 8 * s + c
theorem ft_nI (s c : Nat) : 1 + 8 * nI s + nI c = nI (ft s c) := by
  rw [nI_8m, show (1 : Int32) = nI 1 from rfl, nI_add, nI_add]
  rfl
theorem TSt_fault {s : Nat} {f g : Int32} (hx : TSt y T s f) : TSt (sI y 1 4 g) T s g := by
  obtain ⟨a, b, c, e, h, i⟩ := hx
  exact ⟨XTa_sI (by decide) _ a, b, c, e, h, rfl⟩
theorem i_refuse (d : Nat) (hT : isTa sh 1) {s : Nat} (hx : TSt y T s 0) (c : Nat) : ∃ y', cI (ZZ L xs) (d + 1) mX8_refuse [.ref 1, .int (nI c)] (HP sh y) = some (HP sh y', 0) ∧ Off (fun o => o = 1) y y' ∧ TSt y' T s (nI (ft s c)) := by
  obtain ⟨a, b, h5, e, g, i⟩ := id hx
  refine ⟨sI y 1 4 (nI (ft s c)), cI_of ?_, Off_sI (D := fun o => o = 1) (Off_refl _ _) rfl _ _, TSt_fault hx⟩
  show RS (ZZ L xs) (d + 1) mX8_refuse 0 [some (.ref 1), some (.int (nI c))] [] _ = _
  rw [bX8_refuse_0, Ta_fault hT, some_bind', i, if_neg (fun z => z rfl), Ta_start hT, some_bind', h5, ft_nI, Taw_fault hT, some_bind', bX8_refuse_22, if_pos (Or.inl rfl)]
end LEXX
