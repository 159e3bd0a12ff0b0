/-! the law's loop -/
theorem HP_sl (sh : List Sh) (x : ST) : sl (HP sh x) = slS sh := by
  unfold sl slS
  congr 1
  apply List.ext_getElem?
  intro i
  rw [List.getElem?_map, List.getElem?_map, HP_get]
  cases sh[i]? with
  | none => rfl
  | some s =>
    show some (slE (cell x i s)) = some (slC s)
    congr 1
    cases s with
    | inl q =>
      obtain ⟨t, n⟩ := q
      show slE (if t = 1 then _ else if t < 4 then _ else _) = n
      by_cases h1 : t = 1
      · rw [if_pos h1]
        rfl
      · rw [if_neg h1]
        by_cases h4 : t < 4
        · rw [if_pos h4]
          rfl
        · rw [if_neg h4]
          rfl
    | inr q =>
      obtain ⟨ci, fs⟩ := q
      show (fs.mapIdx (fun k q => fV x i k q)).length = fs.length
      exact List.length_mapIdx
theorem pM_keep {D : Nat → Prop} {x y : ST} {m : MM} (h : Off D (pM x m) y) (hb : ∀ o, 259 ≤ o → o < 307 → ¬ D o) : pM y m = y := by
  refine Prod.ext (funext fun o => ?_) (Prod.ext rfl (Prod.ext rfl (Prod.ext (funext fun a => ?_) (Prod.ext (funext fun a => ?_) rfl))))
  · show (if o = 259 then m.1 else y.1 o) = y.1 o
    by_cases e : o = 259
    · rw [if_pos e, e, (h 259 (hb _ (by omega) (by omega))).1]
      rfl
    · rw [if_neg e]
  · show (if 260 ≤ a ∧ a < 307 then m.2.1 (a - 260) else y.2.2.2.1 a) = y.2.2.2.1 a
    by_cases e : 260 ≤ a ∧ a < 307
    · rw [if_pos e, (h a (hb _ (by omega) (by omega))).2.2.2.1]
      show _ = (if 260 ≤ a ∧ a < 307 then m.2.1 (a - 260) else x.2.2.2.1 a)
      rw [if_pos e]
    · rw [if_neg e]
  · show (if 260 ≤ a ∧ a < 307 then m.2.2 (a - 260) else y.2.2.2.2.1 a) = y.2.2.2.2.1 a
    by_cases e : 260 ≤ a ∧ a < 307
    · rw [if_pos e, (h a (hb _ (by omega) (by omega))).2.2.2.2.1]
      show _ = (if 260 ≤ a ∧ a < 307 then m.2.2 (a - 260) else x.2.2.2.2.1 a)
      rw [if_pos e]
    · rw [if_neg e]
section LOOP
variable {L : Nat} {xs : Nat → Int32}
/-- what holds between two steps of the law -/
def LI (L : Nat) (xs : Nat → Int32) (sh : List Sh) (y : ST) (m : MM) (W : WD) : Prop := XI L xs sh (pM y m) W ∧ MI L xs m W ∧ VW W
noncomputable def LW (L : Nat) (xs : Nat → Int32) (k : Nat) (ph : PH) : Option (PH × Option Value) := RS (ZZ L xs) (100 + 1) mL_law 18 [some (.retAddr 0), some (.ref 0), some (.ref 259), some (.int (nI (6 * k)))] [] ph
theorem l_op {sh : List Sh} {y : ST} {m : MM} {W : WD} (hI : LI L xs sh y m W) {mx mm : MD} {as : List Value} (hs : Step L xs W mx mm as) : ∃ sh' y' m' W' r, cI (ZZ L xs) 100 mx (.ref 0 :: as) (HP sh (pM y m)) = some (HP sh' (pM y' m), r) ∧ cI (ZZ L xs) 100 mm (.ref 259 :: as) (HP sh' (pM y' m)) = some (HP sh' (pM y' m'), r) ∧ isMo sh' ∧ LI L xs sh' y' m' W' ∧ Gr sh sh' := by
  obtain ⟨W', r, hX, hMM⟩ := hs
  obtain ⟨sh', y', a1, a2, a3, a4⟩ := hX sh (pM y m) 40 hI.1
  have hk : pM y' m = y' := pM_keep a3 (fun o h1 h2 => by omega)
  have hM : isMo sh' := a2.1.2.2.2.2
  obtain ⟨m', b1, b2, b3⟩ := hMM sh' y' m 40 hM hI.2.1
  exact ⟨sh', y', m', W', r, by rw [hk]; exact a1, b1, hM, ⟨XI_M a2, b2, b3⟩, a4⟩
theorem scr_at {n : Nat} (hn : n < L) (hL : L ≤ 3072) : scr L xs (nI n) = some (xs n) := by
  unfold scr
  have hc : (nI n).toNatClampNeg = n := nI_clamp (by omega)
  rw [hc, if_pos (fun z => z.elim (fun q => nI_pos (n := n) (by omega) q) (fun q => by omega))]
theorem l_more {k : Nat} (hk : k < 10000) (hL : L ≤ 3072) : ((Int32.ofNat L) - 6 : Int32) < nI (6 * k) ↔ L < 6 * k + 6 := by
  have e : ((Int32.ofNat L) - 6 : Int32).toInt = (L : Int) - 6 := by
    rw [Int32.toInt_sub, show (Int32.ofNat L).toInt = (L : Int) from nI_toInt (by omega), show (6 : Int32).toInt = 6 from rfl, Int.bmod_eq_of_le (by omega) (by omega)]
  rw [Int32.lt_iff_toInt_lt, e, nI_toInt (by omega)]
  omega
theorem l_feed {k : Nat} (hk : 6 * k + 6 ≤ L) (hL : L ≤ 3072) {sh : List Sh} {y : ST} {m : MM} {W : WD} (hI : LI L xs sh y m W) : ∃ sh' y' m' W', RS (ZZ L xs) (100 + 1) mL_law 184 [some (.retAddr 0), some (.ref 0), some (.ref 259), some (.int (nI (6 * k)))] [] (HP sh (pM y m)) = LW L xs (k + 1) (HP sh' (pM y' m')) ∧ LI L xs sh' y' m' W' ∧ Gr sh sh' := by
  have hW : isWM sh 0 := hI.1.1.1.1
  have s1 : scr L xs (nI (6 * k) + 1) = some (xs (6 * k + 1)) := by
    rw [show nI (6 * k) + 1 = nI (6 * k + 1) from nI_add _ 1]
    exact scr_at (by omega) hL
  have s2 : scr L xs (nI (6 * k) + 2) = some (xs (6 * k + 2)) := by
    rw [show nI (6 * k) + 2 = nI (6 * k + 2) from nI_add _ 2]
    exact scr_at (by omega) hL
  have s3 : scr L xs (nI (6 * k) + 3) = some (xs (6 * k + 3)) := by
    rw [show nI (6 * k) + 3 = nI (6 * k + 3) from nI_add _ 3]
    exact scr_at (by omega) hL
  have s4 : scr L xs (nI (6 * k) + 4) = some (xs (6 * k + 4)) := by
    rw [show nI (6 * k) + 4 = nI (6 * k + 4) from nI_add _ 4]
    exact scr_at (by omega) hL
  have s5 : scr L xs (nI (6 * k) + 5) = some (xs (6 * k + 5)) := by
    rw [show nI (6 * k) + 5 = nI (6 * k + 5) from nI_add _ 5]
    exact scr_at (by omega) hL
  have s6 : nI (6 * k) + 6 = nI (6 * (k + 1)) := nI_add _ 6
  obtain ⟨sh', y', m', W', r, c1, c2, hM, hI', hG⟩ := l_op hI (Sp_feed hI.2.2 (xs (6 * k + 1)) (xs (6 * k + 2)) (xs (6 * k + 3)) (xs (6 * k + 4)) (xs (6 * k + 5)))
  refine ⟨sh', y', m', W', ?_, hI', hG⟩
  rw [bL_law_184 (hv1 := rfl) (hv2 := rfl), s1, some_bind', s2, some_bind', s3, some_bind', s4, some_bind', s5, some_bind', WM_is hW, some_bind', c1, some_bind', some_bind', some_bind', some_bind', some_bind', some_bind', M_is hM, some_bind', c2, some_bind', if_pos rfl, bL_law_1266 (hv1 := rfl) (hv2 := rfl), s6]
  rfl
theorem l_end {k : Nat} (hk : 6 * k + 6 ≤ L) (hL : L ≤ 3072) {sh : List Sh} {y : ST} {m : MM} {W : WD} (hI : LI L xs sh y m W) : ∃ sh' y' m' W', RS (ZZ L xs) (100 + 1) mL_law 247 [some (.retAddr 0), some (.ref 0), some (.ref 259), some (.int (nI (6 * k)))] [] (HP sh (pM y m)) = LW L xs (k + 1) (HP sh' (pM y' m')) ∧ LI L xs sh' y' m' W' ∧ Gr sh sh' := by
  have hW : isWM sh 0 := hI.1.1.1.1
  have s1 : scr L xs (nI (6 * k) + 1) = some (xs (6 * k + 1)) := by
    rw [show nI (6 * k) + 1 = nI (6 * k + 1) from nI_add _ 1]
    exact scr_at (by omega) hL
  have s6 : nI (6 * k) + 6 = nI (6 * (k + 1)) := nI_add _ 6
  obtain ⟨sh', y', m', W', r, c1, c2, hM, hI', hG⟩ := l_op hI (Sp_end hI.2.2 (xs (6 * k + 1)))
  refine ⟨sh', y', m', W', ?_, hI', hG⟩
  rw [bL_law_247 (hv1 := rfl) (hv2 := rfl), s1, some_bind', WM_is hW, some_bind', c1, some_bind', some_bind', M_is hM, some_bind', c2, some_bind', if_pos rfl, bL_law_1266 (hv1 := rfl) (hv2 := rfl), s6]
  rfl
theorem l_town {k : Nat} (hk : 6 * k + 6 ≤ L) (hL : L ≤ 3072) {sh : List Sh} {y : ST} {m : MM} {W : WD} (hI : LI L xs sh y m W) : ∃ sh' y' m' W', RS (ZZ L xs) (100 + 1) mL_law 270 [some (.retAddr 0), some (.ref 0), some (.ref 259), some (.int (nI (6 * k)))] [] (HP sh (pM y m)) = LW L xs (k + 1) (HP sh' (pM y' m')) ∧ LI L xs sh' y' m' W' ∧ Gr sh sh' := by
  have hW : isWM sh 0 := hI.1.1.1.1
  have s6 : nI (6 * k) + 6 = nI (6 * (k + 1)) := nI_add _ 6
  obtain ⟨sh', y', m', W', r, c1, c2, hM, hI', hG⟩ := l_op hI (Sp_town hI.2.2)
  refine ⟨sh', y', m', W', ?_, hI', hG⟩
  rw [bL_law_270 (hv1 := rfl) (hv2 := rfl), WM_is hW, some_bind', c1, some_bind', M_is hM, some_bind', c2, some_bind', if_pos rfl, bL_law_1266 (hv1 := rfl) (hv2 := rfl), s6]
  rfl
theorem l_rule {k : Nat} (hk : 6 * k + 6 ≤ L) (hL : L ≤ 3072) {sh : List Sh} {y : ST} {m : MM} {W : WD} (hI : LI L xs sh y m W) : ∃ sh' y' m' W', RS (ZZ L xs) (100 + 1) mL_law 283 [some (.retAddr 0), some (.ref 0), some (.ref 259), some (.int (nI (6 * k)))] [] (HP sh (pM y m)) = LW L xs (k + 1) (HP sh' (pM y' m')) ∧ LI L xs sh' y' m' W' ∧ Gr sh sh' := by
  have hW : isWM sh 0 := hI.1.1.1.1
  have s6 : nI (6 * k) + 6 = nI (6 * (k + 1)) := nI_add _ 6
  obtain ⟨sh', y', m', W', r, c1, c2, hM, hI', hG⟩ := l_op hI (Sp_rule hI.2.2)
  refine ⟨sh', y', m', W', ?_, hI', hG⟩
  rw [bL_law_283 (hv1 := rfl) (hv2 := rfl), WM_is hW, some_bind', c1, some_bind', M_is hM, some_bind', c2, some_bind', if_pos rfl, bL_law_1266 (hv1 := rfl) (hv2 := rfl), s6]
  rfl
theorem l_force {k : Nat} (hk : 6 * k + 6 ≤ L) (hL : L ≤ 3072) {sh : List Sh} {y : ST} {m : MM} {W : WD} (hI : LI L xs sh y m W) : ∃ sh' y' m' W', RS (ZZ L xs) (100 + 1) mL_law 296 [some (.retAddr 0), some (.ref 0), some (.ref 259), some (.int (nI (6 * k)))] [] (HP sh (pM y m)) = LW L xs (k + 1) (HP sh' (pM y' m')) ∧ LI L xs sh' y' m' W' ∧ Gr sh sh' := by
  have hW : isWM sh 0 := hI.1.1.1.1
  have s1 : scr L xs (nI (6 * k) + 1) = some (xs (6 * k + 1)) := by
    rw [show nI (6 * k) + 1 = nI (6 * k + 1) from nI_add _ 1]
    exact scr_at (by omega) hL
  have s6 : nI (6 * k) + 6 = nI (6 * (k + 1)) := nI_add _ 6
  obtain ⟨sh', y', m', W', r, c1, c2, hM, hI', hG⟩ := l_op hI (Sp_force hI.2.2 (xs (6 * k + 1)))
  refine ⟨sh', y', m', W', ?_, hI', hG⟩
  rw [bL_law_296 (hv1 := rfl) (hv2 := rfl), s1, some_bind', WM_is hW, some_bind', c1, some_bind', some_bind', M_is hM, some_bind', c2, some_bind', if_pos rfl, bL_law_1266 (hv1 := rfl) (hv2 := rfl), s6]
  rfl
theorem l_person {k : Nat} (hk : 6 * k + 6 ≤ L) (hL : L ≤ 3072) {sh : List Sh} {y : ST} {m : MM} {W : WD} (hI : LI L xs sh y m W) : ∃ sh' y' m' W', RS (ZZ L xs) (100 + 1) mL_law 319 [some (.retAddr 0), some (.ref 0), some (.ref 259), some (.int (nI (6 * k)))] [] (HP sh (pM y m)) = LW L xs (k + 1) (HP sh' (pM y' m')) ∧ LI L xs sh' y' m' W' ∧ Gr sh sh' := by
  have hW : isWM sh 0 := hI.1.1.1.1
  have s1 : scr L xs (nI (6 * k) + 1) = some (xs (6 * k + 1)) := by
    rw [show nI (6 * k) + 1 = nI (6 * k + 1) from nI_add _ 1]
    exact scr_at (by omega) hL
  have s2 : scr L xs (nI (6 * k) + 2) = some (xs (6 * k + 2)) := by
    rw [show nI (6 * k) + 2 = nI (6 * k + 2) from nI_add _ 2]
    exact scr_at (by omega) hL
  have s6 : nI (6 * k) + 6 = nI (6 * (k + 1)) := nI_add _ 6
  obtain ⟨sh', y', m', W', r, c1, c2, hM, hI', hG⟩ := l_op hI (Sp_person hI.2.2 (xs (6 * k + 1)) (xs (6 * k + 2)))
  refine ⟨sh', y', m', W', ?_, hI', hG⟩
  rw [bL_law_319 (hv1 := rfl) (hv2 := rfl), s1, some_bind', s2, some_bind', WM_is hW, some_bind', c1, some_bind', some_bind', some_bind', M_is hM, some_bind', c2, some_bind', if_pos rfl, bL_law_1266 (hv1 := rfl) (hv2 := rfl), s6]
  rfl
theorem l_stranger {k : Nat} (hk : 6 * k + 6 ≤ L) (hL : L ≤ 3072) {sh : List Sh} {y : ST} {m : MM} {W : WD} (hI : LI L xs sh y m W) : ∃ sh' y' m' W', RS (ZZ L xs) (100 + 1) mL_law 352 [some (.retAddr 0), some (.ref 0), some (.ref 259), some (.int (nI (6 * k)))] [] (HP sh (pM y m)) = LW L xs (k + 1) (HP sh' (pM y' m')) ∧ LI L xs sh' y' m' W' ∧ Gr sh sh' := by
  have hW : isWM sh 0 := hI.1.1.1.1
  have s1 : scr L xs (nI (6 * k) + 1) = some (xs (6 * k + 1)) := by
    rw [show nI (6 * k) + 1 = nI (6 * k + 1) from nI_add _ 1]
    exact scr_at (by omega) hL
  have s2 : scr L xs (nI (6 * k) + 2) = some (xs (6 * k + 2)) := by
    rw [show nI (6 * k) + 2 = nI (6 * k + 2) from nI_add _ 2]
    exact scr_at (by omega) hL
  have s6 : nI (6 * k) + 6 = nI (6 * (k + 1)) := nI_add _ 6
  obtain ⟨sh', y', m', W', r, c1, c2, hM, hI', hG⟩ := l_op hI (Sp_stranger hI.2.2 (xs (6 * k + 1)) (xs (6 * k + 2)))
  refine ⟨sh', y', m', W', ?_, hI', hG⟩
  rw [bL_law_352 (hv1 := rfl) (hv2 := rfl), s1, some_bind', s2, some_bind', WM_is hW, some_bind', c1, some_bind', some_bind', some_bind', M_is hM, some_bind', c2, some_bind', if_pos rfl, bL_law_1266 (hv1 := rfl) (hv2 := rfl), s6]
  rfl
theorem l_streets {k : Nat} (hk : 6 * k + 6 ≤ L) (hL : L ≤ 3072) {sh : List Sh} {y : ST} {m : MM} {W : WD} (hI : LI L xs sh y m W) : ∃ sh' y' m' W', RS (ZZ L xs) (100 + 1) mL_law 385 [some (.retAddr 0), some (.ref 0), some (.ref 259), some (.int (nI (6 * k)))] [] (HP sh (pM y m)) = LW L xs (k + 1) (HP sh' (pM y' m')) ∧ LI L xs sh' y' m' W' ∧ Gr sh sh' := by
  have hW : isWM sh 0 := hI.1.1.1.1
  have s1 : scr L xs (nI (6 * k) + 1) = some (xs (6 * k + 1)) := by
    rw [show nI (6 * k) + 1 = nI (6 * k + 1) from nI_add _ 1]
    exact scr_at (by omega) hL
  have s6 : nI (6 * k) + 6 = nI (6 * (k + 1)) := nI_add _ 6
  obtain ⟨sh', y', m', W', r, c1, c2, hM, hI', hG⟩ := l_op hI (Sp_streets hI.2.2 (xs (6 * k + 1)))
  refine ⟨sh', y', m', W', ?_, hI', hG⟩
  rw [bL_law_385 (hv1 := rfl) (hv2 := rfl), s1, some_bind', WM_is hW, some_bind', c1, some_bind', some_bind', M_is hM, some_bind', c2, some_bind', if_pos rfl, bL_law_1266 (hv1 := rfl) (hv2 := rfl), s6]
  rfl
theorem l_before {k : Nat} (hk : 6 * k + 6 ≤ L) (hL : L ≤ 3072) {sh : List Sh} {y : ST} {m : MM} {W : WD} (hI : LI L xs sh y m W) : ∃ sh' y' m' W', RS (ZZ L xs) (100 + 1) mL_law 408 [some (.retAddr 0), some (.ref 0), some (.ref 259), some (.int (nI (6 * k)))] [] (HP sh (pM y m)) = LW L xs (k + 1) (HP sh' (pM y' m')) ∧ LI L xs sh' y' m' W' ∧ Gr sh sh' := by
  have hW : isWM sh 0 := hI.1.1.1.1
  have s1 : scr L xs (nI (6 * k) + 1) = some (xs (6 * k + 1)) := by
    rw [show nI (6 * k) + 1 = nI (6 * k + 1) from nI_add _ 1]
    exact scr_at (by omega) hL
  have s2 : scr L xs (nI (6 * k) + 2) = some (xs (6 * k + 2)) := by
    rw [show nI (6 * k) + 2 = nI (6 * k + 2) from nI_add _ 2]
    exact scr_at (by omega) hL
  have s6 : nI (6 * k) + 6 = nI (6 * (k + 1)) := nI_add _ 6
  obtain ⟨sh', y', m', W', r, c1, c2, hM, hI', hG⟩ := l_op hI (Sp_before hI.2.2 (xs (6 * k + 1)) (xs (6 * k + 2)))
  refine ⟨sh', y', m', W', ?_, hI', hG⟩
  rw [bL_law_408 (hv1 := rfl) (hv2 := rfl), s1, some_bind', s2, some_bind', WM_is hW, some_bind', c1, some_bind', some_bind', some_bind', M_is hM, some_bind', c2, some_bind', if_pos rfl, bL_law_1266 (hv1 := rfl) (hv2 := rfl), s6]
  rfl
theorem l_hour {k : Nat} (hk : 6 * k + 6 ≤ L) (hL : L ≤ 3072) {sh : List Sh} {y : ST} {m : MM} {W : WD} (hI : LI L xs sh y m W) : ∃ sh' y' m' W', RS (ZZ L xs) (100 + 1) mL_law 441 [some (.retAddr 0), some (.ref 0), some (.ref 259), some (.int (nI (6 * k)))] [] (HP sh (pM y m)) = LW L xs (k + 1) (HP sh' (pM y' m')) ∧ LI L xs sh' y' m' W' ∧ Gr sh sh' := by
  have hW : isWM sh 0 := hI.1.1.1.1
  have s6 : nI (6 * k) + 6 = nI (6 * (k + 1)) := nI_add _ 6
  obtain ⟨sh', y', m', W', r, c1, c2, hM, hI', hG⟩ := l_op hI (Sp_hour hI.2.2)
  refine ⟨sh', y', m', W', ?_, hI', hG⟩
  rw [bL_law_441 (hv1 := rfl) (hv2 := rfl), WM_is hW, some_bind', c1, some_bind', M_is hM, some_bind', c2, some_bind', if_pos rfl, bL_law_1266 (hv1 := rfl) (hv2 := rfl), s6]
  rfl
theorem l_stand {k : Nat} (hk : 6 * k + 6 ≤ L) (hL : L ≤ 3072) {sh : List Sh} {y : ST} {m : MM} {W : WD} (hI : LI L xs sh y m W) : ∃ sh' y' m' W', RS (ZZ L xs) (100 + 1) mL_law 454 [some (.retAddr 0), some (.ref 0), some (.ref 259), some (.int (nI (6 * k)))] [] (HP sh (pM y m)) = LW L xs (k + 1) (HP sh' (pM y' m')) ∧ LI L xs sh' y' m' W' ∧ Gr sh sh' := by
  have hW : isWM sh 0 := hI.1.1.1.1
  have s1 : scr L xs (nI (6 * k) + 1) = some (xs (6 * k + 1)) := by
    rw [show nI (6 * k) + 1 = nI (6 * k + 1) from nI_add _ 1]
    exact scr_at (by omega) hL
  have s2 : scr L xs (nI (6 * k) + 2) = some (xs (6 * k + 2)) := by
    rw [show nI (6 * k) + 2 = nI (6 * k + 2) from nI_add _ 2]
    exact scr_at (by omega) hL
  have s6 : nI (6 * k) + 6 = nI (6 * (k + 1)) := nI_add _ 6
  obtain ⟨sh', y', m', W', r, c1, c2, hM, hI', hG⟩ := l_op hI (Sp_stand hI.2.2 (xs (6 * k + 1)) (xs (6 * k + 2)))
  refine ⟨sh', y', m', W', ?_, hI', hG⟩
  rw [bL_law_454 (hv1 := rfl) (hv2 := rfl), s1, some_bind', s2, some_bind', WM_is hW, some_bind', c1, some_bind', some_bind', some_bind', M_is hM, some_bind', c2, some_bind', if_pos rfl, bL_law_1266 (hv1 := rfl) (hv2 := rfl), s6]
  rfl
theorem l_collar {k : Nat} (hk : 6 * k + 6 ≤ L) (hL : L ≤ 3072) {sh : List Sh} {y : ST} {m : MM} {W : WD} (hI : LI L xs sh y m W) : ∃ sh' y' m' W', RS (ZZ L xs) (100 + 1) mL_law 487 [some (.retAddr 0), some (.ref 0), some (.ref 259), some (.int (nI (6 * k)))] [] (HP sh (pM y m)) = LW L xs (k + 1) (HP sh' (pM y' m')) ∧ LI L xs sh' y' m' W' ∧ Gr sh sh' := by
  have hW : isWM sh 0 := hI.1.1.1.1
  have s1 : scr L xs (nI (6 * k) + 1) = some (xs (6 * k + 1)) := by
    rw [show nI (6 * k) + 1 = nI (6 * k + 1) from nI_add _ 1]
    exact scr_at (by omega) hL
  have s2 : scr L xs (nI (6 * k) + 2) = some (xs (6 * k + 2)) := by
    rw [show nI (6 * k) + 2 = nI (6 * k + 2) from nI_add _ 2]
    exact scr_at (by omega) hL
  have s6 : nI (6 * k) + 6 = nI (6 * (k + 1)) := nI_add _ 6
  obtain ⟨sh', y', m', W', r, c1, c2, hM, hI', hG⟩ := l_op hI (Sp_collar hI.2.2 (xs (6 * k + 1)) (xs (6 * k + 2)))
  refine ⟨sh', y', m', W', ?_, hI', hG⟩
  rw [bL_law_487 (hv1 := rfl) (hv2 := rfl), s1, some_bind', s2, some_bind', WM_is hW, some_bind', c1, some_bind', some_bind', some_bind', M_is hM, some_bind', c2, some_bind', if_pos rfl, bL_law_1266 (hv1 := rfl) (hv2 := rfl), s6]
  rfl
theorem l_shut {k : Nat} (hk : 6 * k + 6 ≤ L) (hL : L ≤ 3072) {sh : List Sh} {y : ST} {m : MM} {W : WD} (hI : LI L xs sh y m W) : ∃ sh' y' m' W', RS (ZZ L xs) (100 + 1) mL_law 520 [some (.retAddr 0), some (.ref 0), some (.ref 259), some (.int (nI (6 * k)))] [] (HP sh (pM y m)) = LW L xs (k + 1) (HP sh' (pM y' m')) ∧ LI L xs sh' y' m' W' ∧ Gr sh sh' := by
  have hW : isWM sh 0 := hI.1.1.1.1
  have s1 : scr L xs (nI (6 * k) + 1) = some (xs (6 * k + 1)) := by
    rw [show nI (6 * k) + 1 = nI (6 * k + 1) from nI_add _ 1]
    exact scr_at (by omega) hL
  have s2 : scr L xs (nI (6 * k) + 2) = some (xs (6 * k + 2)) := by
    rw [show nI (6 * k) + 2 = nI (6 * k + 2) from nI_add _ 2]
    exact scr_at (by omega) hL
  have s6 : nI (6 * k) + 6 = nI (6 * (k + 1)) := nI_add _ 6
  obtain ⟨sh', y', m', W', r, c1, c2, hM, hI', hG⟩ := l_op hI (Sp_shut hI.2.2 (xs (6 * k + 1)) (xs (6 * k + 2)))
  refine ⟨sh', y', m', W', ?_, hI', hG⟩
  rw [bL_law_520 (hv1 := rfl) (hv2 := rfl), s1, some_bind', s2, some_bind', WM_is hW, some_bind', c1, some_bind', some_bind', some_bind', M_is hM, some_bind', c2, some_bind', if_pos rfl, bL_law_1266 (hv1 := rfl) (hv2 := rfl), s6]
  rfl
theorem l_hunt {k : Nat} (hk : 6 * k + 6 ≤ L) (hL : L ≤ 3072) {sh : List Sh} {y : ST} {m : MM} {W : WD} (hI : LI L xs sh y m W) : ∃ sh' y' m' W', RS (ZZ L xs) (100 + 1) mL_law 553 [some (.retAddr 0), some (.ref 0), some (.ref 259), some (.int (nI (6 * k)))] [] (HP sh (pM y m)) = LW L xs (k + 1) (HP sh' (pM y' m')) ∧ LI L xs sh' y' m' W' ∧ Gr sh sh' := by
  have hW : isWM sh 0 := hI.1.1.1.1
  have s1 : scr L xs (nI (6 * k) + 1) = some (xs (6 * k + 1)) := by
    rw [show nI (6 * k) + 1 = nI (6 * k + 1) from nI_add _ 1]
    exact scr_at (by omega) hL
  have s6 : nI (6 * k) + 6 = nI (6 * (k + 1)) := nI_add _ 6
  obtain ⟨sh', y', m', W', r, c1, c2, hM, hI', hG⟩ := l_op hI (Sp_hunt hI.2.2 (xs (6 * k + 1)))
  refine ⟨sh', y', m', W', ?_, hI', hG⟩
  rw [bL_law_553 (hv1 := rfl) (hv2 := rfl), s1, some_bind', WM_is hW, some_bind', c1, some_bind', some_bind', M_is hM, some_bind', c2, some_bind', if_pos rfl, bL_law_1266 (hv1 := rfl) (hv2 := rfl), s6]
  rfl
theorem l_undo {k : Nat} (hk : 6 * k + 6 ≤ L) (hL : L ≤ 3072) {sh : List Sh} {y : ST} {m : MM} {W : WD} (hI : LI L xs sh y m W) : ∃ sh' y' m' W', RS (ZZ L xs) (100 + 1) mL_law 576 [some (.retAddr 0), some (.ref 0), some (.ref 259), some (.int (nI (6 * k)))] [] (HP sh (pM y m)) = LW L xs (k + 1) (HP sh' (pM y' m')) ∧ LI L xs sh' y' m' W' ∧ Gr sh sh' := by
  have hW : isWM sh 0 := hI.1.1.1.1
  have s6 : nI (6 * k) + 6 = nI (6 * (k + 1)) := nI_add _ 6
  obtain ⟨sh', y', m', W', r, c1, c2, hM, hI', hG⟩ := l_op hI (Sp_undo hI.2.2)
  refine ⟨sh', y', m', W', ?_, hI', hG⟩
  rw [bL_law_576 (hv1 := rfl) (hv2 := rfl), WM_is hW, some_bind', c1, some_bind', M_is hM, some_bind', c2, some_bind', if_pos rfl, bL_law_1266 (hv1 := rfl) (hv2 := rfl), s6]
  rfl
theorem l_ahead {k : Nat} (hk : 6 * k + 6 ≤ L) (hL : L ≤ 3072) {sh : List Sh} {y : ST} {m : MM} {W : WD} (hI : LI L xs sh y m W) : ∃ sh' y' m' W', RS (ZZ L xs) (100 + 1) mL_law 589 [some (.retAddr 0), some (.ref 0), some (.ref 259), some (.int (nI (6 * k)))] [] (HP sh (pM y m)) = LW L xs (k + 1) (HP sh' (pM y' m')) ∧ LI L xs sh' y' m' W' ∧ Gr sh sh' := by
  have hW : isWM sh 0 := hI.1.1.1.1
  have s1 : scr L xs (nI (6 * k) + 1) = some (xs (6 * k + 1)) := by
    rw [show nI (6 * k) + 1 = nI (6 * k + 1) from nI_add _ 1]
    exact scr_at (by omega) hL
  have s2 : scr L xs (nI (6 * k) + 2) = some (xs (6 * k + 2)) := by
    rw [show nI (6 * k) + 2 = nI (6 * k + 2) from nI_add _ 2]
    exact scr_at (by omega) hL
  have s3 : scr L xs (nI (6 * k) + 3) = some (xs (6 * k + 3)) := by
    rw [show nI (6 * k) + 3 = nI (6 * k + 3) from nI_add _ 3]
    exact scr_at (by omega) hL
  have s6 : nI (6 * k) + 6 = nI (6 * (k + 1)) := nI_add _ 6
  obtain ⟨sh', y', m', W', r, c1, c2, hM, hI', hG⟩ := l_op hI (Sp_ahead hI.2.2 (xs (6 * k + 1)) (xs (6 * k + 2)) (xs (6 * k + 3)))
  refine ⟨sh', y', m', W', ?_, hI', hG⟩
  rw [bL_law_589 (hv1 := rfl) (hv2 := rfl), s1, some_bind', s2, some_bind', s3, some_bind', WM_is hW, some_bind', c1, some_bind', some_bind', some_bind', some_bind', M_is hM, some_bind', c2, some_bind', if_pos rfl, bL_law_1266 (hv1 := rfl) (hv2 := rfl), s6]
  rfl
theorem l_mayor {k : Nat} (hk : 6 * k + 6 ≤ L) (hL : L ≤ 3072) {sh : List Sh} {y : ST} {m : MM} {W : WD} (hI : LI L xs sh y m W) : ∃ sh' y' m' W', RS (ZZ L xs) (100 + 1) mL_law 632 [some (.retAddr 0), some (.ref 0), some (.ref 259), some (.int (nI (6 * k)))] [] (HP sh (pM y m)) = LW L xs (k + 1) (HP sh' (pM y' m')) ∧ LI L xs sh' y' m' W' ∧ Gr sh sh' := by
  have hW : isWM sh 0 := hI.1.1.1.1
  have s1 : scr L xs (nI (6 * k) + 1) = some (xs (6 * k + 1)) := by
    rw [show nI (6 * k) + 1 = nI (6 * k + 1) from nI_add _ 1]
    exact scr_at (by omega) hL
  have s6 : nI (6 * k) + 6 = nI (6 * (k + 1)) := nI_add _ 6
  obtain ⟨sh', y', m', W', r, c1, c2, hM, hI', hG⟩ := l_op hI (Sp_mayor hI.2.2 (xs (6 * k + 1)))
  refine ⟨sh', y', m', W', ?_, hI', hG⟩
  rw [bL_law_632 (hv1 := rfl) (hv2 := rfl), s1, some_bind', WM_is hW, some_bind', c1, some_bind', some_bind', M_is hM, some_bind', c2, some_bind', if_pos rfl, bL_law_1266 (hv1 := rfl) (hv2 := rfl), s6]
  rfl
theorem l_pitch {k : Nat} (hk : 6 * k + 6 ≤ L) (hL : L ≤ 3072) {sh : List Sh} {y : ST} {m : MM} {W : WD} (hI : LI L xs sh y m W) : ∃ sh' y' m' W', RS (ZZ L xs) (100 + 1) mL_law 655 [some (.retAddr 0), some (.ref 0), some (.ref 259), some (.int (nI (6 * k)))] [] (HP sh (pM y m)) = LW L xs (k + 1) (HP sh' (pM y' m')) ∧ LI L xs sh' y' m' W' ∧ Gr sh sh' := by
  have hW : isWM sh 0 := hI.1.1.1.1
  have s1 : scr L xs (nI (6 * k) + 1) = some (xs (6 * k + 1)) := by
    rw [show nI (6 * k) + 1 = nI (6 * k + 1) from nI_add _ 1]
    exact scr_at (by omega) hL
  have s2 : scr L xs (nI (6 * k) + 2) = some (xs (6 * k + 2)) := by
    rw [show nI (6 * k) + 2 = nI (6 * k + 2) from nI_add _ 2]
    exact scr_at (by omega) hL
  have s3 : scr L xs (nI (6 * k) + 3) = some (xs (6 * k + 3)) := by
    rw [show nI (6 * k) + 3 = nI (6 * k + 3) from nI_add _ 3]
    exact scr_at (by omega) hL
  have s6 : nI (6 * k) + 6 = nI (6 * (k + 1)) := nI_add _ 6
  obtain ⟨sh', y', m', W', r, c1, c2, hM, hI', hG⟩ := l_op hI (Sp_pitch hI.2.2 (xs (6 * k + 1)) (xs (6 * k + 2)) (xs (6 * k + 3)))
  refine ⟨sh', y', m', W', ?_, hI', hG⟩
  rw [bL_law_655 (hv1 := rfl) (hv2 := rfl), s1, some_bind', s2, some_bind', s3, some_bind', WM_is hW, some_bind', c1, some_bind', some_bind', some_bind', some_bind', M_is hM, some_bind', c2, some_bind', if_pos rfl, bL_law_1266 (hv1 := rfl) (hv2 := rfl), s6]
  rfl
theorem l_smile {k : Nat} (hk : 6 * k + 6 ≤ L) (hL : L ≤ 3072) {sh : List Sh} {y : ST} {m : MM} {W : WD} (hI : LI L xs sh y m W) : ∃ sh' y' m' W', RS (ZZ L xs) (100 + 1) mL_law 698 [some (.retAddr 0), some (.ref 0), some (.ref 259), some (.int (nI (6 * k)))] [] (HP sh (pM y m)) = LW L xs (k + 1) (HP sh' (pM y' m')) ∧ LI L xs sh' y' m' W' ∧ Gr sh sh' := by
  have hW : isWM sh 0 := hI.1.1.1.1
  have s1 : scr L xs (nI (6 * k) + 1) = some (xs (6 * k + 1)) := by
    rw [show nI (6 * k) + 1 = nI (6 * k + 1) from nI_add _ 1]
    exact scr_at (by omega) hL
  have s2 : scr L xs (nI (6 * k) + 2) = some (xs (6 * k + 2)) := by
    rw [show nI (6 * k) + 2 = nI (6 * k + 2) from nI_add _ 2]
    exact scr_at (by omega) hL
  have s6 : nI (6 * k) + 6 = nI (6 * (k + 1)) := nI_add _ 6
  obtain ⟨sh', y', m', W', r, c1, c2, hM, hI', hG⟩ := l_op hI (Sp_smile hI.2.2 (xs (6 * k + 1)) (xs (6 * k + 2)))
  refine ⟨sh', y', m', W', ?_, hI', hG⟩
  rw [bL_law_698 (hv1 := rfl) (hv2 := rfl), s1, some_bind', s2, some_bind', WM_is hW, some_bind', c1, some_bind', some_bind', some_bind', M_is hM, some_bind', c2, some_bind', if_pos rfl, bL_law_1266 (hv1 := rfl) (hv2 := rfl), s6]
  rfl
theorem l_way {k : Nat} (hk : 6 * k + 6 ≤ L) (hL : L ≤ 3072) {sh : List Sh} {y : ST} {m : MM} {W : WD} (hI : LI L xs sh y m W) : ∃ sh' y' m' W', RS (ZZ L xs) (100 + 1) mL_law 731 [some (.retAddr 0), some (.ref 0), some (.ref 259), some (.int (nI (6 * k)))] [] (HP sh (pM y m)) = LW L xs (k + 1) (HP sh' (pM y' m')) ∧ LI L xs sh' y' m' W' ∧ Gr sh sh' := by
  have hW : isWM sh 0 := hI.1.1.1.1
  have s1 : scr L xs (nI (6 * k) + 1) = some (xs (6 * k + 1)) := by
    rw [show nI (6 * k) + 1 = nI (6 * k + 1) from nI_add _ 1]
    exact scr_at (by omega) hL
  have s2 : scr L xs (nI (6 * k) + 2) = some (xs (6 * k + 2)) := by
    rw [show nI (6 * k) + 2 = nI (6 * k + 2) from nI_add _ 2]
    exact scr_at (by omega) hL
  have s3 : scr L xs (nI (6 * k) + 3) = some (xs (6 * k + 3)) := by
    rw [show nI (6 * k) + 3 = nI (6 * k + 3) from nI_add _ 3]
    exact scr_at (by omega) hL
  have s6 : nI (6 * k) + 6 = nI (6 * (k + 1)) := nI_add _ 6
  obtain ⟨sh', y', m', W', r, c1, c2, hM, hI', hG⟩ := l_op hI (Sp_way hI.2.2 (xs (6 * k + 1)) (xs (6 * k + 2)) (xs (6 * k + 3)))
  refine ⟨sh', y', m', W', ?_, hI', hG⟩
  rw [bL_law_731 (hv1 := rfl) (hv2 := rfl), s1, some_bind', s2, some_bind', s3, some_bind', WM_is hW, some_bind', c1, some_bind', some_bind', some_bind', some_bind', M_is hM, some_bind', c2, some_bind', if_pos rfl, bL_law_1266 (hv1 := rfl) (hv2 := rfl), s6]
  rfl
theorem l_came {k : Nat} (hk : 6 * k + 6 ≤ L) (hL : L ≤ 3072) {sh : List Sh} {y : ST} {m : MM} {W : WD} (hI : LI L xs sh y m W) : ∃ sh' y' m' W', RS (ZZ L xs) (100 + 1) mL_law 774 [some (.retAddr 0), some (.ref 0), some (.ref 259), some (.int (nI (6 * k)))] [] (HP sh (pM y m)) = LW L xs (k + 1) (HP sh' (pM y' m')) ∧ LI L xs sh' y' m' W' ∧ Gr sh sh' := by
  have hW : isWM sh 0 := hI.1.1.1.1
  have s1 : scr L xs (nI (6 * k) + 1) = some (xs (6 * k + 1)) := by
    rw [show nI (6 * k) + 1 = nI (6 * k + 1) from nI_add _ 1]
    exact scr_at (by omega) hL
  have s2 : scr L xs (nI (6 * k) + 2) = some (xs (6 * k + 2)) := by
    rw [show nI (6 * k) + 2 = nI (6 * k + 2) from nI_add _ 2]
    exact scr_at (by omega) hL
  have s3 : scr L xs (nI (6 * k) + 3) = some (xs (6 * k + 3)) := by
    rw [show nI (6 * k) + 3 = nI (6 * k + 3) from nI_add _ 3]
    exact scr_at (by omega) hL
  have s4 : scr L xs (nI (6 * k) + 4) = some (xs (6 * k + 4)) := by
    rw [show nI (6 * k) + 4 = nI (6 * k + 4) from nI_add _ 4]
    exact scr_at (by omega) hL
  have s6 : nI (6 * k) + 6 = nI (6 * (k + 1)) := nI_add _ 6
  obtain ⟨sh', y', m', W', r, c1, c2, hM, hI', hG⟩ := l_op hI (Sp_came hI.2.2 (xs (6 * k + 1)) (xs (6 * k + 2)) (xs (6 * k + 3)) (xs (6 * k + 4)))
  refine ⟨sh', y', m', W', ?_, hI', hG⟩
  rw [bL_law_774 (hv1 := rfl) (hv2 := rfl), s1, some_bind', s2, some_bind', s3, some_bind', s4, some_bind', WM_is hW, some_bind', c1, some_bind', some_bind', some_bind', some_bind', some_bind', M_is hM, some_bind', c2, some_bind', if_pos rfl, bL_law_1266 (hv1 := rfl) (hv2 := rfl), s6]
  rfl
theorem l_liars {k : Nat} (hk : 6 * k + 6 ≤ L) (hL : L ≤ 3072) {sh : List Sh} {y : ST} {m : MM} {W : WD} (hI : LI L xs sh y m W) : ∃ sh' y' m' W', RS (ZZ L xs) (100 + 1) mL_law 827 [some (.retAddr 0), some (.ref 0), some (.ref 259), some (.int (nI (6 * k)))] [] (HP sh (pM y m)) = LW L xs (k + 1) (HP sh' (pM y' m')) ∧ LI L xs sh' y' m' W' ∧ Gr sh sh' := by
  have hW : isWM sh 0 := hI.1.1.1.1
  have s1 : scr L xs (nI (6 * k) + 1) = some (xs (6 * k + 1)) := by
    rw [show nI (6 * k) + 1 = nI (6 * k + 1) from nI_add _ 1]
    exact scr_at (by omega) hL
  have s6 : nI (6 * k) + 6 = nI (6 * (k + 1)) := nI_add _ 6
  obtain ⟨sh', y', m', W', r, c1, c2, hM, hI', hG⟩ := l_op hI (Sp_liars hI.2.2 (xs (6 * k + 1)))
  refine ⟨sh', y', m', W', ?_, hI', hG⟩
  rw [bL_law_827 (hv1 := rfl) (hv2 := rfl), s1, some_bind', WM_is hW, some_bind', c1, some_bind', some_bind', M_is hM, some_bind', c2, some_bind', if_pos rfl, bL_law_1266 (hv1 := rfl) (hv2 := rfl), s6]
  rfl
theorem l_post {k : Nat} (hk : 6 * k + 6 ≤ L) (hL : L ≤ 3072) {sh : List Sh} {y : ST} {m : MM} {W : WD} (hI : LI L xs sh y m W) : ∃ sh' y' m' W', RS (ZZ L xs) (100 + 1) mL_law 850 [some (.retAddr 0), some (.ref 0), some (.ref 259), some (.int (nI (6 * k)))] [] (HP sh (pM y m)) = LW L xs (k + 1) (HP sh' (pM y' m')) ∧ LI L xs sh' y' m' W' ∧ Gr sh sh' := by
  have hW : isWM sh 0 := hI.1.1.1.1
  have s1 : scr L xs (nI (6 * k) + 1) = some (xs (6 * k + 1)) := by
    rw [show nI (6 * k) + 1 = nI (6 * k + 1) from nI_add _ 1]
    exact scr_at (by omega) hL
  have s2 : scr L xs (nI (6 * k) + 2) = some (xs (6 * k + 2)) := by
    rw [show nI (6 * k) + 2 = nI (6 * k + 2) from nI_add _ 2]
    exact scr_at (by omega) hL
  have s6 : nI (6 * k) + 6 = nI (6 * (k + 1)) := nI_add _ 6
  obtain ⟨sh', y', m', W', r, c1, c2, hM, hI', hG⟩ := l_op hI (Sp_post hI.2.2 (xs (6 * k + 1)) (xs (6 * k + 2)))
  refine ⟨sh', y', m', W', ?_, hI', hG⟩
  rw [bL_law_850 (hv1 := rfl) (hv2 := rfl), s1, some_bind', s2, some_bind', WM_is hW, some_bind', c1, some_bind', some_bind', some_bind', M_is hM, some_bind', c2, some_bind', if_pos rfl, bL_law_1266 (hv1 := rfl) (hv2 := rfl), s6]
  rfl
theorem l_game {k : Nat} (hk : 6 * k + 6 ≤ L) (hL : L ≤ 3072) {sh : List Sh} {y : ST} {m : MM} {W : WD} (hI : LI L xs sh y m W) : ∃ sh' y' m' W', RS (ZZ L xs) (100 + 1) mL_law 883 [some (.retAddr 0), some (.ref 0), some (.ref 259), some (.int (nI (6 * k)))] [] (HP sh (pM y m)) = LW L xs (k + 1) (HP sh' (pM y' m')) ∧ LI L xs sh' y' m' W' ∧ Gr sh sh' := by
  have hW : isWM sh 0 := hI.1.1.1.1
  have s1 : scr L xs (nI (6 * k) + 1) = some (xs (6 * k + 1)) := by
    rw [show nI (6 * k) + 1 = nI (6 * k + 1) from nI_add _ 1]
    exact scr_at (by omega) hL
  have s2 : scr L xs (nI (6 * k) + 2) = some (xs (6 * k + 2)) := by
    rw [show nI (6 * k) + 2 = nI (6 * k + 2) from nI_add _ 2]
    exact scr_at (by omega) hL
  have s3 : scr L xs (nI (6 * k) + 3) = some (xs (6 * k + 3)) := by
    rw [show nI (6 * k) + 3 = nI (6 * k + 3) from nI_add _ 3]
    exact scr_at (by omega) hL
  have s4 : scr L xs (nI (6 * k) + 4) = some (xs (6 * k + 4)) := by
    rw [show nI (6 * k) + 4 = nI (6 * k + 4) from nI_add _ 4]
    exact scr_at (by omega) hL
  have s6 : nI (6 * k) + 6 = nI (6 * (k + 1)) := nI_add _ 6
  obtain ⟨sh', y', m', W', r, c1, c2, hM, hI', hG⟩ := l_op hI (Sp_game hI.2.2 (xs (6 * k + 1)) (xs (6 * k + 2)) (xs (6 * k + 3)) (xs (6 * k + 4)))
  refine ⟨sh', y', m', W', ?_, hI', hG⟩
  rw [bL_law_883 (hv1 := rfl) (hv2 := rfl), s1, some_bind', s2, some_bind', s3, some_bind', s4, some_bind', WM_is hW, some_bind', c1, some_bind', some_bind', some_bind', some_bind', some_bind', M_is hM, some_bind', c2, some_bind', if_pos rfl, bL_law_1266 (hv1 := rfl) (hv2 := rfl), s6]
  rfl
theorem l_rests {k : Nat} (hk : 6 * k + 6 ≤ L) (hL : L ≤ 3072) {sh : List Sh} {y : ST} {m : MM} {W : WD} (hI : LI L xs sh y m W) : ∃ sh' y' m' W', RS (ZZ L xs) (100 + 1) mL_law 936 [some (.retAddr 0), some (.ref 0), some (.ref 259), some (.int (nI (6 * k)))] [] (HP sh (pM y m)) = LW L xs (k + 1) (HP sh' (pM y' m')) ∧ LI L xs sh' y' m' W' ∧ Gr sh sh' := by
  have hW : isWM sh 0 := hI.1.1.1.1
  have s1 : scr L xs (nI (6 * k) + 1) = some (xs (6 * k + 1)) := by
    rw [show nI (6 * k) + 1 = nI (6 * k + 1) from nI_add _ 1]
    exact scr_at (by omega) hL
  have s2 : scr L xs (nI (6 * k) + 2) = some (xs (6 * k + 2)) := by
    rw [show nI (6 * k) + 2 = nI (6 * k + 2) from nI_add _ 2]
    exact scr_at (by omega) hL
  have s3 : scr L xs (nI (6 * k) + 3) = some (xs (6 * k + 3)) := by
    rw [show nI (6 * k) + 3 = nI (6 * k + 3) from nI_add _ 3]
    exact scr_at (by omega) hL
  have s4 : scr L xs (nI (6 * k) + 4) = some (xs (6 * k + 4)) := by
    rw [show nI (6 * k) + 4 = nI (6 * k + 4) from nI_add _ 4]
    exact scr_at (by omega) hL
  have s6 : nI (6 * k) + 6 = nI (6 * (k + 1)) := nI_add _ 6
  obtain ⟨sh', y', m', W', r, c1, c2, hM, hI', hG⟩ := l_op hI (Sp_rests hI.2.2 (xs (6 * k + 1)) (xs (6 * k + 2)) (xs (6 * k + 3)) (xs (6 * k + 4)))
  refine ⟨sh', y', m', W', ?_, hI', hG⟩
  rw [bL_law_936 (hv1 := rfl) (hv2 := rfl), s1, some_bind', s2, some_bind', s3, some_bind', s4, some_bind', WM_is hW, some_bind', c1, some_bind', some_bind', some_bind', some_bind', some_bind', M_is hM, some_bind', c2, some_bind', if_pos rfl, bL_law_1266 (hv1 := rfl) (hv2 := rfl), s6]
  rfl
theorem l_pence {k : Nat} (hk : 6 * k + 6 ≤ L) (hL : L ≤ 3072) {sh : List Sh} {y : ST} {m : MM} {W : WD} (hI : LI L xs sh y m W) : ∃ sh' y' m' W', RS (ZZ L xs) (100 + 1) mL_law 989 [some (.retAddr 0), some (.ref 0), some (.ref 259), some (.int (nI (6 * k)))] [] (HP sh (pM y m)) = LW L xs (k + 1) (HP sh' (pM y' m')) ∧ LI L xs sh' y' m' W' ∧ Gr sh sh' := by
  have hW : isWM sh 0 := hI.1.1.1.1
  have s1 : scr L xs (nI (6 * k) + 1) = some (xs (6 * k + 1)) := by
    rw [show nI (6 * k) + 1 = nI (6 * k + 1) from nI_add _ 1]
    exact scr_at (by omega) hL
  have s2 : scr L xs (nI (6 * k) + 2) = some (xs (6 * k + 2)) := by
    rw [show nI (6 * k) + 2 = nI (6 * k + 2) from nI_add _ 2]
    exact scr_at (by omega) hL
  have s6 : nI (6 * k) + 6 = nI (6 * (k + 1)) := nI_add _ 6
  obtain ⟨sh', y', m', W', r, c1, c2, hM, hI', hG⟩ := l_op hI (Sp_pence hI.2.2 (xs (6 * k + 1)) (xs (6 * k + 2)))
  refine ⟨sh', y', m', W', ?_, hI', hG⟩
  rw [bL_law_989 (hv1 := rfl) (hv2 := rfl), s1, some_bind', s2, some_bind', WM_is hW, some_bind', c1, some_bind', some_bind', some_bind', M_is hM, some_bind', c2, some_bind', if_pos rfl, bL_law_1266 (hv1 := rfl) (hv2 := rfl), s6]
  rfl
theorem l_note {k : Nat} (hk : 6 * k + 6 ≤ L) (hL : L ≤ 3072) {sh : List Sh} {y : ST} {m : MM} {W : WD} (hI : LI L xs sh y m W) : ∃ sh' y' m' W', RS (ZZ L xs) (100 + 1) mL_law 1022 [some (.retAddr 0), some (.ref 0), some (.ref 259), some (.int (nI (6 * k)))] [] (HP sh (pM y m)) = LW L xs (k + 1) (HP sh' (pM y' m')) ∧ LI L xs sh' y' m' W' ∧ Gr sh sh' := by
  have hW : isWM sh 0 := hI.1.1.1.1
  have s1 : scr L xs (nI (6 * k) + 1) = some (xs (6 * k + 1)) := by
    rw [show nI (6 * k) + 1 = nI (6 * k + 1) from nI_add _ 1]
    exact scr_at (by omega) hL
  have s2 : scr L xs (nI (6 * k) + 2) = some (xs (6 * k + 2)) := by
    rw [show nI (6 * k) + 2 = nI (6 * k + 2) from nI_add _ 2]
    exact scr_at (by omega) hL
  have s3 : scr L xs (nI (6 * k) + 3) = some (xs (6 * k + 3)) := by
    rw [show nI (6 * k) + 3 = nI (6 * k + 3) from nI_add _ 3]
    exact scr_at (by omega) hL
  have s6 : nI (6 * k) + 6 = nI (6 * (k + 1)) := nI_add _ 6
  obtain ⟨sh', y', m', W', r, c1, c2, hM, hI', hG⟩ := l_op hI (Sp_note hI.2.2 (xs (6 * k + 1)) (xs (6 * k + 2)) (xs (6 * k + 3)))
  refine ⟨sh', y', m', W', ?_, hI', hG⟩
  rw [bL_law_1022 (hv1 := rfl) (hv2 := rfl), s1, some_bind', s2, some_bind', s3, some_bind', WM_is hW, some_bind', c1, some_bind', some_bind', some_bind', some_bind', M_is hM, some_bind', c2, some_bind', if_pos rfl, bL_law_1266 (hv1 := rfl) (hv2 := rfl), s6]
  rfl
theorem l_ruled {k : Nat} (hk : 6 * k + 6 ≤ L) (hL : L ≤ 3072) {sh : List Sh} {y : ST} {m : MM} {W : WD} (hI : LI L xs sh y m W) : ∃ sh' y' m' W', RS (ZZ L xs) (100 + 1) mL_law 1065 [some (.retAddr 0), some (.ref 0), some (.ref 259), some (.int (nI (6 * k)))] [] (HP sh (pM y m)) = LW L xs (k + 1) (HP sh' (pM y' m')) ∧ LI L xs sh' y' m' W' ∧ Gr sh sh' := by
  have hW : isWM sh 0 := hI.1.1.1.1
  have s1 : scr L xs (nI (6 * k) + 1) = some (xs (6 * k + 1)) := by
    rw [show nI (6 * k) + 1 = nI (6 * k + 1) from nI_add _ 1]
    exact scr_at (by omega) hL
  have s6 : nI (6 * k) + 6 = nI (6 * (k + 1)) := nI_add _ 6
  obtain ⟨sh', y', m', W', r, c1, c2, hM, hI', hG⟩ := l_op hI (Sp_ruled hI.2.2 (xs (6 * k + 1)))
  refine ⟨sh', y', m', W', ?_, hI', hG⟩
  rw [bL_law_1065 (hv1 := rfl) (hv2 := rfl), s1, some_bind', WM_is hW, some_bind', c1, some_bind', some_bind', M_is hM, some_bind', c2, some_bind', if_pos rfl, bL_law_1266 (hv1 := rfl) (hv2 := rfl), s6]
  rfl
theorem l_look {k : Nat} (hk : 6 * k + 6 ≤ L) (hL : L ≤ 3072) {sh : List Sh} {y : ST} {m : MM} {W : WD} (hI : LI L xs sh y m W) : ∃ sh' y' m' W', RS (ZZ L xs) (100 + 1) mL_law 1088 [some (.retAddr 0), some (.ref 0), some (.ref 259), some (.int (nI (6 * k)))] [] (HP sh (pM y m)) = LW L xs (k + 1) (HP sh' (pM y' m')) ∧ LI L xs sh' y' m' W' ∧ Gr sh sh' := by
  have hW : isWM sh 0 := hI.1.1.1.1
  have s1 : scr L xs (nI (6 * k) + 1) = some (xs (6 * k + 1)) := by
    rw [show nI (6 * k) + 1 = nI (6 * k + 1) from nI_add _ 1]
    exact scr_at (by omega) hL
  have s2 : scr L xs (nI (6 * k) + 2) = some (xs (6 * k + 2)) := by
    rw [show nI (6 * k) + 2 = nI (6 * k + 2) from nI_add _ 2]
    exact scr_at (by omega) hL
  have s6 : nI (6 * k) + 6 = nI (6 * (k + 1)) := nI_add _ 6
  obtain ⟨sh', y', m', W', r, c1, c2, hM, hI', hG⟩ := l_op hI (Sp_look hI.2.2 (xs (6 * k + 1)) (xs (6 * k + 2)))
  refine ⟨sh', y', m', W', ?_, hI', hG⟩
  rw [bL_law_1088 (hv1 := rfl) (hv2 := rfl), s1, some_bind', s2, some_bind', WM_is hW, some_bind', c1, some_bind', some_bind', some_bind', M_is hM, some_bind', c2, some_bind', if_pos rfl, bL_law_1266 (hv1 := rfl) (hv2 := rfl), s6]
  rfl
theorem l_seed {k : Nat} (hk : 6 * k + 6 ≤ L) (hL : L ≤ 3072) {sh : List Sh} {y : ST} {m : MM} {W : WD} (hI : LI L xs sh y m W) : ∃ sh' y' m' W', RS (ZZ L xs) (100 + 1) mL_law 1121 [some (.retAddr 0), some (.ref 0), some (.ref 259), some (.int (nI (6 * k)))] [] (HP sh (pM y m)) = LW L xs (k + 1) (HP sh' (pM y' m')) ∧ LI L xs sh' y' m' W' ∧ Gr sh sh' := by
  have hW : isWM sh 0 := hI.1.1.1.1
  have s1 : scr L xs (nI (6 * k) + 1) = some (xs (6 * k + 1)) := by
    rw [show nI (6 * k) + 1 = nI (6 * k + 1) from nI_add _ 1]
    exact scr_at (by omega) hL
  have s6 : nI (6 * k) + 6 = nI (6 * (k + 1)) := nI_add _ 6
  obtain ⟨sh', y', m', W', r, c1, c2, hM, hI', hG⟩ := l_op hI (Sp_seed hI.2.2 (xs (6 * k + 1)))
  refine ⟨sh', y', m', W', ?_, hI', hG⟩
  rw [bL_law_1121 (hv1 := rfl) (hv2 := rfl), s1, some_bind', WM_is hW, some_bind', c1, some_bind', some_bind', M_is hM, some_bind', c2, some_bind', if_pos rfl, bL_law_1266 (hv1 := rfl) (hv2 := rfl), s6]
  rfl
theorem l_markets {k : Nat} (hk : 6 * k + 6 ≤ L) (hL : L ≤ 3072) {sh : List Sh} {y : ST} {m : MM} {W : WD} (hI : LI L xs sh y m W) : ∃ sh' y' m' W', RS (ZZ L xs) (100 + 1) mL_law 1144 [some (.retAddr 0), some (.ref 0), some (.ref 259), some (.int (nI (6 * k)))] [] (HP sh (pM y m)) = LW L xs (k + 1) (HP sh' (pM y' m')) ∧ LI L xs sh' y' m' W' ∧ Gr sh sh' := by
  have hW : isWM sh 0 := hI.1.1.1.1
  have s1 : scr L xs (nI (6 * k) + 1) = some (xs (6 * k + 1)) := by
    rw [show nI (6 * k) + 1 = nI (6 * k + 1) from nI_add _ 1]
    exact scr_at (by omega) hL
  have s2 : scr L xs (nI (6 * k) + 2) = some (xs (6 * k + 2)) := by
    rw [show nI (6 * k) + 2 = nI (6 * k + 2) from nI_add _ 2]
    exact scr_at (by omega) hL
  have s3 : scr L xs (nI (6 * k) + 3) = some (xs (6 * k + 3)) := by
    rw [show nI (6 * k) + 3 = nI (6 * k + 3) from nI_add _ 3]
    exact scr_at (by omega) hL
  have s4 : scr L xs (nI (6 * k) + 4) = some (xs (6 * k + 4)) := by
    rw [show nI (6 * k) + 4 = nI (6 * k + 4) from nI_add _ 4]
    exact scr_at (by omega) hL
  have s6 : nI (6 * k) + 6 = nI (6 * (k + 1)) := nI_add _ 6
  obtain ⟨sh', y', m', W', r, c1, c2, hM, hI', hG⟩ := l_op hI (Sp_markets hI.2.2 (xs (6 * k + 1)) (xs (6 * k + 2)) (xs (6 * k + 3)) (xs (6 * k + 4)))
  refine ⟨sh', y', m', W', ?_, hI', hG⟩
  rw [bL_law_1144 (hv1 := rfl) (hv2 := rfl), s1, some_bind', s2, some_bind', s3, some_bind', s4, some_bind', WM_is hW, some_bind', c1, some_bind', some_bind', some_bind', some_bind', some_bind', M_is hM, some_bind', c2, some_bind', if_pos rfl, bL_law_1266 (hv1 := rfl) (hv2 := rfl), s6]
  rfl
theorem l_count {k : Nat} (hk : 6 * k + 6 ≤ L) (hL : L ≤ 3072) {sh : List Sh} {y : ST} {m : MM} {W : WD} (hI : LI L xs sh y m W) : ∃ sh' y' m' W', RS (ZZ L xs) (100 + 1) mL_law 1197 [some (.retAddr 0), some (.ref 0), some (.ref 259), some (.int (nI (6 * k)))] [] (HP sh (pM y m)) = LW L xs (k + 1) (HP sh' (pM y' m')) ∧ LI L xs sh' y' m' W' ∧ Gr sh sh' := by
  have hW : isWM sh 0 := hI.1.1.1.1
  have s1 : scr L xs (nI (6 * k) + 1) = some (xs (6 * k + 1)) := by
    rw [show nI (6 * k) + 1 = nI (6 * k + 1) from nI_add _ 1]
    exact scr_at (by omega) hL
  have s6 : nI (6 * k) + 6 = nI (6 * (k + 1)) := nI_add _ 6
  obtain ⟨sh', y', m', W', r, c1, c2, hM, hI', hG⟩ := l_op hI (Sp_count hI.2.2 (xs (6 * k + 1)))
  refine ⟨sh', y', m', W', ?_, hI', hG⟩
  rw [bL_law_1197 (hv1 := rfl) (hv2 := rfl), s1, some_bind', WM_is hW, some_bind', c1, some_bind', some_bind', M_is hM, some_bind', c2, some_bind', if_pos rfl, bL_law_1266 (hv1 := rfl) (hv2 := rfl), s6]
  rfl
theorem l_image {k : Nat} (hk : 6 * k + 6 ≤ L) (hL : L ≤ 3072) {sh : List Sh} {y : ST} {m : MM} {W : WD} (hI : LI L xs sh y m W) : ∃ sh' y' m' W', RS (ZZ L xs) (100 + 1) mL_law 1220 [some (.retAddr 0), some (.ref 0), some (.ref 259), some (.int (nI (6 * k)))] [] (HP sh (pM y m)) = LW L xs (k + 1) (HP sh' (pM y' m')) ∧ LI L xs sh' y' m' W' ∧ Gr sh sh' := by
  have hW : isWM sh 0 := hI.1.1.1.1
  have s1 : scr L xs (nI (6 * k) + 1) = some (xs (6 * k + 1)) := by
    rw [show nI (6 * k) + 1 = nI (6 * k + 1) from nI_add _ 1]
    exact scr_at (by omega) hL
  have s6 : nI (6 * k) + 6 = nI (6 * (k + 1)) := nI_add _ 6
  obtain ⟨sh', y', m', W', r, c1, c2, hM, hI', hG⟩ := l_op hI (Sp_image hI.2.2 (xs (6 * k + 1)))
  refine ⟨sh', y', m', W', ?_, hI', hG⟩
  rw [bL_law_1220 (hv1 := rfl) (hv2 := rfl), s1, some_bind', WM_is hW, some_bind', c1, some_bind', some_bind', M_is hM, some_bind', c2, some_bind', if_pos rfl, bL_law_1266 (hv1 := rfl) (hv2 := rfl), s6]
  rfl
theorem l_back {k : Nat} (hk : 6 * k + 6 ≤ L) (hL : L ≤ 3072) {sh : List Sh} {y : ST} {m : MM} {W : WD} (hI : LI L xs sh y m W) : ∃ sh' y' m' W', RS (ZZ L xs) (100 + 1) mL_law 1243 [some (.retAddr 0), some (.ref 0), some (.ref 259), some (.int (nI (6 * k)))] [] (HP sh (pM y m)) = LW L xs (k + 1) (HP sh' (pM y' m')) ∧ LI L xs sh' y' m' W' ∧ Gr sh sh' := by
  have hW : isWM sh 0 := hI.1.1.1.1
  have s1 : scr L xs (nI (6 * k) + 1) = some (xs (6 * k + 1)) := by
    rw [show nI (6 * k) + 1 = nI (6 * k + 1) from nI_add _ 1]
    exact scr_at (by omega) hL
  have s6 : nI (6 * k) + 6 = nI (6 * (k + 1)) := nI_add _ 6
  obtain ⟨sh', y', m', W', r, c1, c2, hM, hI', hG⟩ := l_op hI (Sp_back hI.2.2 (xs (6 * k + 1)))
  refine ⟨sh', y', m', W', ?_, hI', hG⟩
  rw [bL_law_1243 (hv1 := rfl) (hv2 := rfl), s1, some_bind', WM_is hW, some_bind', c1, some_bind', some_bind', M_is hM, some_bind', c2, some_bind', if_pos rfl, bL_law_1266 (hv1 := rfl) (hv2 := rfl), s6]
  rfl
theorem l_step {k : Nat} (hk : 6 * k + 6 ≤ L) (hL : L ≤ 3072) {sh : List Sh} {y : ST} {m : MM} {W : WD} (hI : LI L xs sh y m W) : ∃ sh' y' m' W', LW L xs k (HP sh (pM y m)) = LW L xs (k + 1) (HP sh' (pM y' m')) ∧ LI L xs sh' y' m' W' ∧ Gr sh sh' := by
  have s0 : scr L xs (nI (6 * k)) = some (xs (6 * k)) := scr_at (by omega) hL
  have e : LW L xs k (HP sh (pM y m)) = _ := bL_law_18 100 (.ref 0) (.ref 259) (nI (6 * k)) rfl rfl (HP sh (pM y m))
  rw [if_neg (fun z => by have := (l_more (L := L) (k := k) (by omega) hL).mp z; omega), s0, some_bind'] at e
  by_cases h0 : xs (6 * k) &&& 63 = 0
  · rw [if_pos h0] at e
    rw [e]
    exact l_feed hk hL hI
  rw [if_neg h0] at e
  by_cases h1 : xs (6 * k) &&& 63 = 1
  · rw [if_pos h1] at e
    rw [e]
    exact l_end hk hL hI
  rw [if_neg h1] at e
  by_cases h2 : xs (6 * k) &&& 63 = 2
  · rw [if_pos h2] at e
    rw [e]
    exact l_town hk hL hI
  rw [if_neg h2] at e
  by_cases h3 : xs (6 * k) &&& 63 = 3
  · rw [if_pos h3] at e
    rw [e]
    exact l_rule hk hL hI
  rw [if_neg h3] at e
  by_cases h4 : xs (6 * k) &&& 63 = 4
  · rw [if_pos h4] at e
    rw [e]
    exact l_force hk hL hI
  rw [if_neg h4] at e
  by_cases h5 : xs (6 * k) &&& 63 = 5
  · rw [if_pos h5] at e
    rw [e]
    exact l_person hk hL hI
  rw [if_neg h5] at e
  by_cases h6 : xs (6 * k) &&& 63 = 6
  · rw [if_pos h6] at e
    rw [e]
    exact l_stranger hk hL hI
  rw [if_neg h6] at e
  by_cases h7 : xs (6 * k) &&& 63 = 7
  · rw [if_pos h7] at e
    rw [e]
    exact l_streets hk hL hI
  rw [if_neg h7] at e
  by_cases h8 : xs (6 * k) &&& 63 = 8
  · rw [if_pos h8] at e
    rw [e]
    exact l_before hk hL hI
  rw [if_neg h8] at e
  by_cases h9 : xs (6 * k) &&& 63 = 9
  · rw [if_pos h9] at e
    rw [e]
    exact l_hour hk hL hI
  rw [if_neg h9] at e
  by_cases h10 : xs (6 * k) &&& 63 = 10
  · rw [if_pos h10] at e
    rw [e]
    exact l_stand hk hL hI
  rw [if_neg h10] at e
  by_cases h11 : xs (6 * k) &&& 63 = 11
  · rw [if_pos h11] at e
    rw [e]
    exact l_collar hk hL hI
  rw [if_neg h11] at e
  by_cases h12 : xs (6 * k) &&& 63 = 12
  · rw [if_pos h12] at e
    rw [e]
    exact l_shut hk hL hI
  rw [if_neg h12] at e
  by_cases h13 : xs (6 * k) &&& 63 = 13
  · rw [if_pos h13] at e
    rw [e]
    exact l_hunt hk hL hI
  rw [if_neg h13] at e
  by_cases h14 : xs (6 * k) &&& 63 = 14
  · rw [if_pos h14] at e
    rw [e]
    exact l_undo hk hL hI
  rw [if_neg h14] at e
  by_cases h15 : xs (6 * k) &&& 63 = 15
  · rw [if_pos h15] at e
    rw [e]
    exact l_ahead hk hL hI
  rw [if_neg h15] at e
  by_cases h16 : xs (6 * k) &&& 63 = 16
  · rw [if_pos h16] at e
    rw [e]
    exact l_mayor hk hL hI
  rw [if_neg h16] at e
  by_cases h17 : xs (6 * k) &&& 63 = 17
  · rw [if_pos h17] at e
    rw [e]
    exact l_pitch hk hL hI
  rw [if_neg h17] at e
  by_cases h18 : xs (6 * k) &&& 63 = 18
  · rw [if_pos h18] at e
    rw [e]
    exact l_smile hk hL hI
  rw [if_neg h18] at e
  by_cases h19 : xs (6 * k) &&& 63 = 19
  · rw [if_pos h19] at e
    rw [e]
    exact l_way hk hL hI
  rw [if_neg h19] at e
  by_cases h20 : xs (6 * k) &&& 63 = 20
  · rw [if_pos h20] at e
    rw [e]
    exact l_came hk hL hI
  rw [if_neg h20] at e
  by_cases h21 : xs (6 * k) &&& 63 = 21
  · rw [if_pos h21] at e
    rw [e]
    exact l_liars hk hL hI
  rw [if_neg h21] at e
  by_cases h22 : xs (6 * k) &&& 63 = 22
  · rw [if_pos h22] at e
    rw [e]
    exact l_post hk hL hI
  rw [if_neg h22] at e
  by_cases h23 : xs (6 * k) &&& 63 = 23
  · rw [if_pos h23] at e
    rw [e]
    exact l_game hk hL hI
  rw [if_neg h23] at e
  by_cases h24 : xs (6 * k) &&& 63 = 24
  · rw [if_pos h24] at e
    rw [e]
    exact l_rests hk hL hI
  rw [if_neg h24] at e
  by_cases h25 : xs (6 * k) &&& 63 = 25
  · rw [if_pos h25] at e
    rw [e]
    exact l_pence hk hL hI
  rw [if_neg h25] at e
  by_cases h26 : xs (6 * k) &&& 63 = 26
  · rw [if_pos h26] at e
    rw [e]
    exact l_note hk hL hI
  rw [if_neg h26] at e
  by_cases h27 : xs (6 * k) &&& 63 = 27
  · rw [if_pos h27] at e
    rw [e]
    exact l_ruled hk hL hI
  rw [if_neg h27] at e
  by_cases h28 : xs (6 * k) &&& 63 = 28
  · rw [if_pos h28] at e
    rw [e]
    exact l_look hk hL hI
  rw [if_neg h28] at e
  by_cases h29 : xs (6 * k) &&& 63 = 29
  · rw [if_pos h29] at e
    rw [e]
    exact l_seed hk hL hI
  rw [if_neg h29] at e
  by_cases h30 : xs (6 * k) &&& 63 = 30
  · rw [if_pos h30] at e
    rw [e]
    exact l_markets hk hL hI
  rw [if_neg h30] at e
  by_cases h31 : xs (6 * k) &&& 63 = 31
  · rw [if_pos h31] at e
    rw [e]
    exact l_count hk hL hI
  rw [if_neg h31] at e
  by_cases h32 : xs (6 * k) &&& 63 = 32
  · rw [if_pos h32] at e
    rw [e]
    exact l_image hk hL hI
  rw [if_neg h32] at e
  by_cases h33 : xs (6 * k) &&& 63 = 33
  · rw [if_pos h33] at e
    rw [e]
    exact l_back hk hL hI
  rw [if_neg h33] at e
  refine ⟨sh, y, m, W, ?_, hI, Gr_refl sh⟩
  rw [e, bL_law_1266 (hv1 := rfl) (hv2 := rfl), show nI (6 * k) + 6 = nI (6 * (k + 1)) from nI_add _ 6]
  rfl
theorem l_loop (hL : L ≤ 3072) : ∀ (f k : Nat) (sh : List Sh) (y : ST) (m : MM) (W : WD), k + f ≤ 600 → L < 6 * (k + f) + 6 → LI L xs sh y m W → ∃ sh' y', LW L xs k (HP sh (pM y m)) = some (HP sh' y', some (.int 1)) ∧ sh'.length ≤ sh.length + 400 * f ∧ slS sh' ≤ slS sh + 6000 * f := by
  have stop : ∀ (k : Nat) (ph : PH), k ≤ 600 → L < 6 * k + 6 → LW L xs k ph = some (ph, some (.int 1)) := fun k ph h1 h2 => by
    have e : LW L xs k ph = _ := bL_law_18 100 (.ref 0) (.ref 259) (nI (6 * k)) rfl rfl ph
    rw [if_pos ((l_more (by omega) hL).mpr h2), if_pos (Or.inr rfl)] at e
    exact e
  intro f
  induction f with
  | zero =>
    intro k sh y m W h1 h2 hI
    exact ⟨sh, _, stop k _ (by omega) h2, by omega, by omega⟩
  | succ f ih =>
    intro k sh y m W h1 h2 hI
    by_cases h : 6 * k + 6 ≤ L
    · obtain ⟨s1, y1, m1, W1, a1, a2, a3⟩ := l_step h hL hI
      obtain ⟨s2, y2, b1, b2, b3⟩ := ih (k + 1) s1 y1 m1 W1 (by omega) (by omega) a2
      have g1 := a3.1
      have g2 := a3.2
      exact ⟨s2, y2, a1.trans b1, by omega, by omega⟩
    · exact ⟨sh, _, stop k _ (by omega) (by omega), by omega, by omega⟩
end LOOP
