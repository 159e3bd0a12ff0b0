/-! the calls, one by one, on both sides -/
def OffM (x y : ST) : Prop := Off (fun o => o < 259 ∨ 307 ≤ o) x y
def slC : Sh → Nat
  | .inl (_, n) => n
  | .inr (_, l) => l.length
def slS (sh : List Sh) : Nat := (sh.map slC).sum
/-- so much may a call add -/
def Gr (sh sh' : List Sh) : Prop := sh'.length ≤ sh.length + 400 ∧ slS sh' ≤ slS sh + 6000
theorem Gr_refl (sh : List Sh) : Gr sh sh := ⟨Nat.le_add_right _ _, Nat.le_add_right _ _⟩
def XStep (L : Nat) (xs : Nat → Int32) (W W' : WD) (r : Int32) (mx : MD) (as : List Value) : Prop := ∀ (sh : List Sh) (y : ST) (d : Nat), XI L xs sh y W → ∃ sh' y', cI (ZZ L xs) (d + 60) mx (.ref 0 :: as) (HP sh y) = some (HP sh' y', r) ∧ XI L xs sh' y' W' ∧ OffM y y' ∧ Gr sh sh'
def MStep (L : Nat) (xs : Nat → Int32) (W W' : WD) (r : Int32) (mm : MD) (as : List Value) : Prop := ∀ (sh : List Sh) (x : ST) (m : MM) (d : Nat), isMo sh → MI L xs m W → ∃ m', cI (ZZ L xs) (d + 60) mm (.ref 259 :: as) (HP sh (pM x m)) = some (HP sh (pM x m'), r) ∧ MI L xs m' W' ∧ VW W'
def Step (L : Nat) (xs : Nat → Int32) (W : WD) (mx mm : MD) (as : List Value) : Prop := ∃ W' r, XStep L xs W W' r mx as ∧ MStep L xs W W' r mm as
section STEPS
variable {L : Nat} {xs : Nat → Int32} {W : WD}
/-- nothing changes -/
theorem Xsame {r : Int32} {mx : MD} {as : List Value} (h : ∀ (sh : List Sh) (y : ST) (d : Nat), XI L xs sh y W → CL (ZZ L xs) (d + 60) mx (.ref 0 :: as) (HP sh y) = some (HP sh y, some (.int r))) : XStep L xs W W r mx as := fun sh y d hx => ⟨sh, y, cI_of (h sh y d hx), hx, Off_refl _ _, Gr_refl _⟩
theorem Msame {r : Int32} {mm : MD} {as : List Value} (hv : VW W) (h : ∀ (sh : List Sh) (x : ST) (m : MM) (d : Nat), isMo sh → MI L xs m W → CL (ZZ L xs) (d + 60) mm (.ref 259 :: as) (HP sh (pM x m)) = some (HP sh (pM x m), some (.int r))) : MStep L xs W W r mm as := fun sh x m d hM hi => ⟨m, cI_of (h sh x m d hM hi), hi, hv⟩
section MB
variable {sh : List Sh} {x : ST} {m : MM}
theorem i_placeM (d : Nat) (hM : isMo sh) (hi : MI L xs m W) (hv : VW W) (v : Int32) : cI (ZZ L xs) (d + 2) mX13_isPlace [.ref 259, .int v] (HP sh (pM x m)) = some (HP sh (pM x m), z01 (iN W.2.1.1.2.1 v)) := by
  have hp : m.2.1 0 0 = nI W.2.1.1.2.1 := hi.2.1.1.1.1
  have h8 : W.2.1.1.2.1 ≤ 8 := hv.2.1.1.1.2.2.2.2.1.1
  refine cI_of ?_
  show RS (ZZ L xs) (d + 2) mX13_isPlace 0 [some (.ref 259), some (.int v)] [] _ = _
  rw [bX13_isPlace_0, M_scalar hM, some_bind', eI_l0, Me_scalar hM (by decide), some_bind', hp, i_in d, some_bind', b01_z (iN_64 (by omega))]
  show (if z01 (iN W.2.1.1.2.1 v) = 0 ∨ z01 (iN W.2.1.1.2.1 v) = 1 then _ else _) = _
  rw [if_pos (z01_or _)]
theorem i_personM (d : Nat) (hM : isMo sh) (hi : MI L xs m W) (hv : VW W) (v : Int32) : cI (ZZ L xs) (d + 2) mX13_isPerson [.ref 259, .int v] (HP sh (pM x m)) = some (HP sh (pM x m), z01 (iN W.2.1.1.2.2.1 v)) := by
  have hp : m.2.1 0 2 = nI W.2.1.1.2.2.1 := hi.2.1.1.1.2.2.1
  have h8 : W.2.1.1.2.2.1 ≤ 6 := hv.2.1.1.1.1.2.1
  refine cI_of ?_
  show RS (ZZ L xs) (d + 2) mX13_isPerson 0 [some (.ref 259), some (.int v)] [] _ = _
  rw [bX13_isPerson_0, M_scalar hM, some_bind', eI_l2, Me_scalar hM (by decide), some_bind', hp, i_in d, some_bind', b01_z (iN_64 (by omega))]
  show (if z01 (iN W.2.1.1.2.2.1 v) = 0 ∨ z01 (iN W.2.1.1.2.2.1 v) = 1 then _ else _) = _
  rw [if_pos (z01_or _)]
theorem i_strangerM (d : Nat) (hM : isMo sh) (hi : MI L xs m W) (hv : VW W) (v : Int32) : cI (ZZ L xs) (d + 2) mX13_isStranger [.ref 259, .int v] (HP sh (pM x m)) = some (HP sh (pM x m), z01 (iN W.2.1.1.2.2.2 v)) := by
  have hp : m.2.1 0 3 = nI W.2.1.1.2.2.2 := hi.2.1.1.1.2.2.2.1
  have h8 : W.2.1.1.2.2.2 ≤ 5 := hv.2.1.1.1.1.2.2.2
  refine cI_of ?_
  show RS (ZZ L xs) (d + 2) mX13_isStranger 0 [some (.ref 259), some (.int v)] [] _ = _
  rw [bX13_isStranger_0, M_scalar hM, some_bind', eI_l3, Me_scalar hM (by decide), some_bind', hp, i_in d, some_bind', b01_z (iN_64 (by omega))]
  show (if z01 (iN W.2.1.1.2.2.2 v) = 0 ∨ z01 (iN W.2.1.1.2.2.2 v) = 1 then _ else _) = _
  rw [if_pos (z01_or _)]
end MB
theorem z1 {b : Bool} (h : b = true) : ¬ z01 b = 0 := fun q => by rw [z01_0.mp q] at h; cases h
theorem z0 {b : Bool} (h : ¬ b = true) : z01 b = 0 := z01_0.mpr (by cases b <;> simp_all)
/-- the state that is now, in the class -/
theorem Xst {sh : List Sh} {y : ST} (hx : XI L xs sh y W) {j k : Nat} (hj : j < 7) (hk : k < rwN j) : y.2.2.2.1 (11 + j) k = W.2.1.2.1.2.2 j k := hx.2.2.2.2.1.2.2.1.2.2 j hj k hk
theorem Xto {sh : List Sh} {y : ST} {t : Nat} (ht : gTo y t = W.2.1.1.1) {j : Nat} (hj : j < 5) (k : Nat) : y.2.2.2.1 (t + 1 + j) k = W.2.1.1.1.2.2 j k := by
  rw [← ht]
  show _ = (if j < 5 then y.2.2.2.1 (t + 1 + j) else fun _ => 0) k
  rw [if_pos hj]
theorem Sp_person (hv : VW W) (a b : Int32) : Step L xs W mX12_person mX13_person [.int a, .int b] := by
  have h6 : W.2.1.1.2.2.1 ≤ 6 := hv.2.1.1.1.1.2.1
  by_cases ha : iN W.2.1.1.2.2.1 a = true
  · obtain ⟨q, hq, rfl⟩ := iN_ex (by omega) ha
    refine ⟨W, if b = 0 then W.2.1.2.1.2.2 0 q else if b = 1 then W.2.1.2.1.2.2 1 q else if b = 2 then iShr (W.2.1.1.1.1 5) (nI q) &&& 1 else if b = 3 then W.2.1.2.1.2.2 2 q else if b = 4 then W.2.1.2.1.2.2 3 q else if b = 5 then W.2.1.2.1.2.2 4 q else -1, Xsame fun sh y d hx => ?_, Msame hv fun sh x m d hM hi => ?_⟩
    · obtain ⟨t, t1, -, t3, -, t4⟩ := X_town hx
      have hwr : y.1 t 5 = W.2.1.1.1.1 5 := by rw [← t3]; rfl
      have hB : isSt sh 10 := hx.1.1.2.2.1.2.2.2.2.1
      show RS (ZZ L xs) (d + 60) mX12_person 0 [some (.ref 0), some (.int (nI q)), some (.int b)] [] _ = _
      rw [bX12_person_0, WM_is hx.1.1.1, some_bind', i_isPerson _ hx hv, some_bind', if_pos (z1 ha)]
      by_cases b0 : b = 0
      · rw [if_pos b0, if_pos b0, bX12_person_48, WM_now hx.1.1.1, some_bind', Sc_state hx.1.1.2.2.1, some_bind', St_place hB, some_bind', Ste_place hB _ (by omega), some_bind', Xst hx (j := 0) (by decide) (show q < 6 by omega)]
      rw [if_neg b0, if_neg b0]
      by_cases b1 : b = 1
      · rw [if_pos b1, if_pos b1, bX12_person_61, WM_now hx.1.1.1, some_bind', Sc_state hx.1.1.2.2.1, some_bind', St_kind hB, some_bind', Ste_kind hB _ (by omega), some_bind', Xst hx (j := 1) (by decide) (show q < 6 by omega)]
      rw [if_neg b1, if_neg b1]
      by_cases b2 : b = 2
      · rw [if_pos b2, if_pos b2, bX12_person_74, WM_now hx.1.1.1, some_bind', t4, some_bind', To_wrong t1, some_bind', hwr]
      rw [if_neg b2, if_neg b2]
      by_cases b3 : b = 3
      · rw [if_pos b3, if_pos b3, bX12_person_89, WM_now hx.1.1.1, some_bind', Sc_state hx.1.1.2.2.1, some_bind', St_asked hB, some_bind', Ste_asked hB _ (by omega), some_bind', Xst hx (j := 2) (by decide) (show q < 6 by omega)]
      rw [if_neg b3, if_neg b3]
      by_cases b4 : b = 4
      · rw [if_pos b4, if_pos b4, bX12_person_102, WM_now hx.1.1.1, some_bind', Sc_state hx.1.1.2.2.1, some_bind', St_total hB, some_bind', Ste_total hB _ (by omega), some_bind', Xst hx (j := 3) (by decide) (show q < 6 by omega)]
      rw [if_neg b4, if_neg b4]
      by_cases b5 : b = 5
      · rw [if_pos b5, if_pos b5, bX12_person_115, WM_now hx.1.1.1, some_bind', Sc_state hx.1.1.2.2.1, some_bind', St_chains hB, some_bind', Ste_chains hB _ (by omega), some_bind', Xst hx (j := 4) (by decide) (show q < 6 by omega)]
      rw [if_neg b5, if_neg b5, bX12_person_128]
    · have hD := hi.2.1.2.1.2
      have hw := hi.2.1.1.1.2.2.2.2.1 q hq
      show RS (ZZ L xs) (d + 60) mX13_person 0 [some (.ref 259), some (.int (nI q)), some (.int b)] [] _ = _
      rw [bX13_person_0, M_is hM, some_bind', i_personM _ hM hi hv, some_bind', if_pos (z1 ha)]
      by_cases b0 : b = 0
      · rw [if_pos b0, if_pos b0, bX13_person_48, M_at hM, some_bind', Me_at hM (by omega), some_bind', Md_at hD hq]
      rw [if_neg b0, if_neg b0]
      by_cases b1 : b = 1
      · rw [if_pos b1, if_pos b1, bX13_person_55, M_kind hM, some_bind', Me_kind hM (by omega), some_bind', Md_kind hD hq]
      rw [if_neg b1, if_neg b1]
      by_cases b2 : b = 2
      · rw [if_pos b2, if_pos b2, bX13_person_62, M_wrong hM, some_bind', Me_wrong hM (by omega), some_bind', hw]
      rw [if_neg b2, if_neg b2]
      by_cases b3 : b = 3
      · rw [if_pos b3, if_pos b3, bX13_person_69, M_asks hM, some_bind', Me_asks hM (by omega), some_bind', Md_asks hD hq]
      rw [if_neg b3, if_neg b3]
      by_cases b4 : b = 4
      · rw [if_pos b4, if_pos b4, bX13_person_76, M_askedAll hM, some_bind', Me_askedAll hM (by omega), some_bind', Md_all hD hq]
      rw [if_neg b4, if_neg b4]
      by_cases b5 : b = 5
      · rw [if_pos b5, if_pos b5, bX13_person_83, M_chains hM, some_bind', Me_chains hM (by omega), some_bind', Md_chains hD hq]
      rw [if_neg b5, if_neg b5, bX13_person_90]
  · refine ⟨W, -1, Xsame fun sh y d hx => ?_, Msame hv fun sh x m d hM hi => ?_⟩
    · show RS (ZZ L xs) (d + 60) mX12_person 0 [some (.ref 0), some (.int a), some (.int b)] [] _ = _
      rw [bX12_person_0, WM_is hx.1.1.1, some_bind', i_isPerson _ hx hv, some_bind', if_neg (fun z => z (z0 ha))]
    · show RS (ZZ L xs) (d + 60) mX13_person 0 [some (.ref 259), some (.int a), some (.int b)] [] _ = _
      rw [bX13_person_0, M_is hM, some_bind', i_personM _ hM hi hv, some_bind', if_neg (fun z => z (z0 ha))]
end STEPS
