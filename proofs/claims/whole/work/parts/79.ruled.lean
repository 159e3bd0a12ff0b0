/-! ruled -/
section RULED
variable {L : Nat} {xs : Nat → Int32} {W : WD}
def ruN (j : Nat) : Int32 := nI j - 1
theorem ruN_0 : ruN 0 = -1 := by decide
theorem ruN_s (j : Nat) : ruN (j + 1) = nI j := nI_pred j
theorem ruN_ok {j : Nat} (hj : j ≤ W.2.2.2.1) : ruN j = -1 ∨ ∃ r, r < W.2.2.2.1 ∧ ruN j = nI r := by
  cases j with
  | zero => exact Or.inl ruN_0
  | succ j => exact Or.inr ⟨j, by omega, ruN_s j⟩
theorem ruN_n2 {j : Nat} (hj : j < 100) : ¬ ruN j = -2 := by
  cases j with
  | zero => decide
  | succ j =>
    rw [ruN_s]
    exact fun z => nI_pos (n := j) (by omega) (by rw [z]; decide)
theorem ruN_le {n j : Nat} (hn : n < 2 ^ 30) (hj : j < 2 ^ 30) : nI n ≤ ruN j ↔ n < j := by
  unfold ruN
  rw [Int32.le_iff_toInt_le, nI_m1i (by omega), nI_toInt (by omega)]
  omega
def ruV (W : WD) (j : Nat) : Int32 := fiV W (RF W (ruN j)) (W.2.1.1.1.1 5)
def ruG (W : WD) (j : Nat) (a : Int32 × Int32) : Int32 × Int32 := if ruV W j = 0 then a else (a.1 + 1, if a.2 = -2 then ruN j else a.2)
def ruK (j : Nat) (a : Int32 × Int32) : Prop := ∃ c : Nat, c ≤ j ∧ a.1 = nI c ∧ (c = 0 ↔ a.2 = -2)
theorem ruK_G {j : Nat} {a : Int32 × Int32} (hj : j < 100) (h : ruK j a) : ruK (j + 1) (ruG W j a) := by
  obtain ⟨c, c1, c2, c3⟩ := h
  unfold ruG
  split
  · exact ⟨c, by omega, c2, c3⟩
  · refine ⟨c + 1, by omega, by rw [c2, nI_1], ⟨fun q => absurd q (by omega), fun q => ?_⟩⟩
    have q : (if a.2 = -2 then ruN j else a.2) = -2 := q
    by_cases e : a.2 = -2
    · rw [if_pos e] at q
      exact absurd q (ruN_n2 hj)
    · rw [if_neg e] at q
      exact absurd q e
theorem ruK_0 {j : Nat} {a : Int32 × Int32} (hj : j < 100) (h : ruK j a) : a.1 = 0 ↔ a.2 = -2 := by
  obtain ⟨c, c1, c2, c3⟩ := h
  rw [← c3, c2]
  constructor
  · intro e
    rcases Nat.eq_zero_or_pos c with h0 | h0
    · exact h0
    · exact absurd e (nI_ne0 h0 (by omega))
  · intro e
    rw [e]
    rfl
section
variable {sh : List Sh} {z : ST}
/-- the rule to try, in the class -/
theorem Xrule (hx : XI L xs sh z W) (hv : VW W) {j : Nat} (hj : j ≤ W.2.2.2.1) : ∃ v, isR v = true ∧ RuV L xs sh z v (RF W (ruN j)) ∧ (j = 0 → v = .null) ∧ ∀ i, j = i + 1 → eR (HP sh z) (.ref 196) (nI i) = some v := by
  have h6 : W.2.2.2.1 ≤ 6 := hv.2.2.2.1
  cases j with
  | zero =>
    refine ⟨.null, rfl, ?_, fun _ => rfl, fun i h => by omega⟩
    rw [ruN_0]
    unfold RF
    rw [if_pos rfl]
    rfl
  | succ j =>
    obtain ⟨a1, a2, -⟩ := hx.2.2.2.2.2.2
    obtain ⟨q, q1, q2, q3⟩ := a2 j (by omega)
    refine ⟨.ref q, rfl, ?_, fun h => by omega, fun i h => ?_⟩
    · rw [ruN_s, RF_some rfl (by omega)]
      exact ⟨q, rfl, q2, hv.2.2.2.2 j (by omega), q3⟩
    · have : i = j := by omega
      subst this
      rw [rAR (t := 4) (n := 6) (Or.inl rfl) hx.1.2.1.2.2.1 (by omega) (by decide), q1]
      rfl
end
section
variable {sh : List Sh} {x : ST} {m0 m : MM}
theorem Q_could (d : Nat) (hM : isMo sh) (hv : VW W) (hp : 0 < W.2.1.1.2.1) (hi : MI L xs m0 W) {j : Nat} (hj : j ≤ W.2.2.2.1) (q : QM L xs sh x W m0 (RF W W.2.1.2.2.2.1.1) (W.2.1.1.1.1 5) m W.2.1.2.1) : ∃ m2, cI (ZZ L xs) (d + 11) mX13_couldRule [.ref 259, .int (ruN j)] (HP sh (pM x m)) = some (HP sh (pM x m2), ruV W j) ∧ MJ m0 m2 ∧ QM L xs sh x W m0 (RF W W.2.1.2.2.2.1.1) (W.2.1.1.1.1 5) m2 W.2.1.2.1 ∧ m2.2.1 44 = m.2.1 44 ∧ ∀ h k, h ≤ 60 → k < W.2.1.1.2.2.2 → m2.2.1 43 (5 * h + k) = noW W (RF W (ruN j)) (W.2.1.1.1.1 5) h k := by
  have hB : QB L xs sh x W m0 (RF W (ruN j)) (W.2.1.1.1.1 5) (mA m 0 9 (ruN j)) := by
    obtain ⟨h1, ⟨b0, b1, b2, b3, b4, b5⟩, h3, h4, hvs, h7⟩ := q
    have e0 : ∀ i, i ≠ 9 → (mA m 0 9 (ruN j)).2.1 0 i = m.2.1 0 i := fun i hi => by rw [mA_eq, upd_ne _ _ hi]
    have e1 : ∀ a, a ≠ 0 → (mA m 0 9 (ruN j)).2.1 a = m.2.1 a := fun a ha => mA_ne m _ _ ha
    refine ⟨KJ_A h1 (Or.inl (by decide)) _ _, ⟨by rw [e0 _ (by decide)]; exact b0, by rw [e0 _ (by decide)]; exact b1, by rw [e0 _ (by decide)]; exact b2, by rw [e0 _ (by decide)]; exact b3, by rw [e1 9 (by decide)]; exact b4, by rw [e1 10 (by decide), e1 11 (by decide), e1 12 (by decide)]; exact b5⟩, RuM_of hM hi (by rw [mA_eq, upd_at]) hv.2.2.2.1 (ruN_ok hj) (fun a q1 q2 i hi2 => by rw [e1 a (by omega)]; exact h1.2.1 a i (by omega) hi2)⟩
  obtain ⟨m2, f1, f2, f3, f4, f5⟩ := Q_fit (L := L) (xs := xs) (x := x) d hM hv hp hi hB
  refine ⟨m2, cI_of ?_, f2, f3, f4.trans (mA_ne m _ _ (by decide)), f5⟩
  show RS (ZZ L xs) (d + 11) mX13_couldRule 0 [some (.ref 259), some (.int (ruN j))] [] _ = _
  rw [bX13_couldRule_0, M_scalar hM, some_bind', wI_l9, Mu_scalar hM (by decide), some_bind', M_is hM, some_bind', f1, some_bind']
  show (if fiV W (RF W (ruN j)) (W.2.1.1.1.1 5) = 0 ∨ fiV W (RF W (ruN j)) (W.2.1.1.1.1 5) = 1 then some (HP sh (pM x m2), some (Value.int (fiV W (RF W (ruN j)) (W.2.1.1.1.1 5)))) else none) = _
  exact if_pos (fiF_01 _ _)
end
theorem Sp_ruled (hv : VW W) (a : Int32) : Step L xs W mX12_ruled mX13_ruled [.int a] := by
  have h5 : W.2.1.1.2.2.2 ≤ 5 := hv.2.1.1.1.1.2.2.2
  have h6 : W.2.1.1.2.2.1 ≤ 6 := hv.2.1.1.1.1.2.1
  have h8 : W.2.1.1.2.1 ≤ 8 := hv.2.1.1.1.2.2.2.2.1.1
  have hb : trq 206 := Or.inl rfl
  by_cases g1 : decide (0 < W.2.1.1.2.1) = true
  rotate_left
  · refine ⟨W, -3, Xsame fun sh y d hx => ?_, Msame hv fun sh x m d hM hi => ?_⟩
    · show RS (ZZ L xs) (d + 60) mX12_ruled 0 [some (.ref 0), some (.int a)] [] _ = _
      rw [bX12_ruled_0, WM_is hx.1.1.1, some_bind', i_hasTown _ hx hv, some_bind', if_pos (z0 g1), bX12_ruled_16]
    · show RS (ZZ L xs) (d + 60) mX13_ruled 0 [some (.ref 259), some (.int a), none, none, none] [] _ = _
      rw [bX13_ruled_0, M_is hM, some_bind', i_townM _ hM hi hv, some_bind', if_pos (z0 g1), bX13_ruled_17]
  by_cases g2 : wiB 0 1 a = true
  rotate_left
  · refine ⟨W, -3, Xsame fun sh y d hx => ?_, Msame hv fun sh x m d hM hi => ?_⟩
    · show RS (ZZ L xs) (d + 60) mX12_ruled 0 [some (.ref 0), some (.int a)] [] _ = _
      rw [bX12_ruled_0, WM_is hx.1.1.1, some_bind', i_hasTown _ hx hv, some_bind', if_neg (z1 g1), i_within, some_bind', if_neg (fun z => z (z0 g2)), bX12_ruled_16]
    · show RS (ZZ L xs) (d + 60) mX13_ruled 0 [some (.ref 259), some (.int a), none, none, none] [] _ = _
      rw [bX13_ruled_0, M_is hM, some_bind', i_townM _ hM hi hv, some_bind', if_neg (z1 g1), i_inM _ (show (0 : Int64) = (0 : Int32).toInt64 from rfl) (show (1 : Int64) = (1 : Int32).toInt64 from rfl), some_bind', if_neg (fun z => z (z0 g2)), bX13_ruled_17]
  have hp : 0 < W.2.1.1.2.1 := of_decide_eq_true g1
  have hn6 : W.2.2.2.1 ≤ 6 := hv.2.2.2.1
  refine ⟨W, if a = 0 then (lp (ruG W) (W.2.2.2.1 + 1) 0 (0, -2)).1 else (lp (ruG W) (W.2.2.2.1 + 1) 0 (0, -2)).2, Xask fun sh y d hx => ?_, Mask hv fun sh x m d hM hi => ?_⟩
  · have hS : isSc sh 3 := hx.1.1.2.2.1
    have hW : isWM sh 0 := hx.1.1.1
    have hC : isCk sh 183 := hx.1.1.2.2.2
    have hH : isHi sh 249 := hx.1.2.2.2.1
    have hcnt : y.1 0 4 = nI W.2.2.2.1 := hx.2.2.2.2.2.2.1
    have loop : ∀ (f j : Nat), f + j = W.2.2.2.1 + 1 → ∀ (z : ST) (r : Int32 × Int32), ruK j r → XI L xs sh z W → ∃ z', RS (ZZ L xs) (d + 59) mX1_rulesThatFit 10 [some (.ref 249), some (.ref 196), some (.int (nI W.2.2.2.1)), some (.int a), some (.int r.1), some (.int r.2), some (.int (ruN j))] [] (HP sh z) = some (HP sh z', some (.int (if a = 0 then (lp (ruG W) f j r).1 else (lp (ruG W) f j r).2))) ∧ Off Dh z z' ∧ XI L xs sh z' W := by
      intro f
      induction f with
      | zero =>
        intro j hj z r hc hz
        refine ⟨z, ?_, Off_refl _ _, hz⟩
        rw [bX1_rulesThatFit_10 (hv1 := rfl), if_pos ((ruN_le (by omega) (by omega)).mpr (by omega))]
        by_cases c0 : a = 0
        · rw [if_neg (fun z => z c0), if_pos c0, bX1_rulesThatFit_97]
          rfl
        · rw [if_pos c0, if_neg c0, bX1_rulesThatFit_97]
          rfl
      | succ f ih =>
        intro j hj z r hc hz
        obtain ⟨v, v1, v2, v3, v4⟩ := Xrule hz hv (j := j) (by omega)
        obtain ⟨t', t1, -, -, -, t5, -⟩ := Q_places hz hv
        obtain ⟨t, w, w0, w1, w2, w3⟩ := Q_windv (L := L) (xs := xs) (d + 57) hz v1 v2 (W.2.1.1.1.1 5) 250
        obtain ⟨u, s', u1, u2, u3⟩ := i_notes (L := L) (xs := xs) (d + 53) hv w3
        have hoff : Off Dh z u := Off_trans (Off_mono w2 (fun o q => Or.inr q)) (Off_mono u2 (fun o q => Or.inl q))
        have hc2 := ruK_G (W := W) (by omega) hc
        have htt : t' = t := by
          rw [t1] at w0
          cases w0
          rfl
        subst htt
        have n1 : ruN j + 1 = ruN (j + 1) := by
          rw [ruN_s]
          unfold ruN
          exact Int32.sub_add_cancel _ _
        have key : ∀ (x0 : Value), x0 = v → ∃ z', RS (ZZ L xs) (d + 59) mX1_rulesThatFit 41 [some (.ref 249), some (.ref 196), some (.int (nI W.2.2.2.1)), some (.int a), some (.int r.1), some (.int r.2), some (.int (ruN j))] [x0, .ref t', .ref 183] (HP sh z) = some (HP sh z', some (.int (if a = 0 then (lp (ruG W) (f + 1) j r).1 else (lp (ruG W) (f + 1) j r).2))) ∧ Off Dh z z' ∧ XI L xs sh z' W := fun x0 hx0 => by
          subst hx0
          rw [bX1_rulesThatFit_41 (hv1 := rfl) (hw0 := v1) (hw1 := rfl) (hw2 := rfl), Hi_now hH, some_bind', t1, some_bind', t5, some_bind', Ck_is hC, some_bind', w1, some_bind', Hi_is hH, some_bind', u1, some_bind']
          by_cases e0 : ruV W j = 0
          · have hl : ruG W j r = r := if_pos e0
            rw [hl] at hc2
            obtain ⟨z', p1, p2, p3⟩ := ih (j + 1) (by omega) u r hc2 u3.1
            refine ⟨z', ?_, Off_trans hoff p2, p3⟩
            rw [if_pos (show fiV W (RF W (ruN j)) (W.2.1.1.1.1 5) = 0 from e0), bX1_rulesThatFit_80 (hv1 := rfl), n1, p1, show lp (ruG W) (f + 1) j r = lp (ruG W) f (j + 1) r from congrArg (lp (ruG W) f (j + 1)) hl]
          · rw [if_neg (show ¬ fiV W (RF W (ruN j)) (W.2.1.1.1.1 5) = 0 from e0)]
            by_cases r0 : r.2 = -2
            · have hl : ruG W j r = (r.1 + 1, ruN j) := by unfold ruG; rw [if_neg e0, if_pos r0]
              rw [hl] at hc2
              obtain ⟨z', p1, p2, p3⟩ := ih (j + 1) (by omega) u (r.1 + 1, ruN j) hc2 u3.1
              refine ⟨z', ?_, Off_trans hoff p2, p3⟩
              rw [if_neg (fun z => z r0), bX1_rulesThatFit_78 (hv1 := rfl), bX1_rulesThatFit_80 (hv1 := rfl), n1, p1, show lp (ruG W) (f + 1) j r = lp (ruG W) f (j + 1) (r.1 + 1, ruN j) from congrArg (lp (ruG W) f (j + 1)) hl]
            · have hl : ruG W j r = (r.1 + 1, r.2) := by unfold ruG; rw [if_neg e0, if_neg r0]
              rw [hl] at hc2
              obtain ⟨z', p1, p2, p3⟩ := ih (j + 1) (by omega) u (r.1 + 1, r.2) hc2 u3.1
              refine ⟨z', ?_, Off_trans hoff p2, p3⟩
              rw [if_pos r0, bX1_rulesThatFit_78 (hv1 := rfl), bX1_rulesThatFit_80 (hv1 := rfl), n1, p1, show lp (ruG W) (f + 1) j r = lp (ruG W) f (j + 1) (r.1 + 1, r.2) from congrArg (lp (ruG W) f (j + 1)) hl]
        rw [bX1_rulesThatFit_10 (hv1 := rfl), if_neg (fun z => by have := (ruN_le (by omega) (by omega)).mp z; omega), Hi_clock hH, some_bind', Hi_now hH, some_bind', t1, some_bind']
        rcases Nat.eq_zero_or_pos j with h0 | h0
        · rw [if_neg (fun z => z (by rw [h0]; exact ruN_0))]
          exact key .null (v3 h0).symm
        · obtain ⟨i, rfl⟩ : ∃ i, j = i + 1 := ⟨j - 1, by omega⟩
          rw [if_pos (fun z => nI_pos (n := i) (by omega) (by rw [← ruN_s, z]; decide))]
          have e1 := v4 i rfl
          rw [← ruN_s] at e1
          rw [e1, some_bind']
          exact key v rfl
    obtain ⟨z, p1, p2, p3⟩ := loop (W.2.2.2.1 + 1) 0 (by omega) y (0, -2) ⟨0, by omega, rfl, ⟨fun _ => rfl, fun _ => rfl⟩⟩ hx
    have haf : cI (ZZ L xs) (d + 59) mX1_rulesThatFit [.ref 249, .ref 196, .int (nI W.2.2.2.1), .int a] (HP sh y) = some (HP sh z, if a = 0 then (lp (ruG W) (W.2.2.2.1 + 1) 0 (0, -2)).1 else (lp (ruG W) (W.2.2.2.1 + 1) 0 (0, -2)).2) := by
      refine cI_of ?_
      show RS (ZZ L xs) (d + 59) mX1_rulesThatFit 0 [some (.ref 249), some (.ref 196), some (.int (nI W.2.2.2.1)), some (.int a), none, none, none] [] _ = _
      rw [bX1_rulesThatFit_0 (hv1 := rfl)]
      rw [ruN_0] at p1
      exact p1
    refine ⟨z, ?_, p3, Off_mono p2 (fun o q => by unfold Dh Dt at q; unfold Dq; omega)⟩
    show RS (ZZ L xs) (d + 60) mX12_ruled 0 [some (.ref 0), some (.int a)] [] _ = _
    rw [bX12_ruled_0, WM_is hx.1.1.1, some_bind', i_hasTown _ hx hv, some_bind', if_neg (z1 g1), i_within, some_bind', if_pos (z1 g2), WM_history hW, some_bind', WM_rules hW, some_bind', WM_ruleCount hW, some_bind', hcnt, Hi_is hH, some_bind', haf, some_bind']
  · obtain ⟨m1, k1, k2, k3⟩ := Q_keep (L := L) (xs := xs) (x := x) (d + 56) hM hv hi
    have loop : ∀ (f j : Nat), f + j = W.2.2.2.1 + 1 → ∀ (m1 : MM) (r : Int32 × Int32), ruK j r → MJ m m1 → QM L xs sh x W m (RF W W.2.1.2.2.2.1.1) (W.2.1.1.1.1 5) m1 W.2.1.2.1 → ∃ m2, RS (ZZ L xs) (d + 60) mX13_ruled 32 [some (.ref 259), some (.int a), some (.int r.1), some (.int r.2), some (.int (ruN j))] [] (HP sh (pM x m1)) = some (HP sh (pM x m2), some (.int (if a = 0 then (lp (ruG W) f j r).1 else (lp (ruG W) f j r).2))) ∧ MJ m m2 := by
      intro f
      induction f with
      | zero =>
        intro j hj m1 r hc hJ q
        refine ⟨m1, ?_, hJ⟩
        have e32 : m1.1 32 = nI W.2.2.2.1 := hJ.1.2.1.trans hi.2.2.2.1.1
        rw [bX13_ruled_32, M_rules hM, some_bind', e32, if_pos ((ruN_le (by omega) (by omega)).mpr (by omega))]
        by_cases c0 : a = 0
        · rw [if_neg (fun z => z c0), if_pos c0, bX13_ruled_79]
          rfl
        · rw [if_pos c0, if_neg c0, bX13_ruled_79]
          rfl
      | succ f ih =>
        intro j hj m1 r hc hJ q
        have e32 : m1.1 32 = nI W.2.2.2.1 := hJ.1.2.1.trans hi.2.2.2.1.1
        obtain ⟨m2, f1, f2, f3, -, -⟩ := Q_could (L := L) (xs := xs) (x := x) (d + 48) hM hv hp hi (j := j) (by omega) q
        have hc2 := ruK_G (W := W) (by omega) hc
        have n1 : ruN j + 1 = ruN (j + 1) := by
          rw [ruN_s]
          unfold ruN
          exact Int32.sub_add_cancel _ _
        rw [bX13_ruled_32, M_rules hM, some_bind', e32, if_neg (fun z => by have := (ruN_le (by omega) (by omega)).mp z; omega), M_is hM, some_bind', f1, some_bind']
        by_cases e0 : ruV W j = 0
        · have hl : ruG W j r = r := if_pos e0
          rw [hl] at hc2
          obtain ⟨m4, p1, p2⟩ := ih (j + 1) (by omega) m2 r hc2 f2 f3
          refine ⟨m4, ?_, p2⟩
          rw [if_pos e0, bX13_ruled_64, n1, p1, show lp (ruG W) (f + 1) j r = lp (ruG W) f (j + 1) r from congrArg (lp (ruG W) f (j + 1)) hl]
        · rw [if_neg e0]
          by_cases r0 : r.2 = -2
          · have hl : ruG W j r = (r.1 + 1, ruN j) := by unfold ruG; rw [if_neg e0, if_pos r0]
            rw [hl] at hc2
            obtain ⟨m4, p1, p2⟩ := ih (j + 1) (by omega) m2 (r.1 + 1, ruN j) hc2 f2 f3
            refine ⟨m4, ?_, p2⟩
            rw [if_neg (fun z => z ((ruK_0 (by omega) hc).mpr r0)), bX13_ruled_60, bX13_ruled_64, n1, p1, show lp (ruG W) (f + 1) j r = lp (ruG W) f (j + 1) (r.1 + 1, ruN j) from congrArg (lp (ruG W) f (j + 1)) hl]
          · have hl : ruG W j r = (r.1 + 1, r.2) := by unfold ruG; rw [if_neg e0, if_neg r0]
            rw [hl] at hc2
            obtain ⟨m4, p1, p2⟩ := ih (j + 1) (by omega) m2 (r.1 + 1, r.2) hc2 f2 f3
            refine ⟨m4, ?_, p2⟩
            rw [if_pos (fun z => r0 ((ruK_0 (by omega) hc).mp z)), bX13_ruled_60, bX13_ruled_64, n1, p1, show lp (ruG W) (f + 1) j r = lp (ruG W) f (j + 1) (r.1 + 1, r.2) from congrArg (lp (ruG W) f (j + 1)) hl]
    obtain ⟨m2, p1, p2⟩ := loop (W.2.2.2.1 + 1) 0 (by omega) m1 (0, -2) ⟨0, by omega, rfl, ⟨fun _ => rfl, fun _ => rfl⟩⟩ k2 k3
    refine ⟨m2, ?_, p2⟩
    show RS (ZZ L xs) (d + 60) mX13_ruled 0 [some (.ref 259), some (.int a), none, none, none] [] _ = _
    rw [bX13_ruled_0, M_is hM, some_bind', i_townM _ hM hi hv, some_bind', if_neg (z1 g1), i_inM _ (show (0 : Int64) = (0 : Int32).toInt64 from rfl) (show (1 : Int64) = (1 : Int32).toInt64 from rfl), some_bind', if_pos (z1 g2), M_is hM, some_bind', k1, some_bind']
    rw [ruN_0] at p1
    exact p1
end RULED
