section TOWN3
variable {L : Nat} {xs : Nat → Int32} {W : WD}
theorem Sp_town (hv : VW W) : Step L xs W mX12_town mX13_town [] := by
  have hgr : ∀ sh : List Sh, Gr sh (sh ++ shTo sh.length) := fun sh => Gr_app (by show 6 ≤ 400; decide) (by show 11 + (6 + (6 + (5 + (5 + (5 + 0))))) ≤ 6000; decide)
  have xst : ∀ (sh : List Sh) (y : ST) (d : Nat), XI L xs sh y W → ∃ y2 v, cR (ZZ L xs) (d + 59) mX10_read [.ref 194] (HP sh y) = some (HP (sh ++ shTo sh.length) y2, v) ∧ Off (fun o => o = 1 ∨ sh.length ≤ o) y (sI y2 1 1 0) ∧ XI L xs (sh ++ shTo sh.length) (sI y2 1 1 0) ((0, W.1.2), W.2) ∧ ((∃ e, tRd W.1 41 0 (rn isB W.1 0) tb0 = .inl e ∧ (0 < e ∧ e < 10000) ∧ v = .null ∧ y2.1 1 4 = nI e) ∨ ∃ b', tRd W.1 41 0 (rn isB W.1 0) tb0 = .inr b' ∧ v = .ref sh.length ∧ gTo y2 sh.length = b'.1 ∧ TV b') := fun sh y d hx => by
    obtain ⟨y2, v, p1, p2, p3, p4⟩ := r_readT (L := L) (xs := xs) (d + 52) hx hv
    have ho : Off (fun o => o = 1 ∨ sh.length ≤ o) y (sI y2 1 1 0) := Off_sI (D := fun o => o = 1 ∨ sh.length ≤ o) p2 (Or.inl rfl) _ _
    exact ⟨y2, v, p1, ho, XI_read hx ho rfl, p4⟩
  have offM : ∀ {sh : List Sh} {y z : ST}, 307 ≤ sh.length → Off (fun o => o = 1 ∨ sh.length ≤ o) y z → OffM y z := fun hl ho => Off_mono ho (fun o q => by omega)
  rcases hR : tRd W.1 41 0 (rn isB W.1 0) tb0 with e | b
  · refine ⟨((0, W.1.2), W.2), -2 - nI e, fun sh y d hx => ?_, fun sh x m d hM hi => ?_⟩
    · obtain ⟨y2, v, p1, p2, p3, p4⟩ := xst sh y d hx
      rw [hR] at p4
      rcases p4 with ⟨e', q1, q2, q3, q4⟩ | ⟨b', q1, -⟩
      · cases q1
        refine ⟨_, _, cI_of ?_, p3, offM (isXS_len hx.1) p2, hgr sh⟩
        have hW' := p3.1.1.1
        have hT' := p3.1.1.2.1
        show RS (ZZ L xs) (d + 60) mX12_town 0 [some (.ref 0), none] [] _ = _
        rw [bX12_town_0, WM_townReader hx.1.1.1, some_bind', TR_is hx.1.2.1.1, some_bind', p1, some_bind', WM_tape hW', some_bind', Taw_length hT', some_bind', q3, show isN .null = some true from rfl, some_bind', if_pos rfl, WM_tape hW', some_bind', Ta_fault hT', some_bind', show (sI y2 1 1 0).1 1 4 = nI e from q4]
      · cases q1
    · obtain ⟨m', a1, a2, a3, a4, a5⟩ := v_readsM (L := L) (xs := xs) (x := x) (d + 49) hM hi.1 hv.1
      rw [hR] at a5
      rcases a5 with ⟨e', q1, q2, q3⟩ | ⟨b', q1, -⟩
      · cases q1
        refine ⟨m', cI_of ?_, ?_, VW_t ⟨Nat.zero_le _, fun i hi => absurd hi (Nat.not_lt_zero i)⟩ hv⟩
        · show RS (ZZ L xs) (d + 60) mX13_town 0 [some (.ref 259), none] [] _ = _
          rw [bX13_town_0, M_is hM, some_bind', a1, some_bind', M_fault hM, some_bind', q3, if_neg (nI_nle q2.1 (by omega)), some_bind']
        · have h51 : m'.1 51 = m.1 51 := a3 51 (by unfold rdI; omega)
          exact MI_tc (m := m) (c := W.2.1) ⟨a2, fun i hi => absurd hi (Nat.not_lt_zero i)⟩ (MSc_q (m := m) ⟨h51, fun a ha i _ => congrFun (a4 a (by omega)) i⟩ hv.2.1.1 hi.2.1) (a3 32 (by unfold rdI; omega)) (a3 37 (by unfold rdI; omega)) (fun a h1 _ => a4 a (by omega)) hv hi
      · cases q1
  · refine ⟨((0, W.1.2), twW W b, W.2.2), nI b.2.2.1, fun sh y d hx => ?_, fun sh x m d hM hi => ?_⟩
    · obtain ⟨y2, v, p1, p2, p3, p4⟩ := xst sh y d hx
      rw [hR] at p4
      rcases p4 with ⟨e', q1, -⟩ | ⟨b', q1, q2, q3, q4⟩
      · cases q1
      · cases q1
        have hl := isXS_len hx.1
        have hg : gTo (sI y2 1 1 0) sh.length = b.1 := by
          rw [gTo_off (x := y2) (D := fun o => o = 1) (Off_sI (D := fun o => o = 1) (Off_refl _ _) rfl _ _) (fun o q1 q2 => by omega), q3]
        obtain ⟨y3, r1, r2, r3, r4⟩ := v_move (L := L) (xs := xs) (d + 56) p3 (isTo_new sh) hl hg
        have hW' := p3.1.1.1
        have hT' := p3.1.1.2.1
        have h2 : y3.1 sh.length 2 = nI b.2.2.1 := by
          rw [r4]
          exact (gTo_0 hg).trans (TV_k q4).2.1
        refine ⟨_, y3, cI_of ?_, r3, Off_trans (offM hl p2) (Off_mono r2 (fun o q => by unfold Da at q; omega)), hgr sh⟩
        show RS (ZZ L xs) (d + 60) mX12_town 0 [some (.ref 0), none] [] _ = _
        rw [bX12_town_0, WM_townReader hx.1.1.1, some_bind', TR_is hx.1.2.1.1, some_bind', p1, some_bind', WM_tape hW', some_bind', Taw_length hT', some_bind', q2, show isN (.ref sh.length) = some false from rfl, some_bind', if_neg (by decide), WM_now hW', some_bind', Sc_is p3.1.1.2.2.1, some_bind', r1, some_bind', To_people (isTo_new sh), some_bind', h2]
    · obtain ⟨m', a1, a2, a3, a4, a5⟩ := v_readsM (L := L) (xs := xs) (x := x) (d + 49) hM hi.1 hv.1
      rw [hR] at a5
      rcases a5 with ⟨e', q1, -⟩ | ⟨b', q1, q2, q3, q4⟩
      · cases q1
      · cases q1
        obtain ⟨m2, b1, b2, b3, b4, b5, ⟨b6, b6'⟩, b7, b8, b9⟩ := v_laysM (L := L) (xs := xs) (x := x) (d + 50) hM q3 q4
        refine ⟨m2, cI_of ?_, ?_, VW_tw hv q4⟩
        · show RS (ZZ L xs) (d + 60) mX13_town 0 [some (.ref 259), none] [] _ = _
          rw [bX13_town_0, M_is hM, some_bind', a1, some_bind', M_fault hM, some_bind', q2, if_pos (by decide)]
          exact b1
        · refine MI_tc (m := m) ⟨(b2 28 (by decide)).trans a2, fun i hi => absurd hi (Nat.not_lt_zero i)⟩ ⟨b7, ⟨b8, b9⟩, ⟨b6', fun i hi => absurd hi (Nat.not_lt_zero i)⟩, ⟨?_, ?_⟩, b6, fun _ _ i hi => absurd hi (Nat.not_lt_zero i)⟩ ((b2 32 (by decide)).trans (a3 32 (by unfold rdI; omega))) ((b2 37 (by decide)).trans (a3 37 (by unfold rdI; omega))) (fun a h1 _ => (b3 a (by omega)).trans (a4 a (by omega))) hv hi
          · rw [b5, a4 0 (by decide)]
            exact hi.2.1.2.2.2.1.1
          · rw [b4, a4 0 (by decide)]
            exact hi.2.1.2.2.2.1.2
end TOWN3
