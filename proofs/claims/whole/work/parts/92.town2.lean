/-! town: the model; the step -/
theorem mS_mk (m : MM) (p f : Nat) : mI (mI m 29 (nI p)) 30 (nI f) = mS m p f := by
  refine Prod.ext (funext fun k => ?_) rfl
  show (if k = 30 then nI f else if k = 29 then nI p else m.1 k) = (if k = 29 then nI p else if k = 30 then nI f else m.1 k)
  by_cases h : k = 29
  · rw [if_pos h, if_pos h, if_neg (by omega)]
  · rw [if_neg h, if_neg h]
section TOWN2
variable {L : Nat} {xs : Nat → Int32} {W : WD} {sh : List Sh} {x : ST} {m : MM} {T : TP}
theorem v_startsM (d : Nat) (hM : isMo sh) : cV (ZZ L xs) (d + 1) mX13_starts [.ref 259] (HP sh (pM x m)) = some (HP sh (pM x (mS (mI (mI (mI m 33 0) 34 0) 35 0) 0 0))) := by
  refine cV_of ?_
  show RS (ZZ L xs) (d + 1) mX13_starts 0 [some (.ref 259)] [] _ = _
  rw [bX13_starts_0, Mw_p hM, some_bind', Mw_fault hM, some_bind', Mw_entries hM, some_bind', Mw_deep hM, some_bind', Mw_counted hM, some_bind', show mI (mI m 29 0) 30 0 = mS m 0 0 from mS_mk m 0 0, mS_I _ _ _ (by decide) (by decide), mS_I _ _ _ (by decide) (by decide), mS_I _ _ _ (by decide) (by decide)]
theorem nb_0 : ∀ i : Fin 8, nb 0 (nI i.val) = 0 := by decide +kernel
/-- ints that a reader of towns may leave otherwise -/
def rdI (k : Nat) : Prop := k = 28 ∨ k = 29 ∨ k = 30 ∨ k = 33 ∨ k = 34 ∨ k = 35
theorem v_readsM (d : Nat) (hM : isMo sh) (hi : MTa m T) (hV : VTa T) : ∃ m', cV (ZZ L xs) (d + 10) mX13_readsAll [.ref 259] (HP sh (pM x m)) = some (HP sh (pM x m')) ∧ m'.1 28 = 0 ∧ (∀ k, ¬ rdI k → m'.1 k = m.1 k) ∧ (∀ a, a < 19 ∨ 27 ≤ a → m'.2.1 a = m.2.1 a) ∧ ((∃ e, tRd T 41 0 (rn isB T 0) tb0 = .inl e ∧ (0 < e ∧ e < 10000) ∧ m'.1 30 = nI e) ∨ ∃ b', tRd T 41 0 (rn isB T 0) tb0 = .inr b' ∧ m'.1 30 = 0 ∧ TBm m' b' ∧ TV b') := by
  obtain ⟨M, hMe⟩ : ∃ M, M = mI (mI (mI m 33 0) 34 0) 35 0 := ⟨_, rfl⟩
  have hst := v_startsM (L := L) (xs := xs) (x := x) (m := m) (d + 8) hM
  rw [← hMe] at hst
  have hMi : MTa M T := by rw [hMe]; exact hi
  have l1 : ∀ (g i : Nat), g + i = 4 → ∀ (m1 : MM), NwO M m1 → (∀ j, j < i → m1.2.1 19 j = 0) → ∃ m2, RS (ZZ L xs) (d + 10) mX13_readsAll 6 [some (.ref 259), some (.int (nI i)), none] [] (HP sh (pM x (mS m1 0 0))) = RS (ZZ L xs) (d + 10) mX13_readsAll 26 [some (.ref 259), some (.int (nI 0)), none] [] (HP sh (pM x (mS m2 0 0))) ∧ NwO M m2 ∧ ∀ j, j < 4 → m2.2.1 19 j = 0 := by
    intro g
    induction g with
    | zero =>
      intro i hi m1 h1 h2
      refine ⟨m1, ?_, h1, fun j hj => h2 j (by omega)⟩
      rw [bX13_readsAll_6, if_pos (show (4 : Int32) ≤ nI i from nI_le (a := 4) (by omega) (by omega))]
      rfl
    | succ g ih =>
      intro i hi m1 h1 h2
      obtain ⟨m2, p1, p2, p3⟩ := ih (i + 1) (by omega) (mA m1 19 i 0) (NwO_A h1 (by decide) (by decide) _ _) (fun j hj => by
        rw [mA_eq]
        by_cases e : j = i
        · rw [e, upd_at]
        · rw [upd_ne _ _ e]
          exact h2 j (by omega))
      refine ⟨m2, ?_, p2, p3⟩
      rw [bX13_readsAll_6, if_neg (show ¬ (4 : Int32) ≤ nI i from nI_ge (b := 4) (by omega) (by omega)), M_newScalar hM, some_bind', Mu_newScalar hM (by omega), some_bind', mS_A, nI_1]
      exact p1
  have l2 : ∀ (g i : Nat), g + i = 8 → ∀ (m1 : MM), NwO M m1 → (∀ j, j < 4 → m1.2.1 19 j = 0) → (∀ j, j < i → m1.2.1 26 j = 0) → ∃ m2, RS (ZZ L xs) (d + 10) mX13_readsAll 26 [some (.ref 259), some (.int (nI i)), none] [] (HP sh (pM x (mS m1 0 0))) = RS (ZZ L xs) (d + 10) mX13_readsAll 49 [some (.ref 259), some (.int (nI 0)), some (.int 1)] [] (HP sh (pM x (mS m2 0 0))) ∧ NwO M m2 ∧ (∀ j, j < 4 → m2.2.1 19 j = 0) ∧ ∀ j, j < 8 → m2.2.1 26 j = 0 := by
    intro g
    induction g with
    | zero =>
      intro i hi m1 h1 h2 h3
      refine ⟨m1, ?_, h1, h2, fun j hj => h3 j (by omega)⟩
      rw [bX13_readsAll_26, if_pos (show (8 : Int32) ≤ nI i from nI_le (a := 8) (by omega) (by omega))]
      rfl
    | succ g ih =>
      intro i hi m1 h1 h2 h3
      obtain ⟨m2, p1, p2, p3⟩ := ih (i + 1) (by omega) (mA m1 26 i 0) (NwO_A h1 (by decide) (by decide) _ _) (fun j hj => by rw [mA_ne _ _ _ (by decide)]; exact h2 j hj) (fun j hj => by
        rw [mA_eq]
        by_cases e : j = i
        · rw [e, upd_at]
        · rw [upd_ne _ _ e]
          exact h3 j (by omega))
      refine ⟨m2, ?_, p2, p3⟩
      rw [bX13_readsAll_26, if_neg (show ¬ (8 : Int32) ≤ nI i from nI_ge (b := 8) (by omega) (by omega)), M_newStreets hM, some_bind', Mu_newStreets hM (by omega), some_bind', mS_A, nI_1]
      exact p1
  obtain ⟨m1, a1, a2, a3⟩ := l1 4 0 rfl M (NwO_refl _) (fun j hj => absurd hj (Nat.not_lt_zero j))
  obtain ⟨m2, b1, b2, b3, b4⟩ := l2 8 0 rfl m1 a2 a3 (fun j hj => absurd hj (Nat.not_lt_zero j))
  have hb : TBm m2 tb0 := ⟨⟨b3 0 (by decide), b3 1 (by decide), b3 2 (by decide), b3 3 (by decide)⟩, fun q hq => absurd hq (Nat.not_lt_zero q), fun q hq => absurd hq (Nat.not_lt_zero q), fun i hi => (b4 i hi).trans (nb_0 ⟨i, hi⟩).symm⟩
  obtain ⟨m3, p', f', c1, c2, c3⟩ := v_readLM (L := L) (xs := xs) (x := x) (d + 1) hM hV 41 0 0 tb0 m2 rfl (by decide) (MTa_N b2 hMi) (by decide) hb (Or.inl ⟨rfl, rfl⟩)
  have hN := NwO_trans b2 c2
  refine ⟨mS (mI m3 28 0) p' f', cV_of ?_, ?_, fun k hk => ?_, fun a ha => ?_, ?_⟩
  · show RS (ZZ L xs) (d + 10) mX13_readsAll 0 [some (.ref 259), none, none] [] _ = _
    rw [bX13_readsAll_0, M_is hM, some_bind', hst, some_bind']
    exact a1.trans (b1.trans c1)
  · show (mI m3 28 0).1 28 = 0
    exact mI_eq _ _ _
  · unfold rdI at hk
    show (if k = 29 then nI p' else if k = 30 then nI f' else (mI m3 28 0).1 k) = _
    rw [if_neg (by omega), if_neg (by omega), mI_ne _ _ (by omega), hN.1, hMe, mI_ne _ _ (by omega), mI_ne _ _ (by omega), mI_ne _ _ (by omega)]
  · show m3.2.1 a = _
    rw [hN.2 a ha, hMe]
    rfl
  · rcases c3 with ⟨e, e1, e2, e3⟩ | ⟨b', e1, e2, e3, e4⟩
    · exact Or.inl ⟨e, e1, e2, by rw [← e3]; rfl⟩
    · exact Or.inr ⟨b', e1, by rw [e2]; rfl, e3, e4⟩
theorem MI_tc {m' : MM} {t : Nat × (Nat → Nat)} {c : SCN} (ht : MTa m' t) (hc : MSc m' c) (h32 : m'.1 32 = m.1 32) (h37 : m'.1 37 = m.1 37) (hA : ∀ a, 28 ≤ a → a ≤ 33 ∨ 45 ≤ a → m'.2.1 a = m.2.1 a) (hv : VW W) (hi : MI L xs m W) : MI L xs m' (t, c, W.2.2) := by
  obtain ⟨-, -, c2, ⟨d1, d2⟩, e⟩ := hi
  obtain ⟨-, -, v2, v3, -⟩ := hv
  refine ⟨ht, hc, fun k hk => ?_, ⟨h32.trans d1, h37.trans d2⟩, fun i hi => MRu_fr (fun a h1 h2 j _ => congrFun (hA a h1 (Or.inl h2)) j) (e i hi)⟩
  have h46 := congrFun (hA 46 (by decide) (Or.inr (by decide))) k
  refine ⟨fun hg => h46.trans ((c2 k hk).1 hg), fun s hg => ⟨h46.trans ((c2 k hk).2 s hg).1, ?_⟩⟩
  exact MSc_q (unI_q fun t _ => congrFun (hA 45 (by decide) (Or.inr (by decide))) _) (v2 k s hk hg).1 ((c2 k hk).2 s hg).2
/-- what the model lays down of a town told -/
theorem v_laysM (d : Nat) (hM : isMo sh) {b : TB} (hb : TBm m b) (hv : TV b) : ∃ m', RS (ZZ L xs) (d + 10) mX13_town 21 [some (.ref 259), some (.int (nI 0))] [] (HP sh (pM x m)) = some (HP sh (pM x m'), some (.int (nI b.2.2.1))) ∧ (∀ k, k ≠ 51 → m'.1 k = m.1 k) ∧ (∀ a, 19 ≤ a → m'.2.1 a = m.2.1 a) ∧ m'.2.1 0 8 = m.2.1 0 8 ∧ m'.2.1 0 9 = m.2.1 0 9 ∧ (m'.2.1 0 7 = 0 ∧ m'.1 51 = 0) ∧ (MSt m' b.1 b.2.1 b.2.2.1 b.2.2.2 (b.1.1 5) ∧ MTo m' b.1 b.2.2.1) ∧ MOp m' (begW b.1).2.1 ∧ Mdy m' b.2.2.1 b.2.2.2 (begW b.1) := by
  have hk := TV_k hv
  have h6 := hk.2.2.2.2.1
  have h5 := hk.2.2.2.2.2
  have l1 : ∀ (g i : Nat), g + i = 4 → ∀ (m1 : MM), m1.1 = m.1 → (∀ a, a ≠ 0 → m1.2.1 a = m.2.1 a) → (∀ j, j < i → m1.2.1 0 j = m.2.1 19 j) → (∀ j, 4 ≤ j → m1.2.1 0 j = m.2.1 0 j) → ∃ m2, RS (ZZ L xs) (d + 10) mX13_town 21 [some (.ref 259), some (.int (nI i))] [] (HP sh (pM x m1)) = RS (ZZ L xs) (d + 10) mX13_town 21 [some (.ref 259), some (.int (nI 4))] [] (HP sh (pM x m2)) ∧ m2.1 = m.1 ∧ (∀ a, a ≠ 0 → m2.2.1 a = m.2.1 a) ∧ (∀ j, j < 4 → m2.2.1 0 j = m.2.1 19 j) ∧ ∀ j, 4 ≤ j → m2.2.1 0 j = m.2.1 0 j := by
    intro g
    induction g with
    | zero =>
      intro i hi m1 h1 h2 h3 h4
      have : i = 4 := by omega
      subst this
      exact ⟨m1, rfl, h1, h2, h3, h4⟩
    | succ g ih =>
      intro i hi m1 h1 h2 h3 h4
      obtain ⟨m2, p1, p2⟩ := ih (i + 1) (by omega) (mA m1 0 i (m.2.1 19 i)) h1 (fun a ha => by rw [mA_ne _ _ _ ha]; exact h2 a ha) (fun j hj => by
        rw [mA_eq]
        by_cases e : j = i
        · rw [e, upd_at]
        · rw [upd_ne _ _ e]
          exact h3 j (by omega)) (fun j hj => by
        rw [mA_eq, upd_ne _ _ (by omega)]
        exact h4 j hj)
      refine ⟨m2, ?_, p2⟩
      rw [bX13_town_21, if_neg (show ¬ (4 : Int32) ≤ nI i from nI_ge (b := 4) (by omega) (by omega)), M_scalar hM, some_bind', M_newScalar hM, some_bind', Me_newScalar hM (by omega), some_bind', Mu_scalar hM (by omega), some_bind', nI_1, h2 19 (by decide)]
      exact p1
  obtain ⟨m1, p1, p2, p3, p4, p5⟩ := l1 4 0 rfl m rfl (fun _ _ => rfl) (fun j hj => absurd hj (Nat.not_lt_zero j)) (fun _ _ => rfl)
  have cp := fun (ra rb a b n : Nat) => v_copiesM (L := L) (xs := xs) (sh := sh) (x := x) (d + 8) (ra := ra) (rb := rb) (a := a) (b := b) (n := n)
  obtain ⟨c1, q1, q2, q3, q4⟩ := cp 280 276 20 16 6 (by decide) (by decide) (fun m => Ml_newAt hM) (fun m j hj => Me_newAt hM hj) (fun m j v hj => Mu_toldAt hM hj v) (mA m1 0 7 0)
  obtain ⟨c2, r1, r2, r3, r4⟩ := cp 281 277 21 17 6 (by decide) (by decide) (fun m => Ml_newKind hM) (fun m j hj => Me_newKind hM hj) (fun m j v hj => Mu_toldKind hM hj v) c1
  obtain ⟨c3, s1, s2, s3, s4⟩ := cp 286 278 26 18 8 (by decide) (by decide) (fun m => Ml_newStreets hM) (fun m j hj => Me_newStreets hM hj) (fun m j v hj => Mu_toldStreets hM hj v) c2
  obtain ⟨c4, t1, t2, t3, t4⟩ := cp 282 269 22 9 6 (by decide) (by decide) (fun m => Ml_newWrong hM) (fun m j hj => Me_newWrong hM hj) (fun m j v hj => Mu_wrong hM hj v) c3
  obtain ⟨c5, u1, u2, u3, u4⟩ := cp 283 270 23 10 5 (by decide) (by decide) (fun m => Ml_newFrom hM) (fun m j hj => Me_newFrom hM hj) (fun m j v hj => Mu_from hM hj v) c4
  obtain ⟨c6, w1, w2, w3, w4⟩ := cp 284 271 24 11 5 (by decide) (by decide) (fun m => Ml_newTo hM) (fun m j hj => Me_newTo hM hj) (fun m j v hj => Mu_to hM hj v) c5
  obtain ⟨c7, z1, z2, z3, z4⟩ := cp 285 272 25 12 5 (by decide) (by decide) (fun m => Ml_newEvery hM) (fun m j hj => Me_newEvery hM hj) (fun m j v hj => Mu_every hM hj v) c6
  obtain ⟨c8, g1, g2, g3, g4, g5, g6, g7, g8, g9⟩ := v_begins (L := L) (xs := xs) (x := x) (d + 7) hM c7
  have e7 : ∀ r, r ≠ 0 → r ≠ 9 → r ≠ 10 → r ≠ 11 → r ≠ 12 → r ≠ 16 → r ≠ 17 → r ≠ 18 → c7.2.1 r = m.2.1 r := fun r h0 h9 h10 h11 h12 h16 h17 h18 => by
    rw [z3 r h12, w3 r h11, u3 r h10, t3 r h9, s3 r h18, r3 r h17, q3 r h16, mA_ne _ _ _ h0, p3 r h0]
  have n20 : ∀ r, r ≠ 0 → r ≠ 16 → c1.2.1 r = m.2.1 r := fun r h0 h16 => by rw [q3 r h16, mA_ne _ _ _ h0, p3 r h0]
  have n21 : ∀ r, r ≠ 0 → r ≠ 16 → r ≠ 17 → c2.2.1 r = m.2.1 r := fun r h0 h16 h17 => by rw [r3 r h17, n20 r h0 h16]
  have n26 : ∀ r, r ≠ 0 → r ≠ 16 → r ≠ 17 → r ≠ 18 → c3.2.1 r = m.2.1 r := fun r h0 h16 h17 h18 => by rw [s3 r h18, n21 r h0 h16 h17]
  have n22 : ∀ r, r ≠ 0 → r ≠ 16 → r ≠ 17 → r ≠ 18 → r ≠ 9 → c4.2.1 r = m.2.1 r := fun r h0 h16 h17 h18 h9 => by rw [t3 r h9, n26 r h0 h16 h17 h18]
  have n23 : ∀ r, r ≠ 0 → r ≠ 16 → r ≠ 17 → r ≠ 18 → r ≠ 9 → r ≠ 10 → c5.2.1 r = m.2.1 r := fun r h0 h16 h17 h18 h9 h10 => by rw [u3 r h10, n22 r h0 h16 h17 h18 h9]
  have n24 : ∀ r, r ≠ 0 → r ≠ 16 → r ≠ 17 → r ≠ 18 → r ≠ 9 → r ≠ 10 → r ≠ 11 → c6.2.1 r = m.2.1 r := fun r h0 h16 h17 h18 h9 h10 h11 => by rw [w3 r h11, n23 r h0 h16 h17 h18 h9 h10]
  have f0 : ∀ j, c7.2.1 0 j = (mA m1 0 7 0).2.1 0 j := fun j => by rw [z3 0 (by decide), w3 0 (by decide), u3 0 (by decide), t3 0 (by decide), s3 0 (by decide), r3 0 (by decide), q3 0 (by decide)]
  have f04 : ∀ j, j < 4 → c7.2.1 0 j = m.2.1 19 j := fun j hj => by rw [f0, mA_eq, upd_ne _ _ (by omega)]; exact p4 j hj
  have f16 : ∀ j, j < 6 → c7.2.1 16 j = m.2.1 20 j := fun j hj => by rw [z3 16 (by decide), w3 16 (by decide), u3 16 (by decide), t3 16 (by decide), s3 16 (by decide), r3 16 (by decide), q4 j hj, mA_ne _ _ _ (by decide), p3 20 (by decide)]
  have f17 : ∀ j, j < 6 → c7.2.1 17 j = m.2.1 21 j := fun j hj => by rw [z3 17 (by decide), w3 17 (by decide), u3 17 (by decide), t3 17 (by decide), s3 17 (by decide), r4 j hj, n20 21 (by decide) (by decide)]
  have f18 : ∀ j, j < 8 → c7.2.1 18 j = m.2.1 26 j := fun j hj => by rw [z3 18 (by decide), w3 18 (by decide), u3 18 (by decide), t3 18 (by decide), s4 j hj, n21 26 (by decide) (by decide) (by decide)]
  have f9 : ∀ j, j < 6 → c7.2.1 9 j = m.2.1 22 j := fun j hj => by rw [z3 9 (by decide), w3 9 (by decide), u3 9 (by decide), t4 j hj, n26 22 (by decide) (by decide) (by decide) (by decide)]
  have f10 : ∀ j, j < 5 → c7.2.1 10 j = m.2.1 23 j := fun j hj => by rw [z3 10 (by decide), w3 10 (by decide), u4 j hj, n22 23 (by decide) (by decide) (by decide) (by decide) (by decide)]
  have f11 : ∀ j, j < 5 → c7.2.1 11 j = m.2.1 24 j := fun j hj => by rw [z3 11 (by decide), w4 j hj, n23 24 (by decide) (by decide) (by decide) (by decide) (by decide) (by decide)]
  have f12 : ∀ j, j < 5 → c7.2.1 12 j = m.2.1 25 j := fun j hj => by rw [z4 j hj, n24 25 (by decide) (by decide) (by decide) (by decide) (by decide) (by decide) (by decide)]
  have hint : c8.1 = m.1 := by rw [g2, z2, w2, u2, t2, s2, r2, q2]; exact p2
  have h02 : c8.2.1 0 2 = nI b.2.2.1 := by rw [g4 2 (by omega), f04 2 (by decide)]; exact hb.1.2.2.1
  refine ⟨mI c8 51 0, ?_, fun k hk => by rw [mI_ne _ _ hk, hint], fun a ha => ?_, ?_, ?_, ⟨?_, mI_eq _ _ _⟩, ⟨⟨?_, ?_, ?_, ?_, fun p hp => ?_, fun g hg => ⟨?_, ?_, ?_⟩⟩, fun p hp => ⟨?_, ?_⟩, fun i hi => ?_⟩, fun i hi => ?_, ?_, ?_, ?_, fun j hj k hk => ?_⟩
  · rw [p1, bX13_town_21, if_pos (show (4 : Int32) ≤ nI 4 by decide), M_scalar hM, some_bind', wI_l7, Mu_scalar hM (by decide), some_bind', M_newAt hM, some_bind', M_toldAt hM, some_bind', q1, some_bind', M_newKind hM, some_bind', M_toldKind hM, some_bind', r1, some_bind', M_newStreets hM, some_bind', M_toldStreets hM, some_bind', s1, some_bind', M_newWrong hM, some_bind', M_wrong hM, some_bind', t1, some_bind', M_newFrom hM, some_bind', M_from hM, some_bind', u1, some_bind', M_newTo hM, some_bind', M_to hM, some_bind', w1, some_bind', M_newEvery hM, some_bind', M_every hM, some_bind', z1, some_bind', M_is hM, some_bind', g1, some_bind', Mw_pastMany hM, some_bind', M_scalar hM, some_bind', eI_l2, Me_scalar hM (by decide), some_bind', show (mI c8 51 0).2.1 0 2 = nI b.2.2.1 from h02]
  · show c8.2.1 a = _
    rw [g3 a (by omega)]
    exact e7 a (by omega) (by omega) (by omega) (by omega) (by omega) (by omega) (by omega) (by omega)
  · show c8.2.1 0 8 = _
    rw [g4 8 (by omega), f0, mA_eq, upd_ne _ _ (by decide), p5 8 (by decide)]
  · show c8.2.1 0 9 = _
    rw [g4 9 (by omega), f0, mA_eq, upd_ne _ _ (by decide), p5 9 (by decide)]
  · show c8.2.1 0 7 = _
    rw [g4 7 (by omega), f0, mA_eq, upd_at]
  · show c8.2.1 0 0 = _
    rw [g4 0 (by omega), f04 0 (by decide)]
    exact hb.1.1
  · show c8.2.1 0 1 = _
    rw [g4 1 (by omega), f04 1 (by decide)]
    exact hb.1.2.1
  · exact h02
  · show c8.2.1 0 3 = _
    rw [g4 3 (by omega), f04 3 (by decide)]
    exact hb.1.2.2.2
  · show c8.2.1 9 p = _
    rw [g3 9 (by decide), f9 p (by omega)]
    exact (hb.2.1 p hp).2.2
  · show c8.2.1 10 g = _
    rw [g3 10 (by decide), f10 g (by omega)]
    exact (hb.2.2.1 g hg).1
  · show c8.2.1 11 g = _
    rw [g3 11 (by decide), f11 g (by omega)]
    exact (hb.2.2.1 g hg).2.1
  · show c8.2.1 12 g = _
    rw [g3 12 (by decide), f12 g (by omega)]
    exact (hb.2.2.1 g hg).2.2
  · show c8.2.1 16 p = _
    rw [g3 16 (by decide), f16 p (by omega)]
    exact (hb.2.1 p hp).1
  · show c8.2.1 17 p = _
    rw [g3 17 (by decide), f17 p (by omega)]
    exact (hb.2.1 p hp).2.1
  · show c8.2.1 18 i = _
    rw [g3 18 (by decide), f18 i hi]
    exact hb.2.2.2 i hi
  · show c8.2.1 8 i = _
    rw [g9 i hi, f18 i hi]
    exact hb.2.2.2 i hi
  · exact g5.1
  · exact g5.2.1
  · exact g5.2.2
  · show c8.2.1 (1 + j) k = (begW b.1).2.2 j k
    unfold RLv at hk
    match j, hj with
    | 0, _ =>
      have hk : k < b.2.2.1 := hk
      show c8.2.1 1 k = b.1.2.2 0 k
      rw [(g6 k (by omega)).1, f16 k (by omega)]
      exact (hb.2.1 k hk).1
    | 1, _ =>
      have hk : k < b.2.2.1 := hk
      show c8.2.1 2 k = b.1.2.2 1 k
      rw [(g6 k (by omega)).2.1, f17 k (by omega)]
      exact (hb.2.1 k hk).2.1
    | 2, _ =>
      have hk : k < b.2.2.1 := hk
      exact (g6 k (by omega)).2.2.1
    | 3, _ =>
      have hk : k < b.2.2.1 := hk
      exact (g6 k (by omega)).2.2.2.1
    | 4, _ =>
      have hk : k < b.2.2.1 := hk
      exact (g6 k (by omega)).2.2.2.2
    | 5, _ =>
      have hk : k < b.2.2.2 := hk
      exact g7 k (by omega)
    | 6, _ =>
      have hk : k / 6 < b.2.2.2 ∧ k % 6 < b.2.2.1 := hk
      exact g8 k (by omega)
theorem VW_tw (hv : VW W) {b : TB} (hb : TV b) : VW ((0, W.1.2), twW W b, W.2.2) := by
  obtain ⟨-, ⟨⟨-, -, -, v4, -⟩, v5⟩, v6⟩ := hv
  refine ⟨⟨Nat.zero_le _, fun i hi => absurd hi (Nat.not_lt_zero i)⟩, ⟨⟨hb.1, ⟨⟨hb.1.2.2.2.2.1, hb.1.2.2.2.2.2.1, fun _ _ => Or.inl rfl⟩, 0, Nat.zero_le _, rfl, ⟨0, Nat.zero_le _, rfl⟩, fun p hp => ⟨0, Nat.zero_le _, rfl⟩, fun p _ _ => rfl⟩, ⟨Nat.zero_le _, fun i hi => absurd hi (Nat.not_lt_zero i)⟩, v4, Nat.zero_le _, fun i hi => absurd hi (Nat.not_lt_zero i)⟩, v5⟩, v6⟩
theorem Gr_app {sh e : List Sh} (h1 : e.length ≤ 400) (h2 : slS e ≤ 6000) : Gr sh (sh ++ e) := ⟨by rw [List.length_append]; omega, by rw [slS_app]; omega⟩
end TOWN2
