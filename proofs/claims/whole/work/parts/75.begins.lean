/-! the model begins anew, and holds its notes against what it then does -/
section BEGINS
variable {L : Nat} {xs : Nat → Int32} {W : WD} {sh : List Sh} {x : ST}
theorem v_copiesM (d : Nat) {ra rb a b n : Nat} (hn31 : n < 2 ^ 31) (hab : a ≠ b) (hn : ∀ m : MM, nA (HP sh (pM x m)) (.ref ra) = some (nI n)) (he : ∀ (m : MM) j, j < n → eI (HP sh (pM x m)) (.ref ra) (nI j) = some (m.2.1 a j)) (hw : ∀ (m : MM) j v, j < n → wI (HP sh (pM x m)) (.ref rb) (nI j) v = some (HP sh (pM x (mA m b j v)))) (m : MM) : ∃ m', cV (ZZ L xs) (d + 1) mX13_copies [.ref ra, .ref rb] (HP sh (pM x m)) = some (HP sh (pM x m')) ∧ m'.1 = m.1 ∧ (∀ r, r ≠ b → m'.2.1 r = m.2.1 r) ∧ ∀ j, j < n → m'.2.1 b j = m.2.1 a j := by
  have loop : ∀ (f i : Nat), f + i = n → ∀ (m1 : MM), m1.1 = m.1 → (∀ r, r ≠ b → m1.2.1 r = m.2.1 r) → (∀ j, j < i → m1.2.1 b j = m.2.1 a j) → ∃ m', RS (ZZ L xs) (d + 1) mX13_copies 2 [some (.ref ra), some (.ref rb), some (.int (nI i))] [] (HP sh (pM x m1)) = some (HP sh (pM x m'), none) ∧ m'.1 = m.1 ∧ (∀ r, r ≠ b → m'.2.1 r = m.2.1 r) ∧ ∀ j, j < n → m'.2.1 b j = m.2.1 a j := by
    intro f
    induction f with
    | zero =>
      intro i hi m1 h1 h2 h3
      refine ⟨m1, ?_, h1, h2, fun j hj => h3 j (by omega)⟩
      rw [bX13_copies_2 (hv0 := rfl) (hv1 := rfl), hn, some_bind', if_pos (nI_le (by omega) (by omega))]
    | succ f ih =>
      intro i hi m1 h1 h2 h3
      obtain ⟨m', p1, p2⟩ := ih (i + 1) (by omega) (mA m1 b i (m.2.1 a i)) h1 (fun r hr => by rw [mA_ne _ _ _ hr]; exact h2 r hr) (fun j hj => by
        rw [mA_eq]
        by_cases e : j = i
        · rw [e, upd_at]
        · rw [upd_ne _ _ e]
          exact h3 j (by omega))
      refine ⟨m', ?_, p2⟩
      rw [bX13_copies_2 (hv0 := rfl) (hv1 := rfl), hn, some_bind', if_neg (nI_ge (by omega) (by omega)), he _ _ (by omega), some_bind', h2 a hab, hw _ _ _ (by omega), some_bind', nI_1]
      exact p1
  obtain ⟨m', p1, p2⟩ := loop n 0 (by omega) m rfl (fun _ _ => rfl) (fun j hj => absurd hj (by omega))
  refine ⟨m', cV_of ?_, p2⟩
  show RS (ZZ L xs) (d + 1) mX13_copies 0 [some (.ref ra), some (.ref rb), none] [] _ = _
  rw [bX13_copies_0 (hv0 := rfl) (hv1 := rfl)]
  exact p1
/-- what stands in the model when it has begun -/
def Bgn (m m' : MM) : Prop := m'.1 = m.1 ∧ (∀ r, 9 ≤ r → m'.2.1 r = m.2.1 r) ∧ (∀ k, k < 4 ∨ 7 ≤ k → m'.2.1 0 k = m.2.1 0 k) ∧ (m'.2.1 0 4 = 0 ∧ m'.2.1 0 5 = -1 ∧ m'.2.1 0 6 = 0) ∧ (∀ j, j < 6 → m'.2.1 1 j = m.2.1 16 j ∧ m'.2.1 2 j = m.2.1 17 j ∧ m'.2.1 3 j = 0 ∧ m'.2.1 4 j = 0 ∧ m'.2.1 5 j = 0) ∧ (∀ j, j < 5 → m'.2.1 6 j = -1) ∧ (∀ j, j < 30 → m'.2.1 7 j = 0) ∧ ∀ j, j < 8 → m'.2.1 8 j = m.2.1 18 j
theorem v_begins (d : Nat) (hM : isMo sh) (m : MM) : ∃ m', cV (ZZ L xs) (d + 2) mX13_begins [.ref 259] (HP sh (pM x m)) = some (HP sh (pM x m')) ∧ Bgn m m' := by
  obtain ⟨a, a1, a2, a3, a4⟩ := v_copiesM (L := L) (xs := xs) (sh := sh) (x := x) d (ra := 276) (rb := 261) (a := 16) (b := 1) (n := 6) (by decide) (by decide) (fun m => Ml_toldAt hM) (fun m j hj => Me_toldAt hM hj) (fun m j v hj => Mu_at hM hj v) m
  obtain ⟨b, b1, b2, b3, b4⟩ := v_copiesM (L := L) (xs := xs) (sh := sh) (x := x) d (ra := 277) (rb := 262) (a := 17) (b := 2) (n := 6) (by decide) (by decide) (fun m => Ml_toldKind hM) (fun m j hj => Me_toldKind hM hj) (fun m j v hj => Mu_kind hM hj v) a
  obtain ⟨c, c1, c2, c3, c4⟩ := v_copiesM (L := L) (xs := xs) (sh := sh) (x := x) d (ra := 278) (rb := 268) (a := 18) (b := 8) (n := 8) (by decide) (by decide) (fun m => Ml_toldStreets hM) (fun m j hj => Me_toldStreets hM hj) (fun m j v hj => Mu_open hM hj v) b
  have l7 : ∀ (f i : Nat), f + i = 30 → ∀ (m1 : MM), (∀ j, j < i → m1.2.1 7 j = 0) → ∃ m', RS (ZZ L xs) (d + 2) mX13_begins 112 [some (.ref 259), some (.int (nI i))] [] (HP sh (pM x m1)) = some (HP sh (pM x m'), none) ∧ m'.1 = m1.1 ∧ (∀ r, r ≠ 7 → m'.2.1 r = m1.2.1 r) ∧ ∀ j, j < 30 → m'.2.1 7 j = 0 := by
    intro f
    induction f with
    | zero =>
      intro i hi m1 h
      refine ⟨m1, ?_, rfl, fun _ _ => rfl, fun j hj => h j (by omega)⟩
      rw [bX13_begins_112, M_knows hM, some_bind', Ml_knows hM, some_bind', if_pos (nI_le (by omega) (by omega))]
    | succ f ih =>
      intro i hi m1 h
      obtain ⟨m', p1, p2, p3, p4⟩ := ih (i + 1) (by omega) (mA m1 7 i 0) (fun j hj => by
        rw [mA_eq]
        by_cases e : j = i
        · rw [e, upd_at]
        · rw [upd_ne _ _ e]
          exact h j (by omega))
      refine ⟨m', ?_, p2, fun r hr => (p3 r hr).trans (mA_ne _ _ _ hr), p4⟩
      rw [bX13_begins_112, M_knows hM, some_bind', Ml_knows hM, some_bind', if_neg (nI_ge (by omega) (by omega)), some_bind', Mu_knows hM (by omega), some_bind', nI_1]
      exact p1
  have l6 : ∀ (f i : Nat), f + i = 5 → ∀ (m1 : MM), (∀ j, j < i → m1.2.1 6 j = -1) → ∃ m', RS (ZZ L xs) (d + 2) mX13_begins 92 [some (.ref 259), some (.int (nI i))] [] (HP sh (pM x m1)) = RS (ZZ L xs) (d + 2) mX13_begins 112 [some (.ref 259), some (.int (nI 0))] [] (HP sh (pM x m')) ∧ m'.1 = m1.1 ∧ (∀ r, r ≠ 6 → m'.2.1 r = m1.2.1 r) ∧ ∀ j, j < 5 → m'.2.1 6 j = -1 := by
    intro f
    induction f with
    | zero =>
      intro i hi m1 h
      refine ⟨m1, ?_, rfl, fun _ _ => rfl, fun j hj => h j (by omega)⟩
      rw [bX13_begins_92, if_pos (show (5 : Int32) ≤ nI i from nI_le (a := 5) (by omega) (by omega))]
      rfl
    | succ f ih =>
      intro i hi m1 h
      obtain ⟨m', p1, p2, p3, p4⟩ := ih (i + 1) (by omega) (mA m1 6 i (-1)) (fun j hj => by
        rw [mA_eq]
        by_cases e : j = i
        · rw [e, upd_at]
        · rw [upd_ne _ _ e]
          exact h j (by omega))
      refine ⟨m', ?_, p2, fun r hr => (p3 r hr).trans (mA_ne _ _ _ hr), p4⟩
      rw [bX13_begins_92, if_neg (show ¬ (5 : Int32) ≤ nI i from nI_ge (b := 5) (by omega) (by omega)), M_where hM, some_bind', Mu_where hM (by omega), some_bind', nI_1]
      exact p1
  have l3 : ∀ (f i : Nat), f + i = 6 → ∀ (m1 : MM), (∀ j, j < i → m1.2.1 3 j = 0 ∧ m1.2.1 4 j = 0 ∧ m1.2.1 5 j = 0) → ∃ m', RS (ZZ L xs) (d + 2) mX13_begins 57 [some (.ref 259), some (.int (nI i))] [] (HP sh (pM x m1)) = RS (ZZ L xs) (d + 2) mX13_begins 92 [some (.ref 259), some (.int (nI 0))] [] (HP sh (pM x m')) ∧ m'.1 = m1.1 ∧ (∀ r, r < 3 ∨ 6 ≤ r → m'.2.1 r = m1.2.1 r) ∧ ∀ j, j < 6 → m'.2.1 3 j = 0 ∧ m'.2.1 4 j = 0 ∧ m'.2.1 5 j = 0 := by
    intro f
    induction f with
    | zero =>
      intro i hi m1 h
      refine ⟨m1, ?_, rfl, fun _ _ => rfl, fun j hj => h j (by omega)⟩
      rw [bX13_begins_57, if_pos (show (6 : Int32) ≤ nI i from nI_le (a := 6) (by omega) (by omega))]
      rfl
    | succ f ih =>
      intro i hi m1 h
      obtain ⟨m', p1, p2, p3, p4⟩ := ih (i + 1) (by omega) (mA (mA (mA m1 3 i 0) 4 i 0) 5 i 0) (fun j hj => by
        rw [mA_eq, mA_ne _ _ _ (show (3 : Nat) ≠ 5 by decide), mA_ne _ _ _ (show (3 : Nat) ≠ 4 by decide), mA_eq, mA_ne _ _ _ (show (4 : Nat) ≠ 5 by decide), mA_eq, mA_ne _ _ _ (show (4 : Nat) ≠ 3 by decide), mA_ne _ _ _ (show (5 : Nat) ≠ 4 by decide), mA_ne _ _ _ (show (5 : Nat) ≠ 3 by decide)]
        by_cases e : j = i
        · rw [e, upd_at, upd_at, upd_at]
          exact ⟨rfl, rfl, rfl⟩
        · rw [upd_ne _ _ e, upd_ne _ _ e, upd_ne _ _ e]
          exact h j (by omega))
      refine ⟨m', ?_, p2, fun r hr => (p3 r hr).trans (by rw [mA_ne _ _ _ (by omega), mA_ne _ _ _ (by omega), mA_ne _ _ _ (by omega)]), p4⟩
      rw [bX13_begins_57, if_neg (show ¬ (6 : Int32) ≤ nI i from nI_ge (b := 6) (by omega) (by omega)), M_asks hM, some_bind', Mu_asks hM (by omega), some_bind', M_askedAll hM, some_bind', Mu_askedAll hM (by omega), some_bind', M_chains hM, some_bind', Mu_chains hM (by omega), some_bind', nI_1]
      exact p1
  obtain ⟨e, e1, e2, e3, e4⟩ := l3 6 0 rfl (mA (mA (mA c 0 4 0) 0 5 (-1)) 0 6 0) (fun j hj => absurd hj (by omega))
  obtain ⟨g, g1, g2, g3, g4⟩ := l6 5 0 rfl e (fun j hj => absurd hj (by omega))
  obtain ⟨h, h1, h2, h3, h4⟩ := l7 30 0 rfl g (fun j hj => absurd hj (by omega))
  have hhi : ∀ r, 9 ≤ r → h.2.1 r = m.2.1 r := fun r hr => by
    rw [h3 r (by omega), g3 r (by omega), e3 r (by omega), mA_ne _ _ _ (by omega), mA_ne _ _ _ (by omega), mA_ne _ _ _ (by omega), c3 r (by omega), b3 r (by omega), a3 r (by omega)]
  have h0 : h.2.1 0 = upd (upd (upd (m.2.1 0) 4 0) 5 (-1)) 6 0 := by
    rw [h3 0 (by decide), g3 0 (by decide), e3 0 (by decide), mA_eq, mA_eq, mA_eq, c3 0 (by decide), b3 0 (by decide), a3 0 (by decide)]
  have hlo : ∀ r, r = 1 ∨ r = 2 ∨ r = 8 → h.2.1 r = c.2.1 r := fun r hr => by
    rw [h3 r (by omega), g3 r (by omega), e3 r (by omega), mA_ne _ _ _ (by omega), mA_ne _ _ _ (by omega), mA_ne _ _ _ (by omega)]
  refine ⟨h, cV_of ?_, ?_, hhi, fun k hk => ?_, ⟨?_, ?_, ?_⟩, fun j hj => ⟨?_, ?_, ?_, ?_, ?_⟩, fun j hj => ?_, h4, fun j hj => ?_⟩
  · show RS (ZZ L xs) (d + 2) mX13_begins 0 [some (.ref 259), none] [] _ = _
    rw [bX13_begins_0, M_toldAt hM, some_bind', M_at hM, some_bind', a1, some_bind', M_toldKind hM, some_bind', M_kind hM, some_bind', b1, some_bind', M_toldStreets hM, some_bind', M_open hM, some_bind', c1, some_bind', M_scalar hM, some_bind', wI_l4, Mu_scalar hM (by decide), some_bind', M_scalar hM, some_bind', wI_l5, Mu_scalar hM (by decide), some_bind', M_scalar hM, some_bind', wI_l6, Mu_scalar hM (by decide), some_bind']
    exact e1.trans (g1.trans h1)
  · rw [h2, g2, e2]
    exact c2.trans (b2.trans a2)
  · rw [h0, upd_ne _ _ (by omega), upd_ne _ _ (by omega), upd_ne _ _ (by omega)]
  · rw [h0, upd_ne _ _ (by decide), upd_ne _ _ (by decide), upd_at]
  · rw [h0, upd_ne _ _ (by decide), upd_at]
  · rw [h0, upd_at]
  · rw [hlo 1 (by decide), c3 1 (by decide), b3 1 (by decide), a4 j hj]
  · rw [hlo 2 (by decide), c3 2 (by decide), b4 j hj, a3 17 (by decide)]
  · rw [h3 3 (by decide), g3 3 (by decide)]
    exact (e4 j hj).1
  · rw [h3 4 (by decide), g3 4 (by decide)]
    exact (e4 j hj).2.1
  · rw [h3 5 (by decide), g3 5 (by decide)]
    exact (e4 j hj).2.2
  · rw [h3 6 (by decide)]
    exact g4 j hj
  · rw [hlo 8 (by decide), c4 j hj, b3 18 (by decide), a3 18 (by decide)]
/-- kept, with a rule and wrong memories to try -/
def QB (L : Nat) (xs : Nat → Int32) (sh : List Sh) (x : ST) (W : WD) (m0 : MM) (R : Option ((Nat → Int32) → Int64)) (wr : Int32) (m : MM) : Prop := KJ m0 m ∧ MSt m W.2.1.1.1 W.2.1.1.2.1 W.2.1.1.2.2.1 W.2.1.1.2.2.2 wr ∧ RuM L xs sh x m R
theorem VS_beg (hv : VW W) : VS W.2.1.1.2.1 W.2.1.1.2.2.1 W.2.1.1.2.2.2 (begW W.2.1.1.1) := ⟨hv.2.1.1.1.2.2.2.2.1, hv.2.1.1.1.2.2.2.2.2.1, fun _ _ => Or.inl rfl⟩
theorem Q_begins (d : Nat) (hM : isMo sh) (hv : VW W) {m0 m : MM} {R : Option ((Nat → Int32) → Int64)} {wr : Int32} (hi : MI L xs m0 W) (h : QB L xs sh x W m0 R wr m) : ∃ m', cV (ZZ L xs) (d + 2) mX13_begins [.ref 259] (HP sh (pM x m)) = some (HP sh (pM x m')) ∧ QM L xs sh x W m0 R wr m' (begW W.2.1.1.1) ∧ ∀ r, 9 ≤ r → m'.2.1 r = m.2.1 r := by
  have h5 : W.2.1.1.2.2.2 ≤ 5 := hv.2.1.1.1.1.2.2.2
  have h6 : W.2.1.1.2.2.1 ≤ 6 := hv.2.1.1.1.1.2.1
  obtain ⟨hK, ⟨s0, s1, s2, s3, s4, s5⟩, hR⟩ := h
  obtain ⟨m', b1, c1, c2, c3, ⟨c4, c5, c6⟩, c7, c8, c9, c10⟩ := v_begins (L := L) (xs := xs) (x := x) d hM m
  have hT := hi.2.1.1.2
  refine ⟨m', b1, ⟨⟨by rw [c1]; exact hK.1, fun a i ha hai => by rw [c2 a (by omega)]; exact hK.2.1 a i ha hai, fun a ha i hai => by rw [c2 45 (by decide)]; exact hK.2.2 a ha i hai⟩, ⟨by rw [c3 _ (by omega)]; exact s0, by rw [c3 _ (by omega)]; exact s1, by rw [c3 _ (by omega)]; exact s2, by rw [c3 _ (by omega)]; exact s3, by rw [c2 9 (by decide)]; exact s4, by rw [c2 10 (by decide), c2 11 (by decide), c2 12 (by decide)]; exact s5⟩, fun i hi2 => ?_, ⟨c4, c5, c6, fun j hj k hk => ?_⟩, VS_beg hv, RuM_fr ⟨c3 9 (by omega), fun r q1 q2 => c2 r (by omega)⟩ hR⟩, c2⟩
  · rw [c10 i hi2, hK.2.1 18 i (by decide) hi2]
    exact hT.2 i hi2
  · unfold RLv at hk
    match j, hj with
    | 0, _ =>
      have hk : k < W.2.1.1.2.2.1 := hk
      exact (c7 k (by omega)).1.trans ((hK.2.1 16 k (by decide) (show k < 6 by omega)).trans (hT.1 k hk).1)
    | 1, _ =>
      have hk : k < W.2.1.1.2.2.1 := hk
      exact (c7 k (by omega)).2.1.trans ((hK.2.1 17 k (by decide) (show k < 6 by omega)).trans (hT.1 k hk).2)
    | 2, _ =>
      have hk : k < W.2.1.1.2.2.1 := hk
      exact (c7 k (by omega)).2.2.1
    | 3, _ =>
      have hk : k < W.2.1.1.2.2.1 := hk
      exact (c7 k (by omega)).2.2.2.1
    | 4, _ =>
      have hk : k < W.2.1.1.2.2.1 := hk
      exact (c7 k (by omega)).2.2.2.2
    | 5, _ =>
      have hk : k < W.2.1.1.2.2.2 := hk
      exact c8 k (by omega)
    | 6, _ =>
      have hk : k / 6 < W.2.1.1.2.2.2 ∧ k % 6 < W.2.1.1.2.2.1 := hk
      exact c9 k (by omega)
end BEGINS
