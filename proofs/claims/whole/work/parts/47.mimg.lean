/-! images, acts undone, in the model; what a scene keeps -/
theorem finput_spec (m : MM) (k : Nat) : (∀ b, b ≠ 39 → b ≠ 45 → (finput m k).2.1 b = m.2.1 b) ∧ (∀ j, j ≠ 61 → j ≠ 62 → (finput m k).1 j = m.1 j) ∧ (∀ i, i < 1900 * k ∨ 1900 * k + 1675 ≤ i → (finput m k).2.1 45 i = m.2.1 45 i) ∧ SQM m (unI (finput m k) k) := by
  have r0 : ∀ b, (mI (mI m 61 (nI (1900 * k))) 62 0).2.1 b = m.2.1 b := fun _ => rfl
  have i0 : ∀ j, j ≠ 61 → j ≠ 62 → (mI (mI m 61 (nI (1900 * k))) 62 0).1 j = m.1 j := fun j h1 h2 => (mI_ne _ _ h2).trans (mI_ne _ _ h1)
  unfold finput
  obtain ⟨a1, a2, a3, a4, a5⟩ := pts_spec 61 45 RL1 (1900 * k) (mI (mI m 61 (nI (1900 * k))) 62 0) RL1_ne
  generalize mI (mI m 61 (nI (1900 * k))) 62 0 = m0 at *
  generalize pts 61 45 RL1 (1900 * k) m0 = m1 at *
  have e51 : m1.1 51 = m.1 51 := (a3 51 (by decide)).trans (i0 51 (by decide) (by decide))
  have c1 : ∀ b, b ≠ 39 → b ≠ 45 → (pt 61 45 (mA m1 39 0 (m1.1 51)) 39 0 1 (1900 * k + 89)).2.1 b = m.2.1 b := fun b h1 h2 => by
    show (if b = 45 then _ else (mA m1 39 0 (m1.1 51)).2.1 b) = _
    rw [if_neg h2, mA_ne _ _ _ h1, a1 b h2, r0]
  have c2 : (pt 61 45 (mA m1 39 0 (m1.1 51)) 39 0 1 (1900 * k + 89)).2.1 45 = cpTo (m1.2.1 45) (1900 * k + 89) (fun i => (mA m1 39 0 (m1.1 51)).2.1 39 (0 + i)) 1 := by
    show (if 45 = 45 then cpTo ((mA m1 39 0 (m1.1 51)).2.1 45) (1900 * k + 89) (fun i => (mA m1 39 0 (m1.1 51)).2.1 39 (0 + i)) 1 else (mA m1 39 0 (m1.1 51)).2.1 45) = _
    rw [if_pos rfl, mA_ne _ _ _ (by decide)]
  have c3 : (pt 61 45 (mA m1 39 0 (m1.1 51)) 39 0 1 (1900 * k + 89)).2.1 39 0 = m.1 51 := by
    show (mA m1 39 0 (m1.1 51)).2.1 39 0 = _
    rw [mA_eq, upd_at, e51]
  have c4 : ∀ j, j ≠ 61 → (pt 61 45 (mA m1 39 0 (m1.1 51)) 39 0 1 (1900 * k + 89)).1 j = m1.1 j := fun j h => by
    show upd m1.1 61 _ j = _
    exact upd_ne _ _ h
  have c5 : (mA m1 39 0 (m1.1 51)).2.1 39 (0 + 0) = m.1 51 := by
    rw [mA_eq, upd_at, e51]
  show (∀ b, b ≠ 39 → b ≠ 45 → (pts 61 45 RL2 (1900 * k + 90) (mI (pt 61 45 (mA m1 39 0 (m1.1 51)) 39 0 1 (1900 * k + 89)) 51 ((pt 61 45 (mA m1 39 0 (m1.1 51)) 39 0 1 (1900 * k + 89)).2.1 39 0))).2.1 b = m.2.1 b) ∧ (∀ j, j ≠ 61 → j ≠ 62 → (pts 61 45 RL2 (1900 * k + 90) (mI (pt 61 45 (mA m1 39 0 (m1.1 51)) 39 0 1 (1900 * k + 89)) 51 ((pt 61 45 (mA m1 39 0 (m1.1 51)) 39 0 1 (1900 * k + 89)).2.1 39 0))).1 j = m.1 j) ∧ (∀ i, i < 1900 * k ∨ 1900 * k + 1675 ≤ i → (pts 61 45 RL2 (1900 * k + 90) (mI (pt 61 45 (mA m1 39 0 (m1.1 51)) 39 0 1 (1900 * k + 89)) 51 ((pt 61 45 (mA m1 39 0 (m1.1 51)) 39 0 1 (1900 * k + 89)).2.1 39 0))).2.1 45 i = m.2.1 45 i) ∧ SQM m (unI (pts 61 45 RL2 (1900 * k + 90) (mI (pt 61 45 (mA m1 39 0 (m1.1 51)) 39 0 1 (1900 * k + 89)) 51 ((pt 61 45 (mA m1 39 0 (m1.1 51)) 39 0 1 (1900 * k + 89)).2.1 39 0))) k)
  generalize pt 61 45 (mA m1 39 0 (m1.1 51)) 39 0 1 (1900 * k + 89) = m2 at *
  obtain ⟨b1, b2, b3, b4, b5⟩ := pts_spec 61 45 RL2 (1900 * k + 90) (mI m2 51 (m2.2.1 39 0)) RL2_ne
  generalize pts 61 45 RL2 (1900 * k + 90) (mI m2 51 (m2.2.1 39 0)) = m3 at *
  have low : ∀ i, i < 1900 * k + 90 ∨ 1900 * k + 1675 ≤ i → m3.2.1 45 i = m2.2.1 45 i := fun i hi => b4 i (by rw [RL2_tot]; omega)
  have low2 : ∀ i, i < 1900 * k + 89 ∨ 1900 * k + 1675 ≤ i → m3.2.1 45 i = m1.2.1 45 i := fun i hi => by
    rw [low i (by omega), c2, cpTo_out (by omega)]
  refine ⟨fun b h1 h2 => (b1 b h2).trans (c1 b h1 h2), fun j h1 h2 => ?_, fun i hi => ?_, ?_, fun a ha i hi => ?_⟩
  · rw [b3 j h1]
    by_cases hj : j = 51
    · subst hj
      rw [mI_eq, c3]
    · rw [mI_ne _ _ hj, c4 j h1, a3 j h1]
      exact i0 j h1 h2
  · rw [low2 i (by omega), a4 i (by rw [RL1_tot]; omega), r0]
  · show m3.2.1 45 (1900 * k + 89) = _
    rw [low _ (by omega), c2, ← c5]
    exact cpTo_in (i := 0) (by decide)
  · show m3.2.1 45 (1900 * k + imO a + i) = _
    rcases Nat.lt_or_ge a 10 with h | h
    · have hA := RL1_at (a := a) (by omega)
      have hb := (At_mem hA).2
      rw [RL1_tot] at hb
      rw [low2 _ (by omega), a5 _ a 0 _ hA i hi, r0, Nat.zero_add]
    · obtain ⟨hA, h90⟩ := RL2_at (a := a) (by omega)
      have := b5 _ a 0 _ hA i hi
      rw [show 1900 * k + 90 + (imO a - 90) + i = 1900 * k + imO a + i by omega, Nat.zero_add] at this
      rw [this]
      exact congrFun (c1 a (by omega) (by omega)) i
theorem finget_spec (m : MM) (k : Nat) : (∀ b, 19 ≤ b → b ≠ 38 → b ≠ 39 → (finget m k).2.1 b = m.2.1 b) ∧ (∀ j, j ≠ 51 → j ≠ 61 → j ≠ 62 → (finget m k).1 j = m.1 j) ∧ SQM (unI m k) (finget m k) := by
  have r0 : ∀ b, (mI (mI m 61 (nI (1900 * k))) 62 1).2.1 b = m.2.1 b := fun _ => rfl
  have i0 : ∀ j, j ≠ 61 → j ≠ 62 → (mI (mI m 61 (nI (1900 * k))) 62 1).1 j = m.1 j := fun j h1 h2 => (mI_ne _ _ h2).trans (mI_ne _ _ h1)
  unfold finget
  obtain ⟨a1, a2, a3, a4, a5⟩ := gts_spec 61 45 RL1 (1900 * k) (mI (mI m 61 (nI (1900 * k))) 62 1) RL1_ne RL1_nd
  have n1 : ∀ b, 10 ≤ b → b ∉ (RL1.map fun q => q.1) := fun b hb z => by
    have : ∀ q, q ∈ (RL1.map fun q => q.1) → q < 10 := by decide
    have := this b z
    omega
  have n2 : ∀ b, b < 10 ∨ 19 ≤ b ∧ b ≠ 38 → b ∉ (RL2.map fun q => q.1) := fun b hb z => by
    have : ∀ q, q ∈ (RL2.map fun q => q.1) → 10 ≤ q ∧ q < 19 ∨ q = 38 := by decide
    have := this b z
    omega
  generalize mI (mI m 61 (nI (1900 * k))) 62 1 = m0 at *
  generalize gts 61 45 RL1 (1900 * k) m0 = m1 at *
  have c1 : ∀ b, b ≠ 39 → (gt 61 45 (mA m1 39 0 (m1.1 51)) 39 0 1 (1900 * k + 89)).2.1 b = m1.2.1 b := fun b h1 => by
    show (if b = 39 then _ else (mA m1 39 0 (m1.1 51)).2.1 b) = _
    rw [if_neg h1, mA_ne _ _ _ h1]
  have c3 : (gt 61 45 (mA m1 39 0 (m1.1 51)) 39 0 1 (1900 * k + 89)).2.1 39 0 = m.2.1 45 (1900 * k + 89) := by
    show (if 39 = 39 then cpTo ((mA m1 39 0 (m1.1 51)).2.1 39) 0 (fun i => (mA m1 39 0 (m1.1 51)).2.1 45 (1900 * k + 89 + i)) 1 else (mA m1 39 0 (m1.1 51)).2.1 39) 0 = _
    rw [if_pos rfl]
    refine Eq.trans (cpTo_in (o := 0) (i := 0) (by decide)) ?_
    rw [mA_ne _ _ _ (by decide), a1 45 (n1 45 (by decide)), r0]
  have c4 : ∀ j, j ≠ 61 → (gt 61 45 (mA m1 39 0 (m1.1 51)) 39 0 1 (1900 * k + 89)).1 j = m1.1 j := fun j h => by
    show upd m1.1 61 _ j = _
    exact upd_ne _ _ h
  show (∀ b, 19 ≤ b → b ≠ 38 → b ≠ 39 → (gts 61 45 RL2 (1900 * k + 90) (mI (gt 61 45 (mA m1 39 0 (m1.1 51)) 39 0 1 (1900 * k + 89)) 51 ((gt 61 45 (mA m1 39 0 (m1.1 51)) 39 0 1 (1900 * k + 89)).2.1 39 0))).2.1 b = m.2.1 b) ∧ (∀ j, j ≠ 51 → j ≠ 61 → j ≠ 62 → (gts 61 45 RL2 (1900 * k + 90) (mI (gt 61 45 (mA m1 39 0 (m1.1 51)) 39 0 1 (1900 * k + 89)) 51 ((gt 61 45 (mA m1 39 0 (m1.1 51)) 39 0 1 (1900 * k + 89)).2.1 39 0))).1 j = m.1 j) ∧ SQM (unI m k) (gts 61 45 RL2 (1900 * k + 90) (mI (gt 61 45 (mA m1 39 0 (m1.1 51)) 39 0 1 (1900 * k + 89)) 51 ((gt 61 45 (mA m1 39 0 (m1.1 51)) 39 0 1 (1900 * k + 89)).2.1 39 0)))
  generalize gt 61 45 (mA m1 39 0 (m1.1 51)) 39 0 1 (1900 * k + 89) = m2 at *
  obtain ⟨b1, b2, b3, b4, b5⟩ := gts_spec 61 45 RL2 (1900 * k + 90) (mI m2 51 (m2.2.1 39 0)) RL2_ne RL2_nd
  generalize gts 61 45 RL2 (1900 * k + 90) (mI m2 51 (m2.2.1 39 0)) = m3 at *
  refine ⟨fun b h1 h2 h3 => ?_, fun j h1 h2 h3 => ?_, ?_, fun a ha i hi => ?_⟩
  · rw [b1 b (n2 b (by omega))]
    exact (c1 b h3).trans ((a1 b (n1 b (by omega))).trans (r0 b))
  · rw [b3 j h2, mI_ne _ _ h1, c4 j h2, a3 j h2]
    exact i0 j h2 h3
  · show m3.1 51 = m.2.1 45 (1900 * k + 89)
    rw [b3 51 (by decide), mI_eq, c3]
  · show m3.2.1 a i = m.2.1 45 (1900 * k + imO a + i)
    rcases Nat.lt_or_ge a 10 with h | h
    · have hA := RL1_at (a := a) (by omega)
      rw [b1 a (n2 a (by omega))]
      have := a5 _ a 0 _ hA i hi
      rw [Nat.zero_add, r0] at this
      exact (congrFun (c1 a (by omega)) i).trans this
    · obtain ⟨hA, h90⟩ := RL2_at (a := a) (by omega)
      have := b5 _ a 0 _ hA i hi
      rw [show 1900 * k + 90 + (imO a - 90) + i = 1900 * k + imO a + i by omega, Nat.zero_add] at this
      rw [this]
      exact congrFun ((c1 45 (by decide)).trans ((a1 45 (n1 45 (by decide))).trans (r0 45))) _
/-- what lies beside the scene that is now -/
def MX (m m' : MM) : Prop := (m'.1 28 = m.1 28 ∧ m'.1 32 = m.1 32 ∧ m'.1 37 = m.1 37) ∧ ∀ a i, 27 ≤ a → a ≠ 38 → i < mlen a → m'.2.1 a i = m.2.1 a i
theorem MI_now {L : Nat} {xs : Nat → Int32} {m m' : MM} {W : WD} {c : SCN} (h : MX m m') (hv : VW W) (hi : MI L xs m W) (hc : MSc m' c) : MI L xs m' (W.1, c, W.2.2) := by
  obtain ⟨⟨a1, a2⟩, b, cc, ⟨d1, d2⟩, e⟩ := hi
  obtain ⟨⟨v0, v00⟩, ⟨v1, -⟩, v2, v3, -⟩ := hv
  refine ⟨⟨h.1.1.trans a1, fun i (hi : i < W.1.1) => (h.2 27 i (by decide) (by decide) (by show i < 400; omega)).trans (a2 i hi)⟩, hc, fun k hk => ?_, ⟨h.1.2.1.trans d1, h.1.2.2.trans d2⟩, fun i (hi : i < W.2.2.2.1) => MRu_fr (fun a h1 h2 j hj => h.2 a j (by omega) (by omega) (inSl_len h1 h2 (by omega) hj)) (e i hi)⟩
  have h46 := h.2 46 k (by decide) (by decide) hk
  refine ⟨fun hg => h46.trans ((cc k hk).1 hg), fun c hg => ⟨h46.trans ((cc k hk).2 c hg).1, ?_⟩⟩
  exact MSc_q (unI_q fun t ht => h.2 45 _ (by decide) (by decide) (by show 1900 * k + t < 7600; omega)) (v2 k c hk hg).1 ((cc k hk).2 c hg).2
/-- a scene of which the state alone is another -/
theorem MSc_dy {m m' : MM} {c : SCN} {s : SV} (hv : VC c) (h0 : ∀ k, k < 4 ∨ 7 ≤ k → m'.2.1 0 k = m.2.1 0 k) (h1 : ∀ a, 9 ≤ a → a ≤ 18 → m'.2.1 a = m.2.1 a) (hO : MOp m' s.2.1) (hD : Mdy m' c.1.2.2.1 c.1.2.2.2 s) {k : Nat} {P : Nat → SV} (hP : MPa m' k c.1.2.2.1 c.1.2.2.2 P) (hc : MSc m c) : MSc m' (c.1, s, (k, P), c.2.2.2) := by
  obtain ⟨⟨⟨a1, a2, a3, a4, a5, a6⟩, ⟨b1, b2⟩⟩, ⟨c1, c2⟩, ⟨d1, d2⟩, ⟨e1, e2⟩, ⟨f1, f2⟩⟩ := hc
  refine ⟨⟨⟨(h0 0 (by omega)).trans a1, (h0 1 (by omega)).trans a2, (h0 2 (by omega)).trans a3, (h0 3 (by omega)).trans a4, fun p hp => (congrFun (h1 9 (by omega) (by omega)) p).trans (a5 p hp), fun g hg => ⟨(congrFun (h1 10 (by omega) (by omega)) g).trans (a6 g hg).1, (congrFun (h1 11 (by omega) (by omega)) g).trans (a6 g hg).2.1, (congrFun (h1 12 (by omega) (by omega)) g).trans (a6 g hg).2.2⟩⟩, fun p hp => ⟨(congrFun (h1 16 (by omega) (by omega)) p).trans (b1 p hp).1, (congrFun (h1 17 (by omega) (by omega)) p).trans (b1 p hp).2⟩, fun i hi => (congrFun (h1 18 (by omega) (by omega)) i).trans (b2 i hi)⟩, ⟨hO, hD⟩, hP, ⟨(h0 9 (by omega)).trans e1, (h0 8 (by omega)).trans e2⟩, (h0 7 (by omega)).trans f1, fun j hj i hi => (congrFun (h1 (13 + j) (by omega) (by omega)) i).trans (f2 j hj i hi)⟩
section MIMG
variable {L : Nat} {xs : Nat → Int32} {sh : List Sh} {x : ST} {m : MM} {W : WD}
theorem i_isTownM (d : Nat) (hM : isMo sh) {pl : Nat} (hp : m.2.1 0 0 = nI pl) (h8 : pl ≤ 8) : cI (ZZ L xs) (d + 1) mX13_isTown [.ref 259] (HP sh (pM x m)) = some (HP sh (pM x m), if 0 < pl then 1 else 0) := by
  refine cI_of ?_
  show RS (ZZ L xs) (d + 1) mX13_isTown 0 [some (.ref 259)] [] _ = _
  rw [bX13_isTown_0, M_scalar hM, some_bind', eI_l0, Me_scalar hM (by decide), some_bind', hp]
  by_cases h : 0 < pl
  · rw [if_neg (nI_nle h (by omega)), if_pos h, bX13_isTown_14, if_pos (Or.inr rfl)]
  · rw [show pl = 0 by omega, if_pos (by decide), if_neg (by decide), bX13_isTown_14, if_pos (Or.inl rfl)]
theorem i_allM (d : Nat) (hM : isMo sh) {np ns : Nat} (hn : m.2.1 0 2 = nI np) (h6 : np ≤ 6) {s : SV} (hD : Mdy m np ns s) : cI (ZZ L xs) (d + 1) mX13_allAsked [.ref 259] (HP sh (pM x m)) = some (HP sh (pM x m), allF s np 0 0) := by
  have loop : ∀ (f k : Nat), f + k = np → ∀ (n : Int32), RS (ZZ L xs) (d + 1) mX13_allAsked 4 [some (.ref 259), some (.int n), some (.int (nI k))] [] (HP sh (pM x m)) = some (HP sh (pM x m), some (.int (allF s f k n))) := by
    intro f
    induction f with
    | zero =>
      intro k hk n
      rw [bX13_allAsked_4, M_scalar hM, some_bind', eI_l2, Me_scalar hM (by decide), some_bind', hn, if_pos (nI_le (by omega) (by omega))]
      rfl
    | succ f ih =>
      intro k hk n
      rw [bX13_allAsked_4, M_scalar hM, some_bind', eI_l2, Me_scalar hM (by decide), some_bind', hn, if_neg (nI_ge (by omega) (by omega)), M_askedAll hM, some_bind', Me_askedAll hM (by omega), some_bind', nI_1, Md_all hD (by omega)]
      exact ih (k + 1) (by omega) _
  refine cI_of ?_
  show RS (ZZ L xs) (d + 1) mX13_allAsked 0 [some (.ref 259), none, none] [] _ = _
  rw [bX13_allAsked_0]
  exact loop np 0 rfl 0
end MIMG
