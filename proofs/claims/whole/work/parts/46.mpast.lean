/-! kept and laid back; acts undone; images, in the model -/
def Kept (m0 m : MM) : Prop := ∀ a, a ≤ 9 → ∀ i, i < mlen a → m.2.1 45 (7600 + imO a + i) = m0.2.1 a i
/-- kept, all else of the world as it was -/
def KJ (m0 m : MM) : Prop := (m.1 28 = m0.1 28 ∧ m.1 32 = m0.1 32 ∧ m.1 37 = m0.1 37 ∧ m.1 51 = m0.1 51) ∧ (∀ a i, 10 ≤ a → i < mlen a → m.2.1 a i = m0.2.1 a i) ∧ Kept m0 m
theorem RL1_ne : ∀ q, q ∈ RL1 → q.1 ≠ 45 := by decide
theorem RL2_ne : ∀ q, q ∈ RL2 → q.1 ≠ 45 := by decide
theorem RL3_ne : ∀ q, q ∈ RL3 → q.1 ≠ 38 := by decide
theorem RL1_nd : (RL1.map fun q => q.1).Nodup := by decide
theorem RL2_nd : (RL2.map fun q => q.1).Nodup := by decide
theorem RL3_nd : (RL3.map fun q => q.1).Nodup := by decide
theorem RL1_tot : tot RL1 = 89 := rfl
theorem RL2_tot : tot RL2 = 1585 := rfl
theorem RL3_tot : tot RL3 = 76 := rfl
theorem RL1_at {a : Nat} (ha : a ≤ 9) : At RL1 (imO a) a 0 (mlen a) := by
  match a, ha with
  | 0, _ => simp [At, RL1, imO, mlen]
  | 1, _ => simp [At, RL1, imO, mlen]
  | 2, _ => simp [At, RL1, imO, mlen]
  | 3, _ => simp [At, RL1, imO, mlen]
  | 4, _ => simp [At, RL1, imO, mlen]
  | 5, _ => simp [At, RL1, imO, mlen]
  | 6, _ => simp [At, RL1, imO, mlen]
  | 7, _ => simp [At, RL1, imO, mlen]
  | 8, _ => simp [At, RL1, imO, mlen]
  | 9, _ => simp [At, RL1, imO, mlen]
theorem RL2_at {a : Nat} (ha : 10 ≤ a ∧ a ≤ 18 ∨ a = 38) : At RL2 (imO a - 90) a 0 (mlen a) ∧ 90 ≤ imO a := by
  have : a = 10 ∨ a = 11 ∨ a = 12 ∨ a = 13 ∨ a = 14 ∨ a = 15 ∨ a = 16 ∨ a = 17 ∨ a = 18 ∨ a = 38 := by omega
  rcases this with rfl | rfl | rfl | rfl | rfl | rfl | rfl | rfl | rfl | rfl <;> simp [At, RL2, imO, mlen]
theorem RL3_at {a : Nat} (h1 : 1 ≤ a) (h2 : a ≤ 8) : At RL3 (imO a - 7) a 0 (mlen a) ∧ 7 ≤ imO a := by
  match a, h1, h2 with
  | 1, _, _ => simp [At, RL3, imO, mlen]
  | 2, _, _ => simp [At, RL3, imO, mlen]
  | 3, _, _ => simp [At, RL3, imO, mlen]
  | 4, _, _ => simp [At, RL3, imO, mlen]
  | 5, _, _ => simp [At, RL3, imO, mlen]
  | 6, _, _ => simp [At, RL3, imO, mlen]
  | 7, _, _ => simp [At, RL3, imO, mlen]
  | 8, _, _ => simp [At, RL3, imO, mlen]
theorem RL3_at0 : At RL3 0 0 4 3 := Or.inl ⟨rfl, rfl⟩
theorem mlen_j {a i : Nat} (h : i < mlen a) : a ≠ 37 ∧ a ≠ 35 ∧ a ≠ 36 ∧ a ≠ 39 ∧ a ≠ 40 ∧ a ≠ 41 ∧ a ≠ 42 ∧ a ≠ 43 ∧ a ≠ 44 ∧ (a < 19 ∨ 27 ≤ a) ∧ a ≠ 34 := by
  refine ⟨?_, ?_, ?_, ?_, ?_, ?_, ?_, ?_, ?_, ?_, ?_⟩
  any_goals (rintro rfl; exact absurd h (Nat.not_lt_zero _))
  rcases Nat.lt_or_ge a 19 with h1 | h1
  · exact Or.inl h1
  · rcases Nat.lt_or_ge a 27 with h2 | h2
    · have : a = 19 ∨ a = 20 ∨ a = 21 ∨ a = 22 ∨ a = 23 ∨ a = 24 ∨ a = 25 ∨ a = 26 := by omega
      rcases this with rfl | rfl | rfl | rfl | rfl | rfl | rfl | rfl <;> exact absurd h (Nat.not_lt_zero _)
    · exact Or.inr h2
theorem KJ_MF {m0 m m' : MM} (h : KJ m0 m) (hf : MF m m') : KJ m0 m' := by
  obtain ⟨h1, h2, h3⟩ := h
  refine ⟨by rw [hf.1]; exact h1, fun a i ha hi => ?_, fun a ha i hi => ?_⟩
  · rw [hf.2.1 a (by omega) (mlen_j hi).1]
    exact h2 a i ha hi
  · rw [hf.2.1 45 (by omega) (by omega)]
    exact h3 a ha i hi
theorem KJ_A {m0 m : MM} (h : KJ m0 m) {a : Nat} (ha : a < 10 ∨ (mlen a = 0 ∧ a ≠ 45)) (k : Nat) (v : Int32) : KJ m0 (mA m a k v) := by
  obtain ⟨h1, h2, h3⟩ := h
  refine ⟨h1, fun b i hb hi => ?_, fun b hb i hi => ?_⟩
  · rw [mA_ne _ _ _ (fun z => by
      subst z
      omega)]
    exact h2 b i hb hi
  · rw [mA_ne _ _ _ (fun z => by
      subst z
      have : mlen 45 = 7600 := rfl
      omega)]
    exact h3 b hb i hi
theorem KJ_L {m0 m : MM} (h : KJ m0 m) (J : Nat → Nat → Int64) : KJ m0 (m.1, m.2.1, J) := h
theorem KJ_I {m0 m : MM} (h : KJ m0 m) {k : Nat} (hk : k ≠ 28 ∧ k ≠ 32 ∧ k ≠ 37 ∧ k ≠ 51) (v : Int32) : KJ m0 (mI m k v) := by
  obtain ⟨⟨a1, a2, a3, a4⟩, h2, h3⟩ := h
  refine ⟨⟨?_, ?_, ?_, ?_⟩, h2, h3⟩
  · rw [mI_ne _ _ (by omega)]; exact a1
  · rw [mI_ne _ _ (by omega)]; exact a2
  · rw [mI_ne _ _ (by omega)]; exact a3
  · rw [mI_ne _ _ (by omega)]; exact a4
theorem MJ_A {m0 m : MM} (h : MJ m0 m) {a : Nat} (ha : mlen a = 0) (k : Nat) (v : Int32) : MJ m0 (mA m a k v) := by
  refine ⟨h.1, fun b i hi => ?_⟩
  rw [mA_ne _ _ _ (fun z => by
    subst z
    omega)]
  exact h.2 b i hi
theorem MPs_sh {f g : Nat → Int32} {i j np ns : Nat} {s : SV} (h : ∀ t, t < 76 → g (76 * j + t) = f (76 * i + t)) (hn : np ≤ 6) (hs : ns ≤ 5) (hp : MPs f i np ns s) : MPs g j np ns s := by
  have row : ∀ a, 1 ≤ a → a ≤ 8 → ∀ q, q < mlen a → (unP g (76 * j)).2.1 a q = (unP f (76 * i)).2.1 a q := fun a h1 h2 q hq => by
    obtain ⟨r1, r2⟩ := RL3_at h1 h2
    have hb := (At_mem r1).2
    rw [RL3_tot] at hb
    show (if a = 0 then _ else g (76 * j + imO a - 7 + q)) = (if a = 0 then _ else f (76 * i + imO a - 7 + q))
    rw [if_neg (by omega), if_neg (by omega), show 76 * j + imO a - 7 + q = 76 * j + (imO a - 7 + q) by omega, show 76 * i + imO a - 7 + q = 76 * i + (imO a - 7 + q) by omega]
    exact h _ (by omega)
  exact ⟨Mdy_q (m := unP f (76 * i)) (fun q h1 h2 => h (q - 4) (by omega)) (fun a h1 h2 q hq => row a h1 (by omega) q hq) hn hs hp.1, fun q hq => (row 8 (by decide) (by decide) q hq).trans (hp.2 q hq)⟩
theorem MPs_q {f g : Nat → Int32} {i np ns : Nat} {s : SV} (h : ∀ t, t < 76 → g (76 * i + t) = f (76 * i + t)) (hn : np ≤ 6) (hs : ns ≤ 5) (hp : MPs f i np ns s) : MPs g i np ns s := MPs_sh h hn hs hp
section MPAST
variable {L : Nat} {xs : Nat → Int32} {sh : List Sh} {x : ST} {m m0 : MM}
theorem v_keepsAll (d : Nat) (hM : isMo sh) : ∃ m', cV (ZZ L xs) (d + 3) mX13_keepsAll [.ref 259] (HP sh (pM x m)) = some (HP sh (pM x m')) ∧ (∀ b, b ≠ 45 → m'.2.1 b = m.2.1 b) ∧ MJ m m' ∧ KJ m m' := by
  obtain ⟨p1, p2, p3, p4, p5⟩ := pts_spec 61 45 RL1 7600 (mI (mI m 61 (nI 7600)) 62 0) RL1_ne
  refine ⟨pts 61 45 RL1 7600 (mI (mI m 61 (nI 7600)) 62 0), cV_of ?_, p1, ?_, ?_⟩
  · show RS (ZZ L xs) (d + 3) mX13_keepsAll 0 [some (.ref 259)] [] _ = _
    rw [bX13_keepsAll_0, M_is hM, some_bind', v_put4 d hM, some_bind']
  · refine ⟨⟨p3 28 (by decide), p3 32 (by decide), p3 37 (by decide), p3 51 (by decide)⟩, fun a i hi => ?_⟩
    by_cases ha : a = 45
    · subst ha
      exact p4 i (Or.inl hi)
    · rw [p1 a ha]
      rfl
  · refine ⟨⟨p3 28 (by decide), p3 32 (by decide), p3 37 (by decide), p3 51 (by decide)⟩, fun a i _ hi => ?_, fun a ha i hi => ?_⟩
    · by_cases ha : a = 45
      · subst ha
        exact p4 i (Or.inl hi)
      · rw [p1 a ha]
        rfl
    · have := p5 (imO a) a 0 (mlen a) (RL1_at ha) i hi
      rw [Nat.zero_add] at this
      exact this
theorem v_laysBack (d : Nat) (hM : isMo sh) (hK : KJ m0 m) : ∃ m', cV (ZZ L xs) (d + 3) mX13_laysBack [.ref 259] (HP sh (pM x m)) = some (HP sh (pM x m')) ∧ MJ m0 m' ∧ KJ m0 m' ∧ (∀ b, 10 ≤ b → m'.2.1 b = m.2.1 b) := by
  obtain ⟨p1, p2, p3, p4, p5⟩ := gts_spec 61 45 RL1 7600 (mI (mI m 61 (nI 7600)) 62 1) RL1_ne RL1_nd
  obtain ⟨k1, k2, k3⟩ := hK
  have hb : ∀ b, 10 ≤ b → (gts 61 45 RL1 7600 (mI (mI m 61 (nI 7600)) 62 1)).2.1 b = m.2.1 b := fun b hb => p1 b (fun z => by
    have : ∀ q, q ∈ (RL1.map fun q => q.1) → q < 10 := by decide
    have := this b z
    omega)
  have hi1 : (gts 61 45 RL1 7600 (mI (mI m 61 (nI 7600)) 62 1)).1 28 = m0.1 28 ∧ (gts 61 45 RL1 7600 (mI (mI m 61 (nI 7600)) 62 1)).1 32 = m0.1 32 ∧ (gts 61 45 RL1 7600 (mI (mI m 61 (nI 7600)) 62 1)).1 37 = m0.1 37 ∧ (gts 61 45 RL1 7600 (mI (mI m 61 (nI 7600)) 62 1)).1 51 = m0.1 51 := ⟨(p3 28 (by decide)).trans k1.1, (p3 32 (by decide)).trans k1.2.1, (p3 37 (by decide)).trans k1.2.2.1, (p3 51 (by decide)).trans k1.2.2.2⟩
  refine ⟨gts 61 45 RL1 7600 (mI (mI m 61 (nI 7600)) 62 1), cV_of ?_, ⟨hi1, fun a i hi => ?_⟩, ⟨hi1, fun a i ha hi => ?_, fun a ha i hi => ?_⟩, hb⟩
  · show RS (ZZ L xs) (d + 3) mX13_laysBack 0 [some (.ref 259)] [] _ = _
    rw [bX13_laysBack_0, M_is hM, some_bind', v_get4 d hM, some_bind']
  · rcases Nat.lt_or_ge a 10 with ha | ha
    · have := p5 (imO a) a 0 (mlen a) (RL1_at (by omega)) i hi
      rw [Nat.zero_add] at this
      exact this.trans (k3 a (by omega) i hi)
    · rw [hb a ha]
      exact k2 a i ha hi
  · rw [hb a ha]
    exact k2 a i ha hi
  · rw [hb 45 (by decide)]
    exact k3 a ha i hi
/-- a row of the past -/
theorem MPs_put {np ns : Nat} {s : SV} {k : Nat} (hn : np ≤ 6) (hs : ns ≤ 5) (hD : Mdy m np ns s) (hO : MOp m s.2.1) : MPs ((pts 52 38 RL3 (76 * k) m).2.1 38) k np ns s := by
  obtain ⟨p1, p2, p3, p4, p5⟩ := pts_spec 52 38 RL3 (76 * k) m RL3_ne
  have row : ∀ a, 1 ≤ a → a ≤ 8 → ∀ i, i < mlen a → (unP ((pts 52 38 RL3 (76 * k) m).2.1 38) (76 * k)).2.1 a i = m.2.1 a i := fun a h1 h2 i hi => by
    obtain ⟨r1, r2⟩ := RL3_at h1 h2
    have := p5 _ a 0 _ r1 i hi
    rw [Nat.zero_add] at this
    show (if a = 0 then _ else (pts 52 38 RL3 (76 * k) m).2.1 38 (76 * k + imO a - 7 + i)) = _
    rw [if_neg (by omega), show 76 * k + imO a - 7 + i = 76 * k + (imO a - 7) + i by omega]
    exact this
  refine ⟨Mdy_q (m := m) (fun i h1 h2 => ?_) (fun a h1 h2 i hi => row a h1 (by omega) i hi) hn hs hD, fun i hi => ?_⟩
  · have := p5 0 0 4 3 RL3_at0 (i - 4) (by omega)
    rw [show 4 + (i - 4) = i by omega] at this
    exact this
  · rw [row 8 (by decide) (by decide) i hi]
    exact hO i hi
theorem v_keepsAct (d : Nat) (hM : isMo sh) {k np ns : Nat} {P : Nat → SV} {s : SV} (hn : np ≤ 6) (hs : ns ≤ 5) (hk : k ≤ 20) (hP : MPa m k np ns P) (hD : Mdy m np ns s) (hO : MOp m s.2.1) : ∃ m', cV (ZZ L xs) (d + 4) mX13_keepsAct [.ref 259] (HP sh (pM x m)) = some (HP sh (pM x m')) ∧ (∀ b, b ≠ 38 → m'.2.1 b = m.2.1 b) ∧ (∀ j, j ≠ 51 → j ≠ 52 → j ≠ 53 → m'.1 j = m.1 j) ∧ m'.2.2 = m.2.2 ∧ MPa m' (pushP k P s).1 np ns (pushP k P s).2 := by
  obtain ⟨hk1, hk2⟩ := hP
  have fin : ∀ (k : Nat) (P : Nat → SV) (m1 : MM) (u : Option Value), k < 20 → (∀ b, b ≠ 38 → m1.2.1 b = m.2.1 b) → (∀ j, j ≠ 51 → j ≠ 52 → j ≠ 53 → m1.1 j = m.1 j) → m1.2.2 = m.2.2 → MPa m1 k np ns P → ∃ m', RS (ZZ L xs) (d + 4) mX13_keepsAct 50 [some (.ref 259), u] [] (HP sh (pM x m1)) = some (HP sh (pM x m'), none) ∧ (∀ b, b ≠ 38 → m'.2.1 b = m.2.1 b) ∧ (∀ j, j ≠ 51 → j ≠ 52 → j ≠ 53 → m'.1 j = m.1 j) ∧ m'.2.2 = m.2.2 ∧ MPa m' (k + 1) np ns (fun i => if i = k then s else P i) := by
    intro k P m1 u hk q1 q2 q3 q4
    obtain ⟨p1, p2, p3, p4, -⟩ := pts_spec 52 38 RL3 (76 * k) (mI (mI m1 52 (nI (76 * k))) 53 0) RL3_ne
    have hmv := v_mvput (L := L) (xs := xs) (x := x) (m := m1) d hM hk
    have hput : MPs ((pts 52 38 RL3 (76 * k) (mI (mI m1 52 (nI (76 * k))) 53 0)).2.1 38) k np ns s := by
      have w0 : ∀ b, (mI (mI m1 52 (nI (76 * k))) 53 0).2.1 b = m1.2.1 b := fun _ => rfl
      refine MPs_put hn hs (Mdy_q (m := m) (fun i _ _ => ?_) (fun a h1 h2 i _ => ?_) hn hs hD) (fun i hi => ?_)
      · rw [w0, q1 0 (by decide)]
      · rw [w0, q1 a (by omega)]
      · rw [w0, q1 8 (by decide)]
        exact hO i hi
    have w1 : ∀ j, j ≠ 52 → j ≠ 53 → (mI (mI m1 52 (nI (76 * k))) 53 0).1 j = m1.1 j := fun j h1 h2 => (mI_ne _ _ h2).trans (mI_ne _ _ h1)
    have w2 : ∀ b, (mI (mI m1 52 (nI (76 * k))) 53 0).2.1 b = m1.2.1 b := fun _ => rfl
    have w3 : (mI (mI m1 52 (nI (76 * k))) 53 0).2.2 = m1.2.2 := rfl
    generalize mI (mI m1 52 (nI (76 * k))) 53 0 = m9 at *
    generalize pts 52 38 RL3 (76 * k) m9 = m2 at *
    have e51 : m2.1 51 = nI k := (p3 51 (by decide)).trans ((w1 51 (by decide) (by decide)).trans q4.1)
    refine ⟨mI m2 51 (nI (k + 1)), ?_, fun b hb => ?_, fun j j1 j2 j3 => ?_, ?_, mI_eq _ _ _, fun i hi => ?_⟩
    · rw [bX13_keepsAct_50, M_pastMany hM, some_bind', q4.1, M_is hM, some_bind', hmv, some_bind', M_pastMany hM, some_bind', e51, Mw_pastMany hM, some_bind', nI_1]
    · rw [mI_A, p1 b hb, w2]
      exact q1 b hb
    · rw [mI_ne _ _ j1, p3 j j2, w1 j j2 j3]
      exact q2 j j1 j2 j3
    · rw [mI_A, p2, w3]
      exact q3
    · rw [mI_A]
      show MPs (m2.2.1 38) i np ns (if i = k then s else P i)
      by_cases hik : i = k
      · subst hik
        rw [if_pos rfl]
        exact hput
      · rw [if_neg hik]
        refine MPs_q (fun t ht => ?_) hn hs (q4.2 i (by omega))
        rw [p4 _ (by rw [RL3_tot]; omega), w2]
  suffices h : ∃ m', RS (ZZ L xs) (d + 4) mX13_keepsAct 0 [some (.ref 259), none] [] (HP sh (pM x m)) = some (HP sh (pM x m'), none) ∧ (∀ b, b ≠ 38 → m'.2.1 b = m.2.1 b) ∧ (∀ j, j ≠ 51 → j ≠ 52 → j ≠ 53 → m'.1 j = m.1 j) ∧ m'.2.2 = m.2.2 ∧ MPa m' (pushP k P s).1 np ns (pushP k P s).2 by
    obtain ⟨m', q1, q2⟩ := h
    exact ⟨m', cV_of q1, q2⟩
  rw [bX13_keepsAct_0, M_pastMany hM, some_bind', hk1]
  unfold pushP
  by_cases h20 : k < 20
  · rw [if_pos (fun z => by
      have : nI k = nI 20 := z
      rw [nI_eq (by omega) (by omega)] at this
      omega), if_pos h20]
    exact fin k P m none h20 (fun _ _ => rfl) (fun _ _ _ _ => rfl) rfl ⟨hk1, hk2⟩
  · have : k = 20 := by omega
    subst this
    rw [if_neg (fun z => z rfl), if_neg h20]
    have loop : ∀ (f i : Nat), f + i = 1520 → 76 ≤ i → ∀ (m1 : MM), (∀ b, b ≠ 38 → m1.2.1 b = m.2.1 b) → m1.1 = m.1 → m1.2.2 = m.2.2 → (∀ j, j + 76 < i → m1.2.1 38 j = m.2.1 38 (j + 76)) → (∀ j, i ≤ j + 76 → m1.2.1 38 j = m.2.1 38 j) → ∃ m2, RS (ZZ L xs) (d + 4) mX13_keepsAct 12 [some (.ref 259), some (.int (nI i))] [] (HP sh (pM x m1)) = RS (ZZ L xs) (d + 4) mX13_keepsAct 12 [some (.ref 259), some (.int (nI 1520))] [] (HP sh (pM x m2)) ∧ (∀ b, b ≠ 38 → m2.2.1 b = m.2.1 b) ∧ m2.1 = m.1 ∧ m2.2.2 = m.2.2 ∧ (∀ j, j + 76 < 1520 → m2.2.1 38 j = m.2.1 38 (j + 76)) := by
      intro f
      induction f with
      | zero =>
        intro i hi _ m1 q1 q2 q3 q4 q5
        have : i = 1520 := by omega
        subst this
        exact ⟨m1, rfl, q1, q2, q3, q4⟩
      | succ f ih =>
        intro i hi h76 m1 q1 q2 q3 q4 q5
        rw [bX13_keepsAct_12, if_neg (show ¬ (1520 : Int32) ≤ nI i from nI_ge (b := 1520) (by omega) (by decide)), M_past hM, some_bind', some_bind', Me_past hM (by omega), some_bind', show nI i - 76 = nI (i - 76) from pk_sub (b := 76) (by omega), Mu_past hM (by omega), some_bind', nI_1]
        refine ih (i + 1) (by omega) (by omega) _ (fun b hb => ?_) q2 q3 (fun j hj => ?_) (fun j hj => ?_)
        · rw [mA_ne _ _ _ hb]
          exact q1 b hb
        · rw [mA_eq]
          by_cases hji : j = i - 76
          · subst hji
            rw [upd_at, q5 i (by omega), show i - 76 + 76 = i by omega]
          · rw [upd_ne _ _ hji]
            exact q4 j (by omega)
        · rw [mA_eq, upd_ne _ _ (by omega)]
          exact q5 j (by omega)
    obtain ⟨m2, l1, l2, l3, l4, l5⟩ := loop 1444 76 rfl (Nat.le_refl _) m (fun _ _ => rfl) rfl rfl (fun j hj => by omega) (fun _ _ => rfl)
    have l0 : RS (ZZ L xs) (d + 4) mX13_keepsAct 12 [some (.ref 259), some (.int 76)] [] (HP sh (pM x m)) = RS (ZZ L xs) (d + 4) mX13_keepsAct 12 [some (.ref 259), some (.int (nI 1520))] [] (HP sh (pM x m2)) := l1
    have e51 : m2.1 51 = nI 20 := by rw [l3]; exact hk1
    obtain ⟨m', r1, r2, r3, r4, r5⟩ := fin 19 (fun i => P (i + 1)) (mI m2 51 (nI 19)) (some (.int (nI 1520))) (by decide) l2 (fun j j1 j2 j3 => by rw [mI_ne _ _ j1, l3]) l4 ⟨mI_eq _ _ _, fun i hi => by
      obtain ⟨g1, g2⟩ := hk2 (i + 1) (by omega)
      exact MPs_sh (fun t ht => by
        show m2.2.1 38 (76 * i + t) = m.2.1 38 (76 * (i + 1) + t)
        rw [l5 _ (by omega), show 76 * i + t + 76 = 76 * (i + 1) + t by omega]) hn hs ⟨g1, g2⟩⟩
    refine ⟨m', ?_, r2, r3, r4, r5⟩
    rw [l0, bX13_keepsAct_12, if_pos (by decide), M_pastMany hM, some_bind', e51, show nI 20 - 1 = nI 19 from nI_pred 19, Mw_pastMany hM, some_bind']
    exact r1
end MPAST
