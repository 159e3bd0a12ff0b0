section NOTES
variable {L : Nat} {xs : Nat → Int32} {W : WD}
def noH (W : WD) (i : Nat) : Nat := (W.2.1.2.2.2.2.2 0 i).toNatClampNeg
def noG (W : WD) (i : Nat) : Nat := (W.2.1.2.2.2.2.2 1 i).toNatClampNeg
def noS (W : WD) (R : Option ((Nat → Int32) → Int64)) (wr : Int32) (h : Nat) : SV := roS R W.2.1.1.1 W.2.1.1.2.2.1 W.2.1.1.2.2.2 wr h (begW W.2.1.1.1)
def noW (W : WD) (R : Option ((Nat → Int32) → Int64)) (wr : Int32) (h k : Nat) : Int32 := hoW R W.2.1.1.1 W.2.1.1.2.2.1 W.2.1.1.2.2.2 wr (noS W R wr h) k
abbrev noO (W : WD) (R : Option ((Nat → Int32) → Int64)) (wr : Int32) (i : Nat) : Prop := noW W R wr (noH W i) (noG W i) = W.2.1.2.2.2.2.2 2 i
def fiF (W : WD) (R : Option ((Nat → Int32) → Int64)) (wr : Int32) : Nat → Nat → Int32
  | 0, _ => 1
  | f + 1, i => if noO W R wr i then fiF W R wr f (i + 1) else 0
/-- do the notes fit -/
def fiV (W : WD) (R : Option ((Nat → Int32) → Int64)) (wr : Int32) : Int32 := fiF W R wr W.2.1.2.2.2.2.1 0
theorem fiF_1 {R : Option ((Nat → Int32) → Int64)} {wr : Int32} : ∀ (f i : Nat), (∀ j, i ≤ j → j < f + i → noO W R wr j) → fiF W R wr f i = 1
  | 0, _, _ => rfl
  | f + 1, i, h => by
    unfold fiF
    rw [if_pos (h i (Nat.le_refl _) (by omega))]
    exact fiF_1 f (i + 1) (fun j h1 h2 => h j (by omega) (by omega))
theorem fiF_0 {R : Option ((Nat → Int32) → Int64)} {wr : Int32} {j : Nat} (hj : ¬ noO W R wr j) : ∀ (f i : Nat), i ≤ j → j < f + i → fiF W R wr f i = 0
  | 0, _, h1, h2 => by omega
  | f + 1, i, h1, h2 => by
    unfold fiF
    by_cases e : noO W R wr i
    · rw [if_pos e]
      exact fiF_0 hj f (i + 1) (by
        by_cases q : i = j
        · rw [q] at e
          exact absurd e hj
        · omega) (by omega)
    · rw [if_neg e]
theorem fiF_01 {R : Option ((Nat → Int32) → Int64)} {wr : Int32} : ∀ (f i : Nat), fiF W R wr f i = 0 ∨ fiF W R wr f i = 1
  | 0, _ => Or.inr rfl
  | f + 1, i => by
    unfold fiF
    split
    · exact fiF_01 f (i + 1)
    · exact Or.inl rfl
theorem roS_s (R : Option ((Nat → Int32) → Int64)) (w : TW) (np ns : Nat) (wr : Int32) : ∀ (n : Nat) (s : SV), roS R w np ns wr (n + 1) s = hoS R w np ns wr (roS R w np ns wr n s)
  | 0, s => rfl
  | n + 1, s => roS_s R w np ns wr n (hoS R w np ns wr s)
theorem no_n (hv : VW W) {i : Nat} (hi : i < W.2.1.2.2.2.2.1) : W.2.1.2.2.2.2.2 0 i = nI (noH W i) ∧ noH W i ≤ 60 ∧ W.2.1.2.2.2.2.2 1 i = nI (noG W i) ∧ noG W i < W.2.1.1.2.2.2 := by
  have h5 : W.2.1.1.2.2.2 ≤ 5 := hv.2.1.1.1.1.2.2.2
  obtain ⟨⟨h, h1, h2⟩, ⟨g, g1, g2⟩, -⟩ := hv.2.1.1.2.2.2.2.2 i hi
  unfold noH noG
  rw [h2, g2, nI_clamp (by omega), nI_clamp (by omega)]
  exact ⟨rfl, h1, rfl, g1⟩
theorem mlen_hi {a : Nat} (h1 : 40 ≤ a) (h2 : a < 45) : mlen a = 0 := by
  have : a = 40 ∨ a = 41 ∨ a = 42 ∨ a = 43 ∨ a = 44 := by omega
  rcases this with rfl | rfl | rfl | rfl | rfl <;> rfl
section
variable {sh : List Sh} {x : ST} {m0 m : MM} {s : SV} {R : Option ((Nat → Int32) → Int64)} {wr : Int32}
theorem QM_hi (h : QM L xs sh x W m0 R wr m s) {b : Nat} (hb : 40 ≤ b) (hb2 : b < 45) (k : Nat) (v : Int32) : QM L xs sh x W m0 R wr (mA m b k v) s := by
  obtain ⟨h1, ⟨s0, s1, s2, s3, s4, s5⟩, h3, ⟨c1, c2, c3, c4⟩, h5, h6⟩ := h
  have e1 : ∀ a, a ≠ b → (mA m b k v).2.1 a = m.2.1 a := fun a ha => mA_ne m _ _ ha
  exact ⟨KJ_A h1 (Or.inr ⟨mlen_hi hb hb2, by omega⟩) _ _, ⟨by rw [e1 0 (by omega)]; exact s0, by rw [e1 0 (by omega)]; exact s1, by rw [e1 0 (by omega)]; exact s2, by rw [e1 0 (by omega)]; exact s3, by rw [e1 9 (by omega)]; exact s4, by rw [e1 10 (by omega), e1 11 (by omega), e1 12 (by omega)]; exact s5⟩, fun i hi => by rw [e1 8 (by omega)]; exact h3 i hi, ⟨by rw [e1 0 (by omega)]; exact c1, by rw [e1 0 (by omega)]; exact c2, by rw [e1 0 (by omega)]; exact c3, fun j hj q hq => by rw [e1 _ (by omega)]; exact c4 j hj q hq⟩, h5, RuM_fr ⟨by rw [e1 0 (by omega)], fun r q1 q2 => e1 r (by omega)⟩ h6⟩
theorem Q_fit (d : Nat) (hM : isMo sh) (hv : VW W) (hp : 0 < W.2.1.1.2.1) (hi : MI L xs m0 W) (h : QB L xs sh x W m0 R wr m) : ∃ m2, cI (ZZ L xs) (d + 10) mX13_doNotesFit [.ref 259] (HP sh (pM x m)) = some (HP sh (pM x m2), fiV W R wr) ∧ MJ m0 m2 ∧ QM L xs sh x W m0 (RF W W.2.1.2.2.2.1.1) (W.2.1.1.1.1 5) m2 W.2.1.2.1 ∧ m2.2.1 44 = m.2.1 44 ∧ ∀ h k, h ≤ 60 → k < W.2.1.1.2.2.2 → m2.2.1 43 (5 * h + k) = noW W R wr h k := by
  have h5 : W.2.1.1.2.2.2 ≤ 5 := hv.2.1.1.1.1.2.2.2
  have hVT := hv.2.1.1.1.2.2.2.1 hp
  have hnn : W.2.1.2.2.2.2.1 ≤ 10 := hv.2.1.1.2.2.2.2.1
  obtain ⟨m1, b1, b2, b3⟩ := Q_begins (L := L) (xs := xs) (x := x) (d + 7) hM hv hi h
  have inner : ∀ (f i : Nat), f + i = 5 → ∀ (m1 : MM) (s : SV) (hh : Nat), hh ≤ 60 → QM L xs sh x W m0 R wr m1 s → ∃ (m2 : MM) (u2 : Option Value), RS (ZZ L xs) (d + 10) mX13_doNotesFit 19 [some (.ref 259), some (.int (nI hh)), some (.int (nI i))] [] (HP sh (pM x m1)) = RS (ZZ L xs) (d + 10) mX13_doNotesFit 6 [some (.ref 259), some (.int (nI (hh + 1))), u2] [] (HP sh (pM x m2)) ∧ QM L xs sh x W m0 R wr m2 s ∧ m2.2.1 44 = m1.2.1 44 ∧ (∀ k, i ≤ k → k < 5 → m2.2.1 43 (5 * hh + k) = m1.2.1 37 k) ∧ ∀ k, k < 5 * hh + i → m2.2.1 43 k = m1.2.1 43 k := by
    intro f
    induction f with
    | zero =>
      intro i hi m1 s hh hhl q
      refine ⟨m1, some (.int (nI i)), ?_, q, rfl, fun k h1 h2 => by omega, fun _ _ => rfl⟩
      rw [bX13_doNotesFit_19, if_pos (show (5 : Int32) ≤ nI i from nI_le (a := 5) (by omega) (by omega)), nI_1]
    | succ f ih =>
      intro i hi m1 s hh hhl q
      obtain ⟨m2, u2, p1, p2, p3, p4, p5⟩ := ih (i + 1) (by omega) (mA m1 43 (5 * hh + i) (m1.2.1 37 i)) s hh hhl (QM_hi q (by decide) (by decide) _ _)
      refine ⟨m2, u2, ?_, p2, p3.trans (mA_ne _ _ _ (by decide)), fun k h1 h2 => ?_, fun k hk => ?_⟩
      · rw [bX13_doNotesFit_19, if_neg (show ¬ (5 : Int32) ≤ nI i from nI_ge (b := 5) (by omega) (by omega)), M_lay hM, some_bind', M_gone hM, some_bind', Me_gone hM (by omega), some_bind', nI_5m, nI_add, Mu_lay hM (by omega), some_bind', nI_1]
        exact p1
      · by_cases e : k = i
        · rw [e, p5 _ (by omega), mA_eq, upd_at]
        · rw [p4 k (by omega) h2, mA_ne _ _ _ (by decide)]
      · rw [p5 k (by omega), mA_eq, upd_ne _ _ (by omega)]
  have outer : ∀ (f hh : Nat), f + hh = 61 → ∀ (m1 : MM) (u2 : Option Value), QM L xs sh x W m0 R wr m1 (noS W R wr hh) → (∀ h k, h < hh → k < W.2.1.1.2.2.2 → m1.2.1 43 (5 * h + k) = noW W R wr h k) → ∃ m2, RS (ZZ L xs) (d + 10) mX13_doNotesFit 6 [some (.ref 259), some (.int (nI hh)), u2] [] (HP sh (pM x m1)) = RS (ZZ L xs) (d + 10) mX13_doNotesFit 58 [some (.ref 259), some (.int 0), none] [] (HP sh (pM x m2)) ∧ MJ m0 m2 ∧ QM L xs sh x W m0 (RF W W.2.1.2.2.2.1.1) (W.2.1.1.1.1 5) m2 W.2.1.2.1 ∧ m2.2.1 44 = m1.2.1 44 ∧ ∀ h k, h ≤ 60 → k < W.2.1.1.2.2.2 → m2.2.1 43 (5 * h + k) = noW W R wr h k := by
    intro f
    induction f with
    | zero =>
      intro hh hhh m1 u2 q hA
      obtain ⟨l, l1, l2, l3, l4⟩ := Q_lay (L := L) (xs := xs) (x := x) (d + 6) hM hv hi q.1
      refine ⟨l, ?_, l2, l3, l4 44 (by decide), fun h k q1 q2 => by rw [l4 43 (by decide)]; exact hA h k (by omega) q2⟩
      rw [bX13_doNotesFit_6, if_pos (show (60 : Int32) < nI hh from nI_lt (a := 60) (by omega) (by omega)), M_is hM, some_bind', l1, some_bind']
    | succ f ih =>
      intro hh hhh m1 u2 q hA
      obtain ⟨g, g1, g2, g3, g4⟩ := Q_goes (L := L) (xs := xs) (x := x) (d + 2) hM hVT q
      have g3 : QM L xs sh x W m0 R wr g (noS W R wr (hh + 1)) := by
        unfold noS
        rw [roS_s]
        exact g3
      obtain ⟨m2, v2, p1, p2, p3, p4, p5⟩ := inner 5 0 rfl g _ hh (by omega) g3
      obtain ⟨m3, q1, q2, q3, q4, q5⟩ := ih (hh + 1) (by omega) m2 v2 p2 (fun h k h1 h2 => by
        by_cases e : h = hh
        · rw [e, p4 k (Nat.zero_le _) (by omega)]
          exact g4 k h2
        · rw [p5 _ (by omega), g2.2.1 43 (by decide) (by decide)]
          exact hA h k (by omega) h2)
      refine ⟨m3, ?_, q2, q3, q4.trans (p3.trans (g2.2.1 44 (by decide) (by decide))), q5⟩
      rw [bX13_doNotesFit_6, if_neg (show ¬ (60 : Int32) < nI hh from nI_nlt (a := 60) (by omega) (by omega)), M_is hM, some_bind', g1, some_bind']
      exact p1.trans q1
  obtain ⟨m2, p1, p2, p3, p4, p5⟩ := outer 61 0 rfl m1 none b2 (fun h k q1 _ => absurd q1 (by omega))
  have hi2 := MI_J p2 hv hi
  have notes : ∀ (f i : Nat), f + i = W.2.1.2.2.2.2.1 → ∀ (u2 : Option Value), RS (ZZ L xs) (d + 10) mX13_doNotesFit 58 [some (.ref 259), some (.int (nI i)), u2] [] (HP sh (pM x m2)) = some (HP sh (pM x m2), some (.int (fiF W R wr f i))) := by
    intro f
    induction f with
    | zero =>
      intro i hi3 u2
      rw [bX13_doNotesFit_58, M_scalar hM, some_bind', eI_l7, Me_scalar hM (by decide), some_bind', hi2.2.1.2.2.2.2.1, if_pos (nI_le (by omega) (by omega)), if_pos (by decide)]
      rfl
    | succ f ih =>
      intro i hi3 u2
      obtain ⟨n1, n2, n3, n4⟩ := no_n hv (i := i) (by omega)
      have r0 : m2.2.1 13 i = nI (noH W i) := (hi2.2.1.2.2.2.2.2 0 (by decide) i (by omega)).trans n1
      have r1 : m2.2.1 14 i = nI (noG W i) := (hi2.2.1.2.2.2.2.2 1 (by decide) i (by omega)).trans n3
      have r2 : m2.2.1 15 i = W.2.1.2.2.2.2.2 2 i := hi2.2.1.2.2.2.2.2 2 (by decide) i (by omega)
      rw [bX13_doNotesFit_58, M_scalar hM, some_bind', eI_l7, Me_scalar hM (by decide), some_bind', hi2.2.1.2.2.2.2.1, if_neg (nI_ge (by omega) (by omega)), M_lay hM, some_bind', M_noteHour hM, some_bind', Me_noteHour hM (by omega), some_bind', M_noteWho hM, some_bind', Me_noteWho hM (by omega), some_bind', r0, r1, nI_5m, nI_add, Me_lay hM (by omega), some_bind', M_noteWhom hM, some_bind', Me_noteWhom hM (by omega), some_bind', p5 _ _ n2 n4, r2, nI_1]
      unfold fiF
      by_cases ok : noO W R wr i
      · rw [if_pos (show noW W R wr (noH W i) (noG W i) = _ from ok), if_pos ok]
        exact ih (i + 1) (by omega) none
      · rw [if_neg (show ¬ noW W R wr (noH W i) (noG W i) = _ from ok), if_neg ok, if_pos (by decide)]
  refine ⟨m2, cI_of ?_, p2, p3, p4.trans (b3 44 (by decide)), p5⟩
  show RS (ZZ L xs) (d + 10) mX13_doNotesFit 0 [some (.ref 259), none, none] [] _ = _
  rw [bX13_doNotesFit_0, M_is hM, some_bind', b1, some_bind']
  exact p1.trans (notes _ 0 (by omega) none)
end
end NOTES
