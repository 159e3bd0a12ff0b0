/-! rules in the model: what a rule answers -/
def SK (J : Nat → Int64) : List Int64 → Prop
  | [] => True
  | v :: st => J st.length = v ∧ SK J st
theorem SK_cg {J K : Nat → Int64} : ∀ st : List Int64, (∀ j, j < st.length → K j = J j) → SK J st → SK K st
  | [], _, _ => trivial
  | v :: st, h, g => ⟨(h st.length (Nat.lt_succ_self _)).trans g.1, SK_cg st (fun j hj => h j (Nat.lt_succ_of_lt hj)) g.2⟩
def EN (A : Nat → Nat → Int32) (b : Nat) : Nat → EL → Prop
  | _, [] => True
  | i, q :: l => (A 28 (b + i) = nI q.1 ∧ A 29 (b + i) = nI q.2) ∧ EN A b (i + 1) l
theorem EN_cg {A B : Nat → Nat → Int32} {b : Nat} : ∀ (l : EL) (i : Nat), (∀ a, (a = 28 ∨ a = 29) → ∀ j, b + i ≤ j → j < b + i + l.length → B a j = A a j) → EN A b i l → EN B b i l
  | [], _, _, _ => trivial
  | q :: l, i, h, g => by
    have hl : (q :: l).length = l.length + 1 := rfl
    exact ⟨⟨(h 28 (Or.inl rfl) _ (Nat.le_refl _) (by omega)).trans g.1.1, (h 29 (Or.inr rfl) _ (Nat.le_refl _) (by omega)).trans g.1.2⟩, EN_cg l (i + 1) (fun a ha j h1 h2 => h a ha j (by omega) (by omega)) g.2⟩
theorem EN_app {A : Nat → Nat → Int32} {b : Nat} (l2 : EL) : ∀ (l1 : EL) (i : Nat), EN A b i (l1 ++ l2) → EN A b i l1 ∧ EN A b (i + l1.length) l2
  | [], _, h => ⟨trivial, h⟩
  | q :: l, i, h => by
    obtain ⟨h1, h2⟩ := EN_app l2 l (i + 1) h.2
    refine ⟨⟨h.1, h1⟩, ?_⟩
    rw [show i + (q :: l).length = i + 1 + l.length by show i + (l.length + 1) = _; omega]
    exact h2
theorem EN_of {A : Nat → Nat → Int32} {b : Nat} : ∀ (l : EL) (i : Nat), (∀ j, j < l.length → A 28 (b + (i + j)) = nI (l.getD j (0, 0)).1 ∧ A 29 (b + (i + j)) = nI (l.getD j (0, 0)).2) → EN A b i l
  | [], _, _ => trivial
  | q :: l, i, h => ⟨h 0 (Nat.succ_pos _), EN_of l (i + 1) (fun j hj => by
      have := h (j + 1) (Nat.succ_lt_succ hj)
      rw [show i + 1 + j = i + (j + 1) by omega]
      exact this)⟩
theorem EN_CR (m : MM) (sl : Nat) (l : EL) (c : Nat) : EN (CR m sl l c).2.1 (300 * sl) 0 l := EN_of l 0 fun j hj => by
  constructor
  · show (if 300 * sl ≤ 300 * sl + (0 + j) ∧ 300 * sl + (0 + j) < 300 * sl + l.length then _ else _) = _
    rw [if_pos (by omega), show 300 * sl + (0 + j) - 300 * sl = j by omega]
  · show (if 300 * sl ≤ 300 * sl + (0 + j) ∧ 300 * sl + (0 + j) < 300 * sl + l.length then _ else _) = _
    rw [if_pos (by omega), show 300 * sl + (0 + j) - 300 * sl = j by omega]
theorem nI_m1' (n : Nat) : nI (n + 1) + (-1) = nI n := (Int32.sub_eq_add_neg _ _).symm.trans (nI_pred n)
theorem rpO_9 (u : Nat → Int64) {k : Nat} (v : Nat) (hk : k = 9) : rpO u k v [] = none ∧ ∀ a st, rpO u k v (a :: st) = some ((1 - a) :: st) := by
  subst hk
  exact ⟨rfl, fun _ _ => rfl⟩
theorem rpO_b (u : Nat → Int64) {k : Nat} (v : Nat) (hk : isBn k) : rpO u k v [] = none ∧ (∀ b, rpO u k v [b] = none) ∧ ∀ b a st, rpO u k v (b :: a :: st) = some (bo k a b :: st) := by
  refine ⟨?_, fun b => ?_, fun b a st => ?_⟩
  · unfold rpO
    rw [if_neg hk.1, if_neg hk.2.1, if_neg hk.2.2.1]
  · unfold rpO
    rw [if_neg hk.1, if_neg hk.2.1, if_neg hk.2.2.1]
  · unfold rpO
    rw [if_neg hk.1, if_neg hk.2.1, if_neg hk.2.2.1]
section RM8
variable {L : Nat} {xs : Nat → Int32} {sh : List Sh} {x : ST} {m : MM} {sl : Nat}
theorem j_truth (d : Nat) (t : Int32) (ph : PH) : cJ (ZZ L xs) (d + 1) mX13_truth [.int t] ph = some (ph, if t = 0 then 0 else 1) := by
  refine cJ_of ?_
  show RS (ZZ L xs) (d + 1) mX13_truth 0 [some (.int t)] [] ph = _
  rw [bX13_truth_0]
  by_cases h : t = 0
  · rw [if_pos h, if_pos h, bX13_truth_9]
  · rw [if_neg h, if_neg h, bX13_truth_9]
theorem j_both (d : Nat) {k : Nat} (hk : isBn k) (a b : Int64) (ph : PH) : cJ (ZZ L xs) (d + 2) mX13_both [.int (nI k), .long a, .long b] ph = some (ph, bo k a b) := by
  refine cJ_of ?_
  show RS (ZZ L xs) (d + 2) mX13_both 0 [some (.int (nI k)), some (.long a), none, some (.long b), none] [] ph = _
  have t0 : cJ (ZZ L xs) (d + 1) mX13_truth [.int 0] ph = some (ph, 0) := j_truth d 0 ph
  have t1 : cJ (ZZ L xs) (d + 1) mX13_truth [.int 1] ph = some (ph, 1) := j_truth d 1 ph
  have : k = 2 ∨ k = 3 ∨ k = 4 ∨ k = 5 ∨ k = 6 ∨ k = 7 ∨ k = 8 ∨ k = 10 ∨ k = 11 ∨ k = 12 ∨ k = 13 ∨ k = 14 ∨ k = 15 := by
    unfold isBn at hk
    omega
  rcases this with rfl | rfl | rfl | rfl | rfl | rfl | rfl | rfl | rfl | rfl | rfl | rfl | rfl
  · rw [bX13_both_0, if_pos (by decide), bX13_both_72]
    rfl
  · rw [bX13_both_0, if_neg (by decide), if_pos (by decide), bX13_both_76]
    rfl
  · rw [bX13_both_0, if_neg (by decide), if_neg (by decide), if_pos (by decide), bX13_both_112, show bo 4 a b = tr1 (a < b) from rfl]
    unfold tr1
    by_cases h : a < b
    · rw [if_neg (Int32.not_le.mpr (lg_lt.mpr h)), bX13_both_123, t1, some_bind', if_pos h]
    · rw [if_pos (Int32.not_lt.mp (fun z => h (lg_lt.mp z))), bX13_both_123, t0, some_bind', if_neg h]
  · rw [bX13_both_0, if_neg (by decide), if_neg (by decide), if_neg (by decide), if_pos (by decide), bX13_both_127, show bo 5 a b = tr1 (a ≤ b) from rfl]
    unfold tr1
    by_cases h : a ≤ b
    · rw [if_neg (fun z => absurd h (Int64.not_le.mpr (lg_gt.mp z))), bX13_both_138, t1, some_bind', if_pos h]
    · rw [if_pos (lg_gt.mpr (Int64.not_le.mp h)), bX13_both_138, t0, some_bind', if_neg h]
  · rw [bX13_both_0, if_neg (by decide), if_neg (by decide), if_neg (by decide), if_neg (by decide), if_pos (by decide), bX13_both_142, show bo 6 a b = tr1 (a = b) from rfl]
    unfold tr1
    by_cases h : a = b
    · rw [if_neg (fun z => z (lg_eq.mpr h)), bX13_both_153, t1, some_bind', if_pos h]
    · rw [if_pos (fun z => h (lg_eq.mp z)), bX13_both_153, t0, some_bind', if_neg h]
  · rw [bX13_both_0, if_neg (by decide), if_neg (by decide), if_neg (by decide), if_neg (by decide), if_neg (by decide), if_pos (by decide), bX13_both_157, show bo 7 a b = tr1 (b ≤ a) from rfl]
    unfold tr1
    by_cases h : b ≤ a
    · rw [if_neg (fun z => absurd h (Int64.not_le.mpr (lg_lt.mp z))), bX13_both_168, t1, some_bind', if_pos h]
    · rw [if_pos (lg_lt.mpr (Int64.not_le.mp h)), bX13_both_168, t0, some_bind', if_neg h]
  · rw [bX13_both_0, if_neg (by decide), if_neg (by decide), if_neg (by decide), if_neg (by decide), if_neg (by decide), if_neg (by decide), if_pos (by decide), bX13_both_172, show bo 8 a b = tr1 (b < a) from rfl]
    unfold tr1
    by_cases h : b < a
    · rw [if_neg (fun z => lg_le.mp z h), bX13_both_183, t1, some_bind', if_pos h]
    · rw [if_pos (lg_le.mpr h), bX13_both_183, t0, some_bind', if_neg h]
  · rw [bX13_both_0, if_neg (by decide), if_neg (by decide), if_neg (by decide), if_neg (by decide), if_neg (by decide), if_neg (by decide), if_neg (by decide), if_neg (by decide), if_pos (by decide), bX13_both_187]
    rfl
  · rw [bX13_both_0, if_neg (by decide), if_neg (by decide), if_neg (by decide), if_neg (by decide), if_neg (by decide), if_neg (by decide), if_neg (by decide), if_neg (by decide), if_neg (by decide), if_pos (by decide), bX13_both_191]
    rfl
  · rw [bX13_both_0, if_neg (by decide), if_neg (by decide), if_neg (by decide), if_neg (by decide), if_neg (by decide), if_neg (by decide), if_neg (by decide), if_neg (by decide), if_neg (by decide), if_neg (by decide), if_pos (by decide), bX13_both_191]
    rfl
  · rw [bX13_both_0, if_neg (by decide), if_neg (by decide), if_neg (by decide), if_neg (by decide), if_neg (by decide), if_neg (by decide), if_neg (by decide), if_neg (by decide), if_neg (by decide), if_neg (by decide), if_neg (by decide), if_pos (by decide), bX13_both_80]
    rfl
  · rw [bX13_both_0, if_neg (by decide), if_neg (by decide), if_neg (by decide), if_neg (by decide), if_neg (by decide), if_neg (by decide), if_neg (by decide), if_neg (by decide), if_neg (by decide), if_neg (by decide), if_neg (by decide), if_neg (by decide), if_pos (by decide), bX13_both_84, show bo 14 a b = (if b = 0 then 0 else a / b) from rfl]
    by_cases h : b = 0
    · rw [if_neg (fun z => z (lg_eq.mpr h)), bX13_both_97, if_pos h]
    · rw [if_pos (fun z => h (lg_eq.mp z)), if_neg h, bX13_both_97, if_neg h]
  · rw [bX13_both_0, if_neg (by decide), if_neg (by decide), if_neg (by decide), if_neg (by decide), if_neg (by decide), if_neg (by decide), if_neg (by decide), if_neg (by decide), if_neg (by decide), if_neg (by decide), if_neg (by decide), if_neg (by decide), if_neg (by decide), if_pos (by decide), bX13_both_98, show bo 15 a b = (if b = 0 then 0 else lRem a b) from rfl]
    by_cases h : b = 0
    · rw [if_neg (fun z => z (lg_eq.mpr h)), bX13_both_111, if_pos h]
    · rw [if_pos (fun z => h (lg_eq.mp z)), if_neg h, bX13_both_111, if_neg h]
def u12 (J : Nat → Nat → Int64) (u : Nat → Int64) : Prop := ∀ k, k < 12 → J 35 k = u k
theorem j_ansL (d : Nat) (hM : isMo sh) (h5 : sl ≤ 5) {u : Nat → Int64} {v : Int64} {e : Nat} : ∀ (l : EL) (i : Nat) (st : List Int64) (J : Nat → Nat → Int64) (u2 : Option Value), EN m.2.1 (300 * sl) i l → okL l → i + l.length = e → e ≤ 300 → st.length + l.length ≤ 300 → SK (J 36) st → u12 J u → rp u l st = some [v] → ∃ J', RS (ZZ L xs) (d + 3) mX13_answer 6 [some (.ref 259), some (.int (nI sl)), u2, some (.int (nI e)), some (.int (nI st.length)), some (.int (nI i)), none, none] [] (HP sh (pM x (m.1, m.2.1, J))) = some (HP sh (pM x (m.1, m.2.1, J')), some (.long v)) ∧ u12 J' u := by
  intro l
  induction l with
  | nil =>
    intro i st J u2 hE hok hi he hst hS hu hr
    cases hr
    have hi : i = e := hi
    refine ⟨J, ?_, hu⟩
    rw [bX13_answer_6, if_pos (show nI e ≤ nI i by rw [hi]; exact Int32.le_refl _), M_stack hM, some_bind', show eL (HP sh (pM x (m.1, m.2.1, J))) (.ref 296) 0 = _ from Me_stack hM (j := 0) (by decide), some_bind', show ((m.1, m.2.1, J) : MM).2.2 36 0 = v from hS.1]
  | cons q l ih =>
    intro i st J u2 hE hok hi he hst hS hu hr
    have hll : (q :: l).length = l.length + 1 := rfl
    have hq := hok q List.mem_cons_self
    have hok2 : okL l := fun r hr => hok r (List.mem_cons_of_mem _ hr)
    have b0 : RS (ZZ L xs) (d + 3) mX13_answer 6 [some (.ref 259), some (.int (nI sl)), u2, some (.int (nI e)), some (.int (nI st.length)), some (.int (nI i)), none, none] [] (HP sh (pM x (m.1, m.2.1, J))) = _ := bX13_answer_6 (d + 2) 259 (nI sl) u2 (nI e) (nI st.length) (nI i) none none (HP sh (pM x (m.1, m.2.1, J)))
    rw [if_neg (show ¬ nI e ≤ nI i from nI_ge (by omega) (by omega)), M_sort hM, some_bind', nI_300m, nI_add, Me_sort hM (show 300 * sl + i < 1800 by omega), some_bind', M_number hM, some_bind', Me_number hM (show 300 * sl + i < 1800 by omega), some_bind', show ((m.1, m.2.1, J) : MM).2.1 28 (300 * sl + i) = nI q.1 from hE.1.1, show ((m.1, m.2.1, J) : MM).2.1 29 (300 * sl + i) = nI q.2 from hE.1.2] at b0
    have hrp : (rpO u q.1 q.2 st).bind (rp u l) = some [v] := hr
    have push : ∀ w : Int64, rpO u q.1 q.2 st = some (w :: st) → (∀ (u6 u7 : Option Value), RS (ZZ L xs) (d + 3) mX13_answer 77 [some (.ref 259), some (.int (nI sl)), none, some (.int (nI e)), some (.int (nI st.length)), some (.int (nI i)), u6, u7] [.long w, .int (nI st.length), .ref 296] (HP sh (pM x (m.1, m.2.1, J))) = RS (ZZ L xs) (d + 3) mX13_answer 6 [some (.ref 259), some (.int (nI sl)), none, some (.int (nI e)), some (.int (nI (w :: st).length)), some (.int (nI (i + 1))), none, none] [] (HP sh (pM x (m.1, m.2.1, (mL (m.1, m.2.1, J) 36 st.length w).2.2)))) ∧ ∃ J', RS (ZZ L xs) (d + 3) mX13_answer 6 [some (.ref 259), some (.int (nI sl)), none, some (.int (nI e)), some (.int (nI (w :: st).length)), some (.int (nI (i + 1))), none, none] [] (HP sh (pM x (m.1, m.2.1, (mL (m.1, m.2.1, J) 36 st.length w).2.2))) = some (HP sh (pM x (m.1, m.2.1, J')), some (.long v)) ∧ u12 J' u := fun w hw => by
      constructor
      · intro u6 u7
        rw [bX13_answer_77 (hw2 := rfl), Mu_stack hM (show st.length < 300 by omega), some_bind', bX13_answer_147, nI_1, nI_1]
        rfl
      · rw [hw, some_bind'] at hrp
        refine ih (i + 1) (w :: st) _ none hE.2 hok2 (by omega) he (by show st.length + 1 + l.length ≤ 300; omega) ?_ (fun k hk => (congrFun (mL_ne (m.1, m.2.1, J) (a := 36) (b := 35) st.length w (by decide)) k).trans (hu k hk)) hrp
        rw [mL_eq]
        refine ⟨?_, SK_cg st (fun j hj => ?_) hS⟩
        · exact updL_at _ _ _
        · exact updL_ne _ _ (by omega)
    by_cases k0 : q.1 = 0
    · have hw : rpO u q.1 q.2 st = some ((nI q.2).toInt64 :: st) := by
        unfold rpO
        rw [if_pos k0]
      obtain ⟨p1, J', p2, p3⟩ := push _ hw
      refine ⟨J', ?_, p3⟩
      rw [b0, if_pos (show nI q.1 = 0 by rw [k0]; rfl), bX13_answer_53, M_stack hM, some_bind', if_neg (fun z => z (by rw [k0]; rfl)), p1]
      exact p2
    · have n0 : ¬ nI q.1 = 0 := nI_ne0 (by omega) (by omega)
      by_cases k1 : q.1 = 1
      · have hw : rpO u q.1 q.2 st = some (u q.2 :: st) := by
          unfold rpO
          rw [if_neg k0, if_pos k1]
        obtain ⟨p1, J', p2, p3⟩ := push _ hw
        refine ⟨J', ?_, p3⟩
        rw [b0, if_neg n0, if_neg (fun z => z (by rw [k1]; rfl)), bX13_answer_53, M_stack hM, some_bind', if_pos n0, M_asked hM, some_bind', Me_asked hM (hq.2 k1), some_bind', show ((m.1, m.2.1, J) : MM).2.2 35 q.2 = u q.2 from hu _ (hq.2 k1), p1]
        exact p2
      · have n1 : ¬ nI q.1 = 1 := fun z => k1 ((nI_eq (b := 1) (by omega) (by decide)).mp z)
        rw [if_neg n0, if_pos n1] at b0
        have put : ∀ (w : Int64) (st1 : List Int64), st1.length < 300 → st1.length + 1 + l.length ≤ 300 → rpO u q.1 q.2 st = some (w :: st1) → SK (J 36) st1 → ∃ J', RS (ZZ L xs) (d + 3) mX13_answer 6 [some (.ref 259), some (.int (nI sl)), none, some (.int (nI e)), some (.int (nI (st1.length + 1))), some (.int (nI (i + 1))), none, none] [] (HP sh (pM x (mL (m.1, m.2.1, J) 36 st1.length w))) = some (HP sh (pM x (m.1, m.2.1, J')), some (.long v)) ∧ u12 J' u := fun w st1 h1 h2 hw hS1 => by
          rw [hw, some_bind'] at hrp
          refine ih (i + 1) (w :: st1) _ none hE.2 hok2 (by omega) he h2 ?_ (fun k hk => (congrFun (mL_ne (m.1, m.2.1, J) (a := 36) (b := 35) st1.length w (by decide)) k).trans (hu k hk)) hrp
          show SK ((mL (m.1, m.2.1, J) 36 st1.length w).2.2 36) (w :: st1)
          rw [mL_eq]
          refine ⟨?_, SK_cg st1 (fun j hj => ?_) hS1⟩
          · exact updL_at _ _ _
          · exact updL_ne _ _ (by omega)
        by_cases k9 : q.1 = 9
        · obtain ⟨r1, r2⟩ := rpO_9 u q.2 k9
          cases st with
          | nil =>
            rw [r1] at hrp
            cases hrp
          | cons a st1 =>
            have hst1 : (a :: st1).length = st1.length + 1 := rfl
            obtain ⟨J', p2, p3⟩ := put (1 - a) st1 (by omega) (by omega) (r2 a st1) hS.2
            refine ⟨J', ?_, p3⟩
            rw [b0, if_neg (fun z => z (by rw [k9]; rfl)), M_stack hM, some_bind', some_bind', hst1, nI_pred, Me_stack hM (show st1.length < 300 by omega), some_bind', show ((m.1, m.2.1, J) : MM).2.2 36 st1.length = a from hS.1, Mu_stack hM (show st1.length < 300 by omega), some_bind', bX13_answer_147, nI_1]
            exact p2
        · have hbn : isBn q.1 := ⟨k0, k1, k9, hq.1⟩
          obtain ⟨r1, r2, r3⟩ := rpO_b u q.2 hbn
          cases st with
          | nil =>
            rw [r1] at hrp
            cases hrp
          | cons b st0 =>
            cases st0 with
            | nil =>
              rw [r2] at hrp
              cases hrp
            | cons a st1 =>
              have hst1 : (b :: a :: st1).length = st1.length + 1 + 1 := rfl
              obtain ⟨J', p2, p3⟩ := put (bo q.1 a b) st1 (by omega) (by omega) (r3 b a st1) hS.2.2
              refine ⟨J', ?_, p3⟩
              rw [b0, if_pos (show ¬ nI q.1 = 9 from fun z => k9 ((nI_eq (b := 9) (by omega) (by decide)).mp z)), M_stack hM, some_bind', some_bind', hst1, nI_m1', nI_pred, Me_stack hM (show st1.length < 300 by omega), some_bind', show ((m.1, m.2.1, J) : MM).2.2 36 st1.length = a from hS.2.1, some_bind', Me_stack hM (show st1.length + 1 < 300 by omega), some_bind', show ((m.1, m.2.1, J) : MM).2.2 36 (st1.length + 1) = b from hS.1, j_both d hbn, some_bind', Mu_stack hM (show st1.length < 300 by omega), some_bind', bX13_answer_147, nI_1]
              exact p2
theorem j_answer (d : Nat) (hM : isMo sh) (h5 : sl ≤ 5) {u : Nat → Int64} {l : EL} (hW : WF l) {i e : Nat} {J : Nat → Nat → Int64} (hE : EN m.2.1 (300 * sl) i l) (he : i + l.length = e) (he3 : e ≤ 300) (hu : u12 J u) : ∃ J', cJ (ZZ L xs) (d + 3) mX13_answer [.ref 259, .int (nI sl), .int (nI i), .int (nI e)] (HP sh (pM x (m.1, m.2.1, J))) = some (HP sh (pM x (m.1, m.2.1, J')), evl u l) ∧ u12 J' u := by
  obtain ⟨J', a1, a2⟩ := j_ansL (L := L) (xs := xs) (x := x) (m := m) d hM h5 (u := u) (v := evl u l) l i [] J (some (.int (nI i))) hE hW.2 he he3 (by show 0 + l.length ≤ 300; omega) trivial hu (WF_s hW u [])
  refine ⟨J', cJ_of ?_, a2⟩
  show RS (ZZ L xs) (d + 3) mX13_answer 0 [some (.ref 259), some (.int (nI sl)), some (.int (nI i)), some (.int (nI e)), none, none, none, none] [] _ = _
  rw [bX13_answer_0]
  exact a1
end RM8
