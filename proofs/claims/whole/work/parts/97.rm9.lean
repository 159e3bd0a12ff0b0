/-! a rule told: both sides -/
section RM9
variable {L : Nat} {xs : Nat → Int32} {W : WD}
theorem j_wantL {sh : List Sh} {x : ST} {m : MM} {sl : Nat} (d : Nat) (hM : isMo sh) (h5 : sl ≤ 5) {u : Nat → Int64} {n : Nat} (hn : n ≤ 12) (h30 : m.2.1 30 sl = nI n) : ∀ (cl : List (EL × EL)) (k o : Nat) (J : Nat → Nat → Int64), PAo m.2.1 sl k o cl → EN m.2.1 (300 * sl) o (catC cl) → k + cl.length = n → o + (catC cl).length ≤ 300 → (∀ q, q ∈ cl → okC q) → u12 J u → ∃ J', RS (ZZ L xs) (d + 4) mX13_wanted 13 [some (.ref 259), some (.int (nI sl)), some (.int (nI (12 * sl + k)))] [] (HP sh (pM x (m.1, m.2.1, J))) = some (HP sh (pM x (m.1, m.2.1, J')), some (.long (rdl u cl))) := by
  intro cl
  induction cl with
  | nil =>
    intro k o J hP hE hk ho hok hu
    have hk : k = n := hk
    refine ⟨J, ?_⟩
    rw [bX13_wanted_13, M_clauses hM, some_bind', Me_clauses hM (show sl < 6 by omega), some_bind', show ((m.1, m.2.1, J) : MM).2.1 30 sl = nI n from h30, nI_12m, nI_add, if_pos (show nI (12 * sl + n) ≤ nI (12 * sl + k) by rw [hk]; exact Int32.le_refl _)]
    rfl
  | cons q cl ih =>
    intro k o J hP hE hk ho hok hu
    have hk2 : k + (cl.length + 1) = n := hk
    have hix : 12 * sl + k < 72 := by omega
    obtain ⟨⟨p1, p2, p3⟩, p4⟩ := hP
    have hcat : (catC (q :: cl)).length = q.1.length + q.2.length + (catC cl).length := by
      show (q.1 ++ q.2 ++ catC cl).length = _
      rw [List.length_append, List.length_append]
    obtain ⟨hE12, hE3⟩ := EN_app (catC cl) (q.1 ++ q.2) o hE
    obtain ⟨hE1, hE2⟩ := EN_app q.2 q.1 o hE12
    rw [List.length_append, ← Nat.add_assoc] at hE3
    obtain ⟨w1, w2⟩ := hok q List.mem_cons_self
    have b65 : ∀ J : Nat → Nat → Int64, u12 J u → ∃ J', RS (ZZ L xs) (d + 4) mX13_wanted 65 [some (.ref 259), some (.int (nI sl)), some (.int (nI (12 * sl + k)))] [] (HP sh (pM x (m.1, m.2.1, J))) = some (HP sh (pM x (m.1, m.2.1, J')), some (.long (evl u q.1))) := fun J hu => by
      obtain ⟨J', a1, a2⟩ := j_answer (L := L) (xs := xs) (x := x) (m := m) (sl := sl) d hM h5 w1 hE1 rfl (by omega) hu
      refine ⟨J', ?_⟩
      rw [bX13_wanted_65, M_sumAt hM, some_bind', Me_sumAt hM hix, some_bind', M_testAt hM, some_bind', Me_testAt hM hix, some_bind', M_is hM, some_bind', show ((m.1, m.2.1, J) : MM).2.1 31 (12 * sl + k) = nI o from p1, show ((m.1, m.2.1, J) : MM).2.1 32 (12 * sl + k) = nI (o + q.1.length) from p2, a1, some_bind']
    have b13 : RS (ZZ L xs) (d + 4) mX13_wanted 13 [some (.ref 259), some (.int (nI sl)), some (.int (nI (12 * sl + k)))] [] (HP sh (pM x (m.1, m.2.1, J))) = _ := bX13_wanted_13 (d + 3) 259 (nI sl) (nI (12 * sl + k)) (HP sh (pM x (m.1, m.2.1, J)))
    rw [M_clauses hM, some_bind', Me_clauses hM (show sl < 6 by omega), some_bind', show ((m.1, m.2.1, J) : MM).2.1 30 sl = nI n from h30, nI_12m, nI_add, if_neg (show ¬ nI (12 * sl + n) ≤ nI (12 * sl + k) from nI_ge (by omega) (by omega)), M_testAt hM, some_bind', Me_testAt hM hix, some_bind', M_endAt hM, some_bind', Me_endAt hM hix, some_bind', show ((m.1, m.2.1, J) : MM).2.1 32 (12 * sl + k) = nI (o + q.1.length) from p2, show ((m.1, m.2.1, J) : MM).2.1 33 (12 * sl + k) = nI (o + q.1.length + q.2.length) from p3] at b13
    have hrd : rdl u (q :: cl) = if q.2.length = 0 ∨ evl u q.2 = 1 then evl u q.1 else rdl u cl := rfl
    by_cases h0 : q.2.length = 0
    · obtain ⟨J', a1⟩ := b65 J hu
      refine ⟨J', ?_⟩
      rw [b13, if_pos (show nI (o + q.1.length) = nI (o + q.1.length + q.2.length) by rw [h0]; rfl), a1, hrd, if_pos (Or.inl h0)]
    · have hWT : WT q.2 := w2.elim (fun z => absurd (by rw [z]; rfl) h0) id
      obtain ⟨J1, a1, a2⟩ := j_answer (L := L) (xs := xs) (x := x) (m := m) (sl := sl) d hM h5 hWT.1 hE2 rfl (by omega) hu
      rw [if_neg (show ¬ nI (o + q.1.length) = nI (o + q.1.length + q.2.length) from fun z => h0 (by have := (nI_eq (a := o + q.1.length) (b := o + q.1.length + q.2.length) (by omega) (by omega)).mp z; omega)), some_bind', Me_testAt hM hix, some_bind', some_bind', Me_endAt hM hix, some_bind', show ((m.1, m.2.1, J) : MM).2.1 32 (12 * sl + k) = nI (o + q.1.length) from p2, show ((m.1, m.2.1, J) : MM).2.1 33 (12 * sl + k) = nI (o + q.1.length + q.2.length) from p3, M_is hM, some_bind', a1, some_bind'] at b13
      by_cases h1 : evl u q.2 = 1
      · obtain ⟨J', c1⟩ := b65 J1 a2
        refine ⟨J', ?_⟩
        rw [b13, if_neg (fun z => z (lg_eq.mpr h1)), c1, hrd, if_pos (Or.inr h1)]
      · obtain ⟨J', c1⟩ := ih (k + 1) (o + q.1.length + q.2.length) J1 p4 hE3 (by omega) (by omega) (fun r hr => hok r (List.mem_cons_of_mem _ hr)) a2
        refine ⟨J', ?_⟩
        rw [b13, if_pos (fun z => h1 (lg_eq.mp z)), nI_1, hrd, if_neg (fun z => z.elim h0 h1)]
        exact c1
theorem MRu_mk {m : MM} {sl : Nat} (h5 : sl ≤ 5) {cl : List (EL × EL)} (hn : cl.length ≤ 12) (h30 : m.2.1 30 sl = nI cl.length) (hP : PAo m.2.1 sl 0 0 cl) (hE : EN m.2.1 (300 * sl) 0 (catC cl)) (hl : (catC cl).length ≤ 300) (hok : ∀ q, q ∈ cl → okC q) : MRu L xs m sl (rDn cl) := by
  intro sh x d m' hd hM hs h9 wd hwd
  obtain ⟨d, rfl⟩ : ∃ d', d = d' + 1 := ⟨d - 1, by omega⟩
  have i28 : ∀ a j, (a = 28 ∨ a = 29) → 300 * sl ≤ j → j < 300 * sl + 300 → inSl a sl j := fun a j ha h1 h2 => by
    unfold inSl
    rw [if_pos (by omega)]
    exact ⟨h1, h2⟩
  have i31 : ∀ a j, (a = 31 ∨ a = 32 ∨ a = 33) → 12 * sl ≤ j → j < 12 * sl + 12 → inSl a sl j := fun a j ha h1 h2 => by
    unfold inSl
    rw [if_neg (by omega), if_neg (by omega)]
    exact ⟨h1, h2⟩
  have h30' : m'.2.1 30 sl = nI cl.length := (hs 30 (by decide) (by decide) sl (by unfold inSl; rw [if_neg (by decide), if_pos rfl])).trans h30
  have hP' : PAo m'.2.1 sl 0 0 cl := PAo_cg cl 0 0 (fun a ha j h1 h2 => hs a (by omega) (by omega) j (i31 a j ha (by omega) (by omega))) hP
  have hE' : EN m'.2.1 (300 * sl) 0 (catC cl) := EN_cg _ 0 (fun a ha j h1 h2 => hs a (by omega) (by omega) j (i28 a j ha (by omega) (by omega))) hE
  obtain ⟨J', a1⟩ := j_wantL (L := L) (xs := xs) (x := x) (m := m') (u := uW wd) (d) hM h5 hn h30' cl 0 0 m'.2.2 hP' hE' (Nat.zero_add _) (by omega) hok (fun k hk => (hwd k hk).trans (if_pos hk).symm)
  refine ⟨J', cJ_of ?_⟩
  show RS (ZZ L xs) (d + 4) mX13_wanted 0 [some (.ref 259), none, none] [] _ = _
  have e9 : eI (HP sh (pM x m')) (.ref 260) 9 = some (nI sl) := by
    rw [← h9]
    exact Me_scalar hM (j := 9) (by decide)
  rw [bX13_wanted_0, M_scalar hM, some_bind', e9, some_bind', nI_12m]
  exact a1
theorem CR_nil (m : MM) (sl : Nat) (h1 : m.1 33 = 0) (h2 : m.1 35 = 0) : CR m sl [] 0 = m := by
  refine Prod.ext (funext fun k => ?_) (Prod.ext (funext fun a => funext fun j => ?_) rfl)
  · show (if k = 33 then nI 0 else if k = 35 then nI 0 else m.1 k) = _
    by_cases h : k = 33
    · rw [if_pos h, h, h1]
      rfl
    · rw [if_neg h]
      by_cases g : k = 35
      · rw [if_pos g, g, h2]
        rfl
      · rw [if_neg g]
  · show (if a = 28 then (fun j => if 300 * sl ≤ j ∧ j < 300 * sl + 0 then _ else m.2.1 28 j) else if a = 29 then (fun j => if 300 * sl ≤ j ∧ j < 300 * sl + 0 then _ else m.2.1 29 j) else m.2.1 a) j = _
    by_cases h : a = 28
    · rw [if_pos h, h]
      show (if 300 * sl ≤ j ∧ j < 300 * sl + 0 then _ else m.2.1 28 j) = _
      rw [if_neg (by omega)]
    · rw [if_neg h]
      by_cases g : a = 29
      · rw [if_pos g, g]
        show (if 300 * sl ≤ j ∧ j < 300 * sl + 0 then _ else m.2.1 29 j) = _
        rw [if_neg (by omega)]
      · rw [if_neg g]
/-- how the reader of rules ends -/
def mE (m : MM) (p f nr n : Nat) : MM := mI (mA (mI (mS m p f) 28 0) 30 nr (nI n)) 32 (nI (if f = 0 then nr + 1 else nr))
theorem r_end {sh : List Sh} {x : ST} {m : MM} (d : Nat) (hM : isMo sh) {p f n nr : Nat} (h31 : m.1 31 = nI nr) (h32 : m.1 32 = nI nr) (hnr : nr < 6) (hf : f < 10000) : RK L xs sh x d n 0 (mS m p f) = some (HP sh (pM x (mE m p f nr n)), some (.int (if f = 0 then nI nr else -2 - nI f))) := by
  unfold RK mE
  rw [bX13_rule_27, if_pos rfl, Mw_taped hM, some_bind', M_clauses hM, some_bind', M_slot hM, some_bind', show (mI (mS m p f) 28 0).1 31 = nI nr from h31, Mu_clauses hM hnr, some_bind', M_rules hM, some_bind', show (mA (mI (mS m p f) 28 0) 30 nr (nI n)).1 32 = nI nr from h32, M_fault hM, some_bind', show (mA (mI (mS m p f) 28 0) 30 nr (nI n)).1 30 = nI f from rfl]
  by_cases h : f = 0
  · subst h
    rw [if_neg (fun z => z rfl), bX13_rule_79 (hw2 := rfl), nI_1, Mw_rules hM, some_bind', M_fault hM, some_bind', show (mI (mA (mI (mS m p 0) 28 0) 30 nr (nI n)) 32 (nI (nr + 1))).1 30 = 0 from rfl, if_pos (by decide), M_rules hM, some_bind', show (mI (mA (mI (mS m p 0) 28 0) 30 nr (nI n)) 32 (nI (nr + 1))).1 32 = nI (nr + 1) from rfl, nI_pred, bX13_rule_106, if_pos rfl, if_pos rfl]
  · rw [if_pos (nI_ne0 (by omega) (by omega)), bX13_rule_79 (hw2 := rfl), show nI nr + 0 = nI nr from Int32.add_zero _, Mw_rules hM, some_bind', M_fault hM, some_bind', show (mI (mA (mI (mS m p f) 28 0) 30 nr (nI n)) 32 (nI nr)).1 30 = nI f from rfl, if_neg (nI_nle (by omega) (by omega)), some_bind', bX13_rule_106, if_neg h, if_neg h]
theorem MI_mE {m m0 M : MM} {p f nr n : Nat} (h0 : ∀ k, k ≠ 31 → k ≠ 33 → k ≠ 34 → k ≠ 35 → m0.1 k = m.1 k) (h02 : m0.2.1 = m.2.1) (hR : RF2 m0 M nr) (hnr : W.2.2.2.1 = nr) (h6 : nr < 6) (hv : VW W) (hi : MI L xs m W) (R : Nat → (Nat → Int32) → Int64) (hR1 : ∀ i, i < nr → R i = W.2.2.2.2 i) (hR2 : f = 0 → MRu L xs (mE M p f nr n) nr (R nr)) : MI L xs (mE M p f nr n) ((0, W.1.2), W.2.1, W.2.2.1, (if f = 0 then nr + 1 else nr), R) := by
  obtain ⟨-, b0, c2, ⟨d1, d2⟩, e⟩ := hi
  obtain ⟨-, v1, v2, v3, -⟩ := hv
  have hF : ∀ k, k ≠ 28 → k ≠ 29 → k ≠ 30 → k ≠ 31 → k ≠ 32 → k ≠ 33 → k ≠ 34 → k ≠ 35 → k ≠ 36 → (mE M p f nr n).1 k = m.1 k := fun k q0 q1 q2 q3 q4 q5 q6 q7 q8 => by
    unfold mE
    rw [mI_ne _ _ q4]
    show (mI (mS M p f) 28 0).1 k = _
    rw [mI_ne _ _ q0]
    show (if k = 29 then _ else if k = 30 then _ else M.1 k) = _
    rw [if_neg q1, if_neg q2, hR.1 k q5 q6 q7 q8, h0 k q3 q5 q6 q7]
  have hA : ∀ a, (a < 28 ∨ 34 < a) → (mE M p f nr n).2.1 a = m.2.1 a := fun a ha => by
    show (mA (mI (mS M p f) 28 0) 30 nr (nI n)).2.1 a = _
    rw [mA_ne _ _ _ (by omega)]
    show M.2.1 a = _
    rw [hR.2.1 a (by omega) (by omega) (by omega) (by omega) (by omega) (by omega), h02]
  have hS : ∀ i, i < nr → ∀ a, 28 ≤ a → a ≤ 33 → ∀ j, inSl a i j → (mE M p f nr n).2.1 a j = m.2.1 a j := fun i hi a h1 h2 j hj => by
    show (mA (mI (mS M p f) 28 0) 30 nr (nI n)).2.1 a j = _
    unfold inSl at hj
    by_cases h30 : a = 30
    · subst h30
      rw [if_neg (by decide), if_pos rfl] at hj
      rw [mA_eq, upd_ne _ _ (by omega)]
      show M.2.1 30 j = _
      rw [hR.2.1 30 (by decide) (by decide) (by decide) (by decide) (by decide) (by decide), h02]
    · rw [mA_ne _ _ _ h30]
      show M.2.1 a j = _
      by_cases h29 : a ≤ 29
      · rw [if_pos h29] at hj
        rw [hR.2.2.1 a (by omega) j (by omega), h02]
      · rw [if_neg h29, if_neg h30] at hj
        rw [hR.2.2.2 a (by omega) j (by omega), h02]
  refine ⟨⟨?_, fun i hi => absurd hi (Nat.not_lt_zero i)⟩, MSc_q (m := m) ⟨hF 51 (by decide) (by decide) (by decide) (by decide) (by decide) (by decide) (by decide) (by decide) (by decide), fun a ha i _ => congrFun (hA a (by omega)) i⟩ v1.1 b0, fun k hk => ?_, ⟨?_, ?_⟩, fun i hi => ?_⟩
  · unfold mE
    rw [mI_ne _ _ (by decide)]
    show (mI (mS M p f) 28 0).1 28 = _
    rw [mI_eq]
    rfl
  · have h46 := congrFun (hA 46 (by omega)) k
    refine ⟨fun hg => h46.trans ((c2 k hk).1 hg), fun s hg => ⟨h46.trans ((c2 k hk).2 s hg).1, ?_⟩⟩
    exact MSc_q (unI_q fun t _ => congrFun (hA 45 (by omega)) _) (v2 k s hk hg).1 ((c2 k hk).2 s hg).2
  · unfold mE
    rw [mI_eq]
  · rw [hF 37 (by decide) (by decide) (by decide) (by decide) (by decide) (by decide) (by decide) (by decide) (by decide)]
    exact d2
  · have hi : i < (if f = 0 then nr + 1 else nr) := hi
    show MRu L xs (mE M p f nr n) i (R i)
    by_cases q : i < nr
    · rw [hR1 i q]
      exact MRu_fr (hS i q) (e i (by omega))
    · by_cases hf : f = 0
      · rw [if_pos hf] at hi
        have : i = nr := by omega
        subst this
        exact hR2 hf
      · rw [if_neg hf] at hi
        omega
theorem M_rule {sh : List Sh} {x : ST} {m : MM} (d : Nat) (hM : isMo sh) (hi : MI L xs m W) (hv : VW W) (h6 : W.2.2.2.1 < 6) : (∃ e, rRd W.1 13 0 (rn isB W.1 0) 0 [] = .inl e ∧ ∃ m', cI (ZZ L xs) (d + 60) mX13_rule [.ref 259] (HP sh (pM x m)) = some (HP sh (pM x m'), -2 - nI e) ∧ MI L xs m' ((0, W.1.2), W.2)) ∨ ∃ cl, rRd W.1 13 0 (rn isB W.1 0) 0 [] = .inr cl ∧ ∃ m', cI (ZZ L xs) (d + 60) mX13_rule [.ref 259] (HP sh (pM x m)) = some (HP sh (pM x m'), nI W.2.2.2.1) ∧ MI L xs m' ((0, W.1.2), W.2.1, W.2.2.1, addR W.2.2.2 (rDn cl)) := by
  obtain ⟨nr, hnr⟩ : ∃ nr, W.2.2.2.1 = nr := ⟨_, rfl⟩
  rw [hnr] at h6 ⊢
  have h32 : m.1 32 = nI nr := by rw [hi.2.2.2.1.1, hnr]
  obtain ⟨m0, hm0⟩ : ∃ m0, m0 = mI (mI (mI (mI m 31 (nI nr)) 33 0) 34 0) 35 0 := ⟨_, rfl⟩
  have f0 : ∀ k, k ≠ 31 → k ≠ 33 → k ≠ 34 → k ≠ 35 → m0.1 k = m.1 k := fun k q1 q2 q3 q4 => by rw [hm0, mI_ne _ _ q4, mI_ne _ _ q3, mI_ne _ _ q2, mI_ne _ _ q1]
  have h02 : m0.2.1 = m.2.1 := by rw [hm0]; rfl
  have h31 : m0.1 31 = nI nr := by rw [hm0]; rfl
  have hB : MB m0 W.1 nr := ⟨⟨(f0 28 (by decide) (by decide) (by decide) (by decide)).trans hi.1.1, fun i hi2 => by rw [h02]; exact hi.1.2 i hi2⟩, h31, (f0 37 (by decide) (by decide) (by decide) (by decide)).trans hi.2.2.2.1.2, by omega⟩
  have b0 : CL (ZZ L xs) (d + 60) mX13_rule [.ref 259] (HP sh (pM x m)) = _ := bX13_rule_0 (d + 59) 259 (HP sh (pM x m))
  rw [M_rules hM, some_bind', h32, if_pos (show ¬ nI nr = 6 from fun z => by have := (nI_eq (b := 6) (by omega) (by decide)).mp z; omega), some_bind', Mw_slot hM, some_bind', M_is hM, some_bind', v_startsM (d + 58) hM, some_bind', ← hm0] at b0
  have b0 : CL (ZZ L xs) (d + 60) mX13_rule [.ref 259] (HP sh (pM x m)) = RK L xs sh x (d + 49) 0 1 (mS (CR m0 nr (catC []) 0) 0 0) := by
    rw [b0, show CR m0 nr (catC []) 0 = m0 from CR_nil m0 nr (by rw [hm0]; rfl) (by rw [hm0]; rfl)]
    rfl
  rcases v_rulesL (L := L) (xs := xs) (x := x) (sl := nr) (d + 49) hM hv.1 13 0 m0 0 0 [] rfl (by decide) rfl hB (by rw [hm0]; rfl) (by decide) (by decide) (Nat.zero_le _) trivial (fun q hq => by cases hq) with ⟨e, m', p', n', e1, e2, e3, e4⟩ | ⟨cl, m', p', c', e1, e3, e4, e5, e6, e7, e8⟩
  · have hB' := MB_R e4 hB
    have h32' : m'.1 32 = nI nr := (e4.1 32 (by decide) (by decide) (by decide) (by decide)).trans ((f0 32 (by decide) (by decide) (by decide) (by decide)).trans h32)
    have hr := r_end (L := L) (xs := xs) (x := x) (n := n') (p := p') (f := e) (d + 49) hM hB'.2.1 h32' h6 e2.2
    rw [if_neg (show ¬ e = 0 by omega)] at hr
    refine Or.inl ⟨e, e1, _, cI_of (b0.trans (e3.trans hr)), ?_⟩
    have hmi := MI_mE (L := L) (xs := xs) (p := p') (f := e) (n := n') f0 h02 e4 hnr h6 hv hi W.2.2.2.2 (fun _ _ => rfl) (fun z => by omega)
    rw [if_neg (show ¬ e = 0 by omega), ← hnr] at hmi
    rw [← hnr]
    exact hmi
  · have e4' : RF2 m0 (CR m' nr (catC cl) c') nr := RF2_trans e4 (RF2_FRM (FRM_CR m' nr c' (by omega)))
    have hB' := MB_R e4 hB
    have h32' : m'.1 32 = nI nr := (e4.1 32 (by decide) (by decide) (by decide) (by decide)).trans ((f0 32 (by decide) (by decide) (by decide) (by decide)).trans h32)
    have hr := r_end (L := L) (xs := xs) (x := x) (m := CR m' nr (catC cl) c') (n := cl.length) (p := p') (f := 0) (d + 49) hM hB'.2.1 h32' h6 (by decide)
    rw [if_pos rfl] at hr
    refine Or.inr ⟨cl, e1, _, cI_of (b0.trans (e3.trans hr)), ?_⟩
    have hru : MRu L xs (mE (CR m' nr (catC cl) c') p' 0 nr cl.length) nr (rDn cl) := by
      refine MRu_mk (by omega) e6 ?_ ?_ ?_ (by omega) e8
      · show (mA (mI (mS (CR m' nr (catC cl) c') p' 0) 28 0) 30 nr (nI cl.length)).2.1 30 nr = _
        rw [mA_eq, upd_at]
      · refine PAo_cg cl 0 0 (fun a ha j _ _ => ?_) e5
        show (mA (mI (mS (CR m' nr (catC cl) c') p' 0) 28 0) 30 nr (nI cl.length)).2.1 a j = _
        rw [mA_ne _ _ _ (by omega)]
        show (if a = 28 then _ else if a = 29 then _ else m'.2.1 a) j = _
        rw [if_neg (by omega), if_neg (by omega)]
      · refine EN_cg _ 0 (fun a ha j _ _ => ?_) (EN_CR m' nr (catC cl) c')
        show (mA (mI (mS (CR m' nr (catC cl) c') p' 0) 28 0) 30 nr (nI cl.length)).2.1 a j = _
        rw [mA_ne _ _ _ (by omega)]
        rfl
    have hmi := MI_mE (L := L) (xs := xs) (p := p') (f := 0) (n := cl.length) f0 h02 e4' hnr h6 hv hi (fun i => if i = nr then rDn cl else W.2.2.2.2 i) (fun i h => if_neg (by omega)) (fun _ => by rw [if_pos rfl]; exact hru)
    have ha : addR W.2.2.2 (rDn cl) = (nr + 1, fun i => if i = nr then rDn cl else W.2.2.2.2 i) := by
      unfold addR
      rw [hnr]
    rw [ha]
    exact hmi
theorem VF_up {a b : Nat} (h : a ≤ b) {c : SCN} (hf : VF a c) : VF b c := hf.elim Or.inl (fun ⟨r, h1, h2⟩ => Or.inr ⟨r, by omega, h2⟩)
theorem VW_add (hv : VW W) (h6 : W.2.2.2.1 < 6) (cl : List (EL × EL)) : VW ((0, W.1.2), W.2.1, W.2.2.1, addR W.2.2.2 (rDn cl)) := by
  obtain ⟨-, ⟨v1, v2⟩, v3, v4, v5⟩ := hv
  have hle : W.2.2.2.1 ≤ (addR W.2.2.2 (rDn cl)).1 := Nat.le_succ _
  refine ⟨⟨Nat.zero_le _, fun i hi => absurd hi (Nat.not_lt_zero i)⟩, ⟨v1, VF_up hle v2⟩, fun k c hk hc => ⟨(v3 k c hk hc).1, VF_up hle (v3 k c hk hc).2⟩, h6, fun i hi => ?_⟩
  show cgF (if i = W.2.2.2.1 then rDn cl else W.2.2.2.2 i)
  have hi : i < W.2.2.2.1 + 1 := hi
  by_cases h : i = W.2.2.2.1
  · rw [if_pos h]
    exact cgF_r cl
  · rw [if_neg h]
    exact v5 i (by omega)
theorem Sp_rule (hv : VW W) : Step L xs W mX12_rule mX13_rule [] := by
  by_cases h6 : W.2.2.2.1 < 6
  · have hgr : ∀ sh : List Sh, Gr sh (sh ++ shRu sh.length) := fun sh => Gr_app (by show 7 ≤ 400; decide) (by show 10 + (60 + (60 + (60 + (60 + (256 + (256 + 0)))))) ≤ 6000; decide)
    rcases hR : rRd W.1 13 0 (rn isB W.1 0) 0 [] with e | cl
    · refine ⟨((0, W.1.2), W.2), -2 - nI e, fun sh y d hx => ?_, fun sh x m d hM hi => ?_⟩
      · rcases X_rule (L := L) (xs := xs) d hx hv h6 with ⟨e', q1, -, y', q2, q3, q4⟩ | ⟨cl, q1, -⟩
        · rw [hR] at q1
          cases q1
          exact ⟨sh, y', q2, q3, q4, Gr_refl _⟩
        · rw [hR] at q1
          cases q1
      · rcases M_rule (L := L) (xs := xs) (x := x) d hM hi hv h6 with ⟨e', q1, m', q2, q3⟩ | ⟨cl, q1, -⟩
        · rw [hR] at q1
          cases q1
          exact ⟨m', q2, q3, VW_t ⟨Nat.zero_le _, fun i hi => absurd hi (Nat.not_lt_zero i)⟩ hv⟩
        · rw [hR] at q1
          cases q1
    · refine ⟨((0, W.1.2), W.2.1, W.2.2.1, addR W.2.2.2 (rDn cl)), nI W.2.2.2.1, fun sh y d hx => ?_, fun sh x m d hM hi => ?_⟩
      · rcases X_rule (L := L) (xs := xs) d hx hv h6 with ⟨e', q1, -⟩ | ⟨cl', q1, y', q2, q3, q4⟩
        · rw [hR] at q1
          cases q1
        · rw [hR] at q1
          cases q1
          exact ⟨_, y', q2, q3, q4, hgr sh⟩
      · rcases M_rule (L := L) (xs := xs) (x := x) d hM hi hv h6 with ⟨e', q1, -⟩ | ⟨cl', q1, m', q2, q3⟩
        · rw [hR] at q1
          cases q1
        · rw [hR] at q1
          cases q1
          exact ⟨m', q2, q3, VW_add hv h6 cl⟩
  · have h : W.2.2.2.1 = 6 := by
      have := hv.2.2.2.1
      omega
    refine ⟨W, -1, Xsame fun sh y d hx => ?_, Msame hv fun sh x m d hM hi => ?_⟩
    · refine Eq.trans (bX12_rule_0 (d + 59) 0 (HP sh y)) ?_
      rw [WM_ruleCount hx.1.1.1, some_bind', show y.1 0 4 = nI W.2.2.2.1 from hx.2.2.2.2.2.2.1, h, if_neg (show ¬ (nI 6 : Int32) < 6 by decide)]
    · refine Eq.trans (bX13_rule_0 (d + 59) 259 (HP sh (pM x m))) ?_
      rw [M_rules hM, some_bind', hi.2.2.2.1.1, h, if_neg (show ¬ ¬ (nI 6 : Int32) = 6 by decide)]
end RM9
