/-! rules in the model: tests, by what stands open -/
def BF (m m' : MM) : Prop := (∀ k, k ≠ 34 → k ≠ 36 → m'.1 k = m.1 k) ∧ ∀ a, a ≠ 34 → m'.2.1 a = m.2.1 a
theorem BF_refl (m : MM) : BF m m := ⟨fun _ _ _ => rfl, fun _ _ => rfl⟩
theorem BF_trans {a b c : MM} (h : BF a b) (g : BF b c) : BF a c := ⟨fun k h1 h2 => (g.1 k h1 h2).trans (h.1 k h1 h2), fun r hr => (g.2 r hr).trans (h.2 r hr)⟩
theorem BF_FRM {m m' : MM} (sl : Nat) (h : BF m m') : FRM m m' sl := ⟨fun k _ h2 _ h4 => h.1 k h2 h4, fun a _ _ h3 => h.2 a h3, fun a ha j _ => by rw [h.2 a (by omega)]⟩
theorem BF_MB {m m' : MM} {T : TP} {sl : Nat} (h : BF m m') (hB : MB m T sl) : MB m' T sl := FRM_MB (BF_FRM sl h) hB
def SKP (m : MM) (stk : List Nat) (dp : Nat) : Prop := m.1 36 = nI stk.length ∧ m.1 34 = nI dp ∧ ∀ j, j < stk.length → m.2.1 34 j = nI (stk.getD j 0)
theorem CR_I (m : MM) (sl : Nat) (l : EL) (c p f : Nat) {k : Nat} (hk : k = 34 ∨ k = 36) (v : Int32) : mI (mS (CR m sl l c) p f) k v = mS (CR (mI m k v) sl l c) p f := by
  refine Prod.ext (funext fun j => ?_) rfl
  show (if j = k then v else if j = 29 then nI p else if j = 30 then nI f else if j = 33 then nI l.length else if j = 35 then nI c else m.1 j) = (if j = 29 then nI p else if j = 30 then nI f else if j = 33 then nI l.length else if j = 35 then nI c else if j = k then v else m.1 j)
  by_cases h : j = k
  · rw [if_pos h, if_neg (by omega), if_neg (by omega), if_neg (by omega), if_neg (by omega), if_pos h]
  · rw [if_neg h, if_neg h]
theorem CR_A (m : MM) (sl : Nat) (l : EL) (c p f j : Nat) (v : Int32) : mA (mS (CR m sl l c) p f) 34 j v = mS (CR (mA m 34 j v) sl l c) p f := by
  refine Prod.ext rfl (Prod.ext (funext fun a => ?_) rfl)
  show (if a = 34 then upd (m.2.1 34) j v else if a = 28 then _ else if a = 29 then _ else m.2.1 a) = (if a = 28 then _ else if a = 29 then _ else if a = 34 then upd (m.2.1 34) j v else m.2.1 a)
  by_cases h : a = 34
  · rw [if_pos h, if_neg (by omega), if_neg (by omega), if_pos h]
  · rw [if_neg h, if_neg h]
    rfl
theorem nd_lt {s0 : List Nat} {k j : Nat} (h : j < s0.length) : (s0 ++ [k]).getD j 0 = s0.getD j 0 := by
  rw [List.getD_eq_getElem?_getD, List.getD_eq_getElem?_getD, List.getElem?_append_left h]
theorem nd_eq (s0 : List Nat) (k : Nat) : (s0 ++ [k]).getD s0.length 0 = k := by
  rw [List.getD_eq_getElem?_getD]
  simp
section RM3
variable {L : Nat} {xs : Nat → Int32} {sh : List Sh} {x : ST} {T : TP} {sl : Nat}
def lastK (stk : List Nat) : Int32 := if stk.length = 0 then -1 else nI (stk.getD (stk.length - 1) 0)
theorem lastK_app (s0 : List Nat) (k : Nat) : lastK (s0 ++ [k]) = nI k := by
  unfold lastK
  have h : (s0 ++ [k]).length = s0.length + 1 := by simp
  rw [h, if_neg (by omega), show s0.length + 1 - 1 = s0.length by omega, nd_eq]
theorem i_topM (d : Nat) (hM : isMo sh) {m : MM} {stk : List Nat} {dp p f c : Nat} {l : EL} (hs : SKP m stk dp) (hl : stk.length < 402) : cI (ZZ L xs) (d + 1) mX13_top [.ref 259] (HP sh (pM x (mS (CR m sl l c) p f))) = some (HP sh (pM x (mS (CR m sl l c) p f)), lastK stk) := by
  refine cI_of ?_
  show RS (ZZ L xs) (d + 1) mX13_top 0 [some (.ref 259)] [] _ = _
  rw [bX13_top_0, M_opened hM, some_bind', show (mS (CR m sl l c) p f).1 36 = nI stk.length from hs.1]
  unfold lastK
  by_cases h : stk.length = 0
  · rw [if_neg (fun z => z (by rw [h]; rfl)), if_pos h, bX13_top_22]
  · rw [if_pos (nI_ne0 (by omega) (by omega)), if_neg h, M_openAt hM, some_bind', some_bind', nI_m1 (by omega), Me_openAt hM (by omega), some_bind', bX13_top_22, show (mS (CR m sl l c) p f).2.1 34 (stk.length - 1) = nI (stk.getD (stk.length - 1) 0) from hs.2.2 _ (by omega)]
/-- one thing more stands open -/
theorem SKP_push {m : MM} {stk : List Nat} {dp : Nat} (hs : SKP m stk dp) (k dp' : Nat) : SKP (mI (mA (mI m 34 (nI dp')) 34 stk.length (nI k)) 36 (nI (stk.length + 1))) (stk ++ [k]) dp' := by
  have h : (stk ++ [k]).length = stk.length + 1 := by simp
  refine ⟨by rw [h]; exact mI_eq _ _ _, ?_, fun j hj => ?_⟩
  · rw [mI_ne _ _ (by decide)]
    show (mI m 34 (nI dp')).1 34 = nI dp'
    exact mI_eq _ _ _
  · rw [h] at hj
    show (mA (mI m 34 (nI dp')) 34 stk.length (nI k)).2.1 34 j = _
    rw [mA_eq]
    by_cases e : j = stk.length
    · rw [e, upd_at, nd_eq]
    · rw [upd_ne _ _ e, nd_lt (by omega)]
      exact hs.2.2 j (by omega)
theorem BF_push (m : MM) (a j b : Int32) (i : Nat) : BF m (mI (mA (mI m 34 a) 34 i j) 36 b) := ⟨fun k h1 h2 => by rw [mI_ne _ _ h2]; exact mI_ne _ _ h1, fun r hr => mA_ne _ _ _ hr⟩
theorem v_opensM (d : Nat) (hM : isMo sh) {m : MM} {stk : List Nat} {dp p c k : Nat} {l : EL} (hs : SKP m stk dp) (hl : stk.length < 402) (hk : k = 9 ∨ k = 12 ∨ k = 10 ∨ k = 11) (hdp : dp ≤ 10) : ∃ m', cV (ZZ L xs) (d + 2) mX13_opens [.ref 259, .int (nI k)] (HP sh (pM x (mS (CR m sl l c) p 0))) = some (HP sh (pM x (mS (CR m' sl l c) p (if (k = 9 ∨ k = 12) ∧ dp = 10 then ft p 2 else 0)))) ∧ SKP m' (stk ++ [k]) (if k = 9 ∨ k = 12 then dp + 1 else dp) ∧ BF m m' := by
  have b40 : ∀ (f2 : Nat) (v : Int32), RS (ZZ L xs) (d + 2) mX13_opens 40 [some (.ref 259), some (.int (nI k))] [] (HP sh (pM x (mS (CR (mI m 34 v) sl l c) p f2))) = some (HP sh (pM x (mS (CR (mI (mA (mI m 34 v) 34 stk.length (nI k)) 36 (nI (stk.length + 1))) sl l c) p f2)), none) := fun f2 v => by
    have e36 : ∀ M : MM, M.1 36 = m.1 36 → M.1 36 = nI stk.length := fun M h => h.trans hs.1
    rw [bX13_opens_40, M_openAt hM, some_bind', M_opened hM, some_bind', show (mS (CR (mI m 34 v) sl l c) p f2).1 36 = nI stk.length from hs.1, Mu_openAt hM hl, some_bind', M_opened hM, some_bind', show (mA (mS (CR (mI m 34 v) sl l c) p f2) 34 stk.length (nI k)).1 36 = nI stk.length from hs.1, nI_1, Mw_opened hM, some_bind', CR_A, CR_I _ _ _ _ _ _ (Or.inr rfl)]
  have m34 : mI m 34 (nI dp) = m := by
    refine Prod.ext (funext fun j => ?_) rfl
    show (if j = 34 then nI dp else m.1 j) = m.1 j
    by_cases e : j = 34
    · rw [if_pos e, e, hs.2.1]
    · rw [if_neg e]
  by_cases h9 : k = 9 ∨ k = 12
  · have b12 : RS (ZZ L xs) (d + 2) mX13_opens 12 [some (.ref 259), some (.int (nI k))] [] (HP sh (pM x (mS (CR m sl l c) p 0))) = some (HP sh (pM x (mS (CR (mI (mA (mI m 34 (nI (dp + 1))) 34 stk.length (nI k)) 36 (nI (stk.length + 1))) sl l c) p (if (k = 9 ∨ k = 12) ∧ dp = 10 then ft p 2 else 0))), none) := by
      have b30 : ∀ f2, RS (ZZ L xs) (d + 2) mX13_opens 30 [some (.ref 259), some (.int (nI k))] [] (HP sh (pM x (mS (CR m sl l c) p f2))) = some (HP sh (pM x (mS (CR (mI (mA (mI m 34 (nI (dp + 1))) 34 stk.length (nI k)) 36 (nI (stk.length + 1))) sl l c) p f2)), none) := fun f2 => by
        rw [bX13_opens_30, M_deep hM, some_bind', show (mS (CR m sl l c) p f2).1 34 = nI dp from hs.2.1, nI_1, Mw_deep hM, some_bind', CR_I _ _ _ _ _ _ (Or.inl rfl), b40]
      rw [bX13_opens_12, M_deep hM, some_bind', show (mS (CR m sl l c) p 0).1 34 = nI dp from hs.2.1]
      by_cases h10 : dp = 10
      · rw [if_neg (fun z => z (by rw [h10]; rfl)), M_p hM, some_bind', show (mS (CR m sl l c) p 0).1 29 = nI p from rfl, M_is hM, some_bind', show cV (ZZ L xs) (d + 1) mX13_fails [.ref 259, .int 2, .int (nI p)] (HP sh (pM x (mS (CR m sl l c) p 0))) = _ from v_failsM d hM 2 p (by decide), some_bind', fz_z, b30, if_pos ⟨h9, h10⟩]
      · rw [if_pos (show ¬ nI dp = 10 from fun z => h10 ((nI_eq (b := 10) (by omega) (by decide)).mp z)), b30, if_neg (fun z => h10 z.2)]
    refine ⟨_, cV_of ?_, by rw [if_pos h9]; exact SKP_push hs k (dp + 1), BF_push m _ _ _ _⟩
    show RS (ZZ L xs) (d + 2) mX13_opens 0 [some (.ref 259), some (.int (nI k))] [] _ = _
    rw [bX13_opens_0]
    rcases h9 with rfl | rfl
    · rw [if_pos (show (nI 9 : Int32) = 9 by decide)]
      exact b12
    · rw [if_neg (show ¬ (nI 12 : Int32) = 9 by decide), if_neg (show ¬ ¬ (nI 12 : Int32) = 12 by decide)]
      exact b12
  · refine ⟨mI (mA (mI m 34 (nI dp)) 34 stk.length (nI k)) 36 (nI (stk.length + 1)), cV_of ?_, by rw [if_neg h9]; exact SKP_push hs k dp, BF_push m _ _ _ _⟩
    rw [if_neg (fun z => h9 z.1)]
    show RS (ZZ L xs) (d + 2) mX13_opens 0 [some (.ref 259), some (.int (nI k))] [] _ = _
    have := b40 0 (nI dp)
    rw [m34] at this ⊢
    rw [bX13_opens_0, if_neg (show ¬ nI k = 9 from fun z => h9 (Or.inl ((nI_eq (b := 9) (by omega) (by decide)).mp z))), if_pos (show ¬ nI k = 12 from fun z => h9 (Or.inr ((nI_eq (b := 12) (by omega) (by decide)).mp z)))]
    exact this
/-- what is on top, of that kind, is answered -/
theorem a_pop (d : Nat) (hM : isMo sh) {m : MM} {s0 : List Nat} {dp p c k : Nat} {l : EL} (hB : MB m T sl) (hs : SKP m (s0 ++ [k]) dp) (hl : s0.length < 401) (hk : k < 100) (hln : l.length < 300) (hd1 : k = 9 → 1 ≤ dp) : ∃ m', BF m m' ∧ SKP m' s0 (if k = 9 then dp - 1 else dp) ∧ cV (ZZ L xs) (d + 2) mX13_answers [.ref 259, .int (nI k)] (HP sh (pM x (mS (CR m sl l c) p 0))) = cV (ZZ L xs) (d + 2) mX13_answers [.ref 259, .int (nI k)] (HP sh (pM x (mS (CR m' sl (l ++ [(k, 0)]) c) p 0))) := by
  have hlen : (s0 ++ [k]).length = s0.length + 1 := by simp
  refine ⟨mI (mI m 36 (nI s0.length)) 34 (nI (if k = 9 then dp - 1 else dp)), ⟨fun j h1 h2 => by rw [mI_ne _ _ h1, mI_ne _ _ h2], fun _ _ => rfl⟩, ⟨by rw [mI_ne _ _ (by decide)]; exact mI_eq _ _ _, mI_eq _ _ _, fun j hj => ?_⟩, ?_⟩
  · show m.2.1 34 j = _
    rw [hs.2.2 j (by omega), nd_lt hj]
  · have key : RS (ZZ L xs) (d + 2) mX13_answers 0 [some (.ref 259), some (.int (nI k))] [] (HP sh (pM x (mS (CR m sl l c) p 0))) = RS (ZZ L xs) (d + 2) mX13_answers 0 [some (.ref 259), some (.int (nI k))] [] (HP sh (pM x (mS (CR (mI (mI m 36 (nI s0.length)) 34 (nI (if k = 9 then dp - 1 else dp))) sl (l ++ [(k, 0)]) c) p 0))) := by
      refine Eq.trans (bX13_answers_0 (d + 1) 259 (nI k) _) ?_
      rw [M_is hM, some_bind', i_topM (d) hM hs (by omega), some_bind', lastK_app, if_neg (fun z => z rfl), M_fault hM, some_bind', show (mS (CR m sl l c) p 0).1 30 = 0 from rfl, if_neg (fun z => z rfl), M_is hM, some_bind', show cV (ZZ L xs) (d + 1) mX13_entry [.ref 259, .int (nI k), .int 0] (HP sh (pM x (mS (CR m sl l c) p 0))) = _ from v_entryM d hM hB hln k 0, some_bind', M_opened hM, some_bind', show (mS (CR m sl (l ++ [(k, 0)]) c) p 0).1 36 = nI (s0 ++ [k]).length from hs.1, hlen, nI_pred, Mw_opened hM, some_bind', CR_I _ _ _ _ _ _ (Or.inr rfl), M_deep hM, some_bind', show (mS (CR (mI m 36 (nI s0.length)) sl (l ++ [(k, 0)]) c) p 0).1 34 = nI dp from hs.2.1]
      by_cases h9 : k = 9
      · rw [if_neg (fun z => z (by rw [h9]; rfl)), bX13_answers_47 (hw2 := rfl), nI_m1 (hd1 h9), Mw_deep hM, some_bind', CR_I _ _ _ _ _ _ (Or.inl rfl), if_pos h9]
      · rw [if_pos (show ¬ nI k = 9 from fun z => h9 ((nI_eq (b := 9) (by omega) (by decide)).mp z)), bX13_answers_47 (hw2 := rfl), show nI dp - 0 = nI dp from Int32.sub_zero _, Mw_deep hM, some_bind', CR_I _ _ _ _ _ _ (Or.inl rfl), if_neg h9]
    unfold cV
    exact congrArg (fun z => Option.bind z _) key
theorem a_stop (d : Nat) (hM : isMo sh) {m : MM} {stk : List Nat} {dp p c k : Nat} {l : EL} (hs : SKP m stk dp) (hl : stk.length < 402) (h : ¬ lastK stk = nI k) : cV (ZZ L xs) (d + 2) mX13_answers [.ref 259, .int (nI k)] (HP sh (pM x (mS (CR m sl l c) p 0))) = some (HP sh (pM x (mS (CR m sl l c) p 0))) := by
  refine cV_of ?_
  show RS (ZZ L xs) (d + 2) mX13_answers 0 [some (.ref 259), some (.int (nI k))] [] _ = _
  rw [bX13_answers_0, M_is hM, some_bind', i_topM (d) hM hs hl, some_bind', if_pos h, bX13_answers_54]
/-- a joint, where one may stand open: answered -/
theorem a_one (d : Nat) (hM : isMo sh) {m : MM} {s0 : List Nat} {dp p c k : Nat} {l : EL} {b : Bool} (hB : MB m T sl) (hs : SKP m (s0 ++ (if b = true then [k] else [])) dp) (hl : s0.length < 400) (hk : k = 10 ∨ k = 11) (hln : l.length < 300) (h : ¬ lastK s0 = nI k) : ∃ m', BF m m' ∧ SKP m' s0 dp ∧ cV (ZZ L xs) (d + 2) mX13_answers [.ref 259, .int (nI k)] (HP sh (pM x (mS (CR m sl l c) p 0))) = some (HP sh (pM x (mS (CR m' sl (l ++ fl b k) c) p 0))) := by
  cases b with
  | true =>
    obtain ⟨m', a1, a2, a3⟩ := a_pop (L := L) (xs := xs) (x := x) (p := p) (c := c) d hM hB (show SKP m (s0 ++ [k]) dp from hs) (by omega) (by omega) hln (fun z => by omega)
    rw [if_neg (by omega)] at a2
    exact ⟨m', a1, a2, a3.trans (a_stop d hM a2 (by omega) h)⟩
  | false =>
    have hs : SKP m s0 dp := by
      have : s0 ++ (if false = true then [k] else []) = s0 := by simp
      rw [this] at hs
      exact hs
    refine ⟨m, BF_refl m, hs, ?_⟩
    have : l ++ fl false k = l := by show l ++ [] = l; simp
    rw [this]
    exact a_stop d hM hs (by omega) h
end RM3
