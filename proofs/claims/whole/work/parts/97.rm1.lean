/-! rules in the model: entries laid; values -/
def CR (m : MM) (sl : Nat) (l : EL) (c : Nat) : MM := ((fun k => if k = 33 then nI l.length else if k = 35 then nI c else m.1 k), (fun a => if a = 28 then (fun j => if 300 * sl ≤ j ∧ j < 300 * sl + l.length then nI (l.getD (j - 300 * sl) (0, 0)).1 else m.2.1 28 j) else if a = 29 then (fun j => if 300 * sl ≤ j ∧ j < 300 * sl + l.length then nI (l.getD (j - 300 * sl) (0, 0)).2 else m.2.1 29 j) else m.2.1 a), m.2.2)
def FRM (m m' : MM) (sl : Nat) : Prop := (∀ k, k ≠ 33 → k ≠ 34 → k ≠ 35 → k ≠ 36 → m'.1 k = m.1 k) ∧ (∀ a, a ≠ 28 → a ≠ 29 → a ≠ 34 → m'.2.1 a = m.2.1 a) ∧ ∀ a, (a = 28 ∨ a = 29) → ∀ j, (j < 300 * sl ∨ 300 * sl + 300 ≤ j) → m'.2.1 a j = m.2.1 a j
theorem FRM_refl (m : MM) (sl : Nat) : FRM m m sl := ⟨fun _ _ _ _ _ => rfl, fun _ _ _ _ => rfl, fun _ _ _ _ => rfl⟩
theorem FRM_trans {a b c : MM} {sl : Nat} (h : FRM a b sl) (g : FRM b c sl) : FRM a c sl := ⟨fun k h1 h2 h3 h4 => (g.1 k h1 h2 h3 h4).trans (h.1 k h1 h2 h3 h4), fun r h1 h2 h3 => (g.2.1 r h1 h2 h3).trans (h.2.1 r h1 h2 h3), fun r h1 j hj => (g.2.2 r h1 j hj).trans (h.2.2 r h1 j hj)⟩
theorem FRM_I {m m' : MM} {sl k : Nat} (h : FRM m m' sl) (hk : k = 33 ∨ k = 34 ∨ k = 35 ∨ k = 36) (v : Int32) : FRM m (mI m' k v) sl := ⟨fun j h1 h2 h3 h4 => by rw [mI_ne _ _ (by omega)]; exact h.1 j h1 h2 h3 h4, h.2⟩
theorem FRM_CR (m : MM) (sl : Nat) {l : EL} (c : Nat) (hl : l.length ≤ 300) : FRM m (CR m sl l c) sl := by
  refine ⟨fun k h1 h2 h3 h4 => ?_, fun a h1 h2 h3 => ?_, fun a ha j hj => ?_⟩
  · show (if k = 33 then _ else if k = 35 then _ else m.1 k) = _
    rw [if_neg h1, if_neg h3]
  · show (if a = 28 then _ else if a = 29 then _ else m.2.1 a) = _
    rw [if_neg h1, if_neg h2]
  · rcases ha with rfl | rfl
    · show (if 300 * sl ≤ j ∧ j < 300 * sl + l.length then _ else m.2.1 28 j) = _
      rw [if_neg (by omega)]
    · show (if 300 * sl ≤ j ∧ j < 300 * sl + l.length then _ else m.2.1 29 j) = _
      rw [if_neg (by omega)]
theorem getD_app_lt {l : EL} {k : Nat × Nat} {j : Nat} (h : j < l.length) : (l ++ [k]).getD j (0, 0) = l.getD j (0, 0) := by
  rw [List.getD_eq_getElem?_getD, List.getD_eq_getElem?_getD, List.getElem?_append_left h]
theorem getD_app_eq (l : EL) (k : Nat × Nat) : (l ++ [k]).getD l.length (0, 0) = k := by
  rw [List.getD_eq_getElem?_getD]
  simp
theorem CR_entry (m : MM) (sl : Nat) (l : EL) (c p f k v : Nat) : mI (mA (mA (mS (CR m sl l c) p f) 28 (300 * sl + l.length) (nI k)) 29 (300 * sl + l.length) (nI v)) 33 (nI (l.length + 1)) = mS (CR m sl (l ++ [(k, v)]) c) p f := by
  have hlen : (l ++ [(k, v)]).length = l.length + 1 := by simp
  refine Prod.ext (funext fun j => ?_) (Prod.ext (funext fun a => funext fun j => ?_) rfl)
  · show (if j = 33 then nI (l.length + 1) else if j = 29 then nI p else if j = 30 then nI f else if j = 33 then nI l.length else if j = 35 then nI c else m.1 j) = (if j = 29 then nI p else if j = 30 then nI f else if j = 33 then nI (l ++ [(k, v)]).length else if j = 35 then nI c else m.1 j)
    by_cases h : j = 33
    · rw [if_pos h, if_neg (by omega), if_neg (by omega), if_pos h, hlen]
    · rw [if_neg h, if_neg h, if_neg h]
  · have key : ∀ (g : Nat × Nat → Nat) (old : Nat → Int32), upd (fun j => if 300 * sl ≤ j ∧ j < 300 * sl + l.length then nI (g (l.getD (j - 300 * sl) (0, 0))) else old j) (300 * sl + l.length) (nI (g (k, v))) j = (if 300 * sl ≤ j ∧ j < 300 * sl + (l ++ [(k, v)]).length then nI (g ((l ++ [(k, v)]).getD (j - 300 * sl) (0, 0))) else old j) := fun g old => by
      rw [hlen]
      by_cases e : j = 300 * sl + l.length
      · rw [e, upd_at, if_pos (by omega), show 300 * sl + l.length - 300 * sl = l.length by omega, getD_app_eq]
      · rw [upd_ne _ _ e]
        by_cases h : 300 * sl ≤ j ∧ j < 300 * sl + l.length
        · rw [if_pos h, if_pos (by omega), getD_app_lt (by omega)]
        · rw [if_neg h, if_neg (by omega)]
    by_cases h29 : a = 29
    · subst h29
      exact key (fun q => q.2) (m.2.1 29)
    · by_cases h28 : a = 28
      · subst h28
        exact key (fun q => q.1) (m.2.1 28)
      · show (if a = 29 then _ else if a = 28 then _ else if a = 28 then _ else if a = 29 then _ else m.2.1 a) j = (if a = 28 then _ else if a = 29 then _ else m.2.1 a) j
        rw [if_neg h29, if_neg h28, if_neg h28, if_neg h29, if_neg h28, if_neg h29]
theorem CR_c (m : MM) (sl : Nat) (l : EL) (c p f c' : Nat) : mI (mS (CR m sl l c) p f) 35 (nI c') = mS (CR m sl l c') p f := by
  refine Prod.ext (funext fun j => ?_) rfl
  show (if j = 35 then nI c' else if j = 29 then nI p else if j = 30 then nI f else if j = 33 then nI l.length else if j = 35 then nI c else m.1 j) = (if j = 29 then nI p else if j = 30 then nI f else if j = 33 then nI l.length else if j = 35 then nI c' else m.1 j)
  by_cases h : j = 35
  · rw [if_pos h, if_neg (by omega), if_neg (by omega), if_neg (by omega), if_pos h]
  · rw [if_neg h, if_neg h, if_neg h]
/-- what the reader rests on -/
def MB (m : MM) (T : TP) (sl : Nat) : Prop := MTa m T ∧ m.1 31 = nI sl ∧ m.1 37 = 12 ∧ sl ≤ 5
section RM1
variable {L : Nat} {xs : Nat → Int32} {sh : List Sh} {x : ST} {m : MM} {T : TP} {sl p f : Nat}
theorem MTa_CR {l : EL} {c : Nat} (h : MB m T sl) : MTa (CR m sl l c) T := h.1
theorem v_entryM (d : Nat) (hM : isMo sh) (hB : MB m T sl) {l : EL} {c : Nat} (hl : l.length < 300) (k v : Nat) : cV (ZZ L xs) (d + 1) mX13_entry [.ref 259, .int (nI k), .int (nI v)] (HP sh (pM x (mS (CR m sl l c) p 0))) = some (HP sh (pM x (mS (CR m sl (l ++ [(k, v)]) c) p 0))) := by
  have h5 := hB.2.2.2
  have e31 : ∀ M : MM, M.1 31 = m.1 31 → M.1 31 = nI sl := fun M h => h.trans hB.2.1
  refine cV_of ?_
  show RS (ZZ L xs) (d + 1) mX13_entry 0 [some (.ref 259), some (.int (nI k)), some (.int (nI v))] [] _ = _
  rw [bX13_entry_0, M_fault hM, some_bind', show (mS (CR m sl l c) p 0).1 30 = 0 from rfl, if_neg (fun z => z rfl), M_sort hM, some_bind', M_slot hM, some_bind', show (mS (CR m sl l c) p 0).1 31 = nI sl from hB.2.1, M_entries hM, some_bind', show (mS (CR m sl l c) p 0).1 33 = nI l.length from rfl, nI_300m, nI_add, Mu_sort hM (by omega), some_bind', M_number hM, some_bind', M_slot hM, some_bind', show (mA (mS (CR m sl l c) p 0) 28 (300 * sl + l.length) (nI k)).1 31 = nI sl from hB.2.1, M_entries hM, some_bind', show (mA (mS (CR m sl l c) p 0) 28 (300 * sl + l.length) (nI k)).1 33 = nI l.length from rfl, nI_300m, nI_add, Mu_number hM (by omega), some_bind', M_entries hM, some_bind', show (mA (mA (mS (CR m sl l c) p 0) 28 (300 * sl + l.length) (nI k)) 29 (300 * sl + l.length) (nI v)).1 33 = nI l.length from rfl, nI_1, Mw_entries hM, some_bind', bX13_entry_55, CR_entry]
theorem v_entryF (d : Nat) (hM : isMo sh) (hf : f ≠ 0) (hf2 : f < 2 ^ 31) (k v : Int32) : cV (ZZ L xs) (d + 1) mX13_entry [.ref 259, .int k, .int v] (HP sh (pM x (mS m p f))) = some (HP sh (pM x (mS m p f))) := by
  refine cV_of ?_
  show RS (ZZ L xs) (d + 1) mX13_entry 0 [some (.ref 259), some (.int k), some (.int v)] [] _ = _
  rw [bX13_entry_0, M_fault hM, some_bind', show (mS m p f).1 30 = nI f from rfl, if_pos (nI_ne0 (by omega) hf2), bX13_entry_55]
theorem v_countM (d : Nat) (hM : isMo sh) {l : EL} {c : Nat} (hc : c ≤ 60) (hf : f < 2 ^ 31) (q : Nat) : cV (ZZ L xs) (d + 2) mX13_isCounted [.ref 259, .int (nI q)] (HP sh (pM x (mS (CR m sl l c) p f))) = some (HP sh (pM x (mS (CR m sl l (c + 1)) p (if c = 60 then fz f (ft q 3) else f)))) := by
  have b15 : ∀ (f2 : Nat) (u1 : Option Value), RS (ZZ L xs) (d + 2) mX13_isCounted 15 [some (.ref 259), u1] [] (HP sh (pM x (mS (CR m sl l c) p f2))) = some (HP sh (pM x (mS (CR m sl l (c + 1)) p f2)), none) := fun f2 u1 => by
    rw [bX13_isCounted_15, M_counted hM, some_bind', show (mS (CR m sl l c) p f2).1 35 = nI c from rfl, nI_1, Mw_counted hM, some_bind', CR_c]
  refine cV_of ?_
  show RS (ZZ L xs) (d + 2) mX13_isCounted 0 [some (.ref 259), some (.int (nI q))] [] _ = _
  rw [bX13_isCounted_0, M_counted hM, some_bind', show (mS (CR m sl l c) p f).1 35 = nI c from rfl]
  by_cases h : c = 60
  · rw [if_neg (fun z => z (by rw [h]; rfl)), if_pos h, M_is hM, some_bind', show cV (ZZ L xs) (d + 1) mX13_fails [.ref 259, .int 3, .int (nI q)] (HP sh (pM x (mS (CR m sl l c) p f))) = _ from v_failsM d hM 3 q hf, some_bind', b15]
  · rw [if_pos (show ¬ nI c = 60 from fun z => h ((nI_eq (b := 60) (by omega) (by decide)).mp z)), if_neg h, b15]
theorem v_countF (d : Nat) (hM : isMo sh) (hf : f ≠ 0) (hf2 : f < 2 ^ 31) (q : Nat) : cV (ZZ L xs) (d + 2) mX13_isCounted [.ref 259, .int (nI q)] (HP sh (pM x (mS m p f))) = some (HP sh (pM x (mS (mI m 35 (m.1 35 + 1)) p f))) := by
  have b15 : ∀ (u1 : Option Value), RS (ZZ L xs) (d + 2) mX13_isCounted 15 [some (.ref 259), u1] [] (HP sh (pM x (mS m p f))) = some (HP sh (pM x (mS (mI m 35 (m.1 35 + 1)) p f)), none) := fun u1 => by
    rw [bX13_isCounted_15, M_counted hM, some_bind', show (mS m p f).1 35 = m.1 35 from rfl, Mw_counted hM, some_bind', mS_I _ _ _ (by decide) (by decide)]
  refine cV_of ?_
  show RS (ZZ L xs) (d + 2) mX13_isCounted 0 [some (.ref 259), some (.int (nI q))] [] _ = _
  rw [bX13_isCounted_0, M_counted hM, some_bind']
  by_cases h : (mS m p f).1 35 = 60
  · rw [if_neg (fun z => z h), M_is hM, some_bind', show cV (ZZ L xs) (d + 1) mX13_fails [.ref 259, .int 3, .int (nI q)] (HP sh (pM x (mS m p f))) = _ from v_failsM d hM 3 q hf2, some_bind', fz_n _ hf, b15]
  · rw [if_pos h, b15]
/-! the twelve words -/
def wOk (k : Nat) : Nat := if k = 0 then 14 else if k = 1 then 13 else 14 + k
def wd12k (k : Nat) : List Nat := wd12.getD k []
theorem wd12_S : ∀ k, k < 12 → isS (wOk k) (wd12k k) ∧ (wd12k k).length ≤ 100 ∧ 0 < (wd12k k).length ∧ (∀ c, c ∈ wd12k k → c < 128) ∧ wd12.drop k = wd12k k :: wd12.drop (k + 1) := by
  intro k hk
  have : k = 0 ∨ k = 1 ∨ k = 2 ∨ k = 3 ∨ k = 4 ∨ k = 5 ∨ k = 6 ∨ k = 7 ∨ k = 8 ∨ k = 9 ∨ k = 10 ∨ k = 11 := by omega
  rcases this with rfl | rfl | rfl | rfl | rfl | rfl | rfl | rfl | rfl | rfl | rfl | rfl <;> exact ⟨by unfold isS; decide, by decide, by decide, by decide, by decide⟩
theorem r_wordOf (d : Nat) {k : Nat} (hk : k < 12) (ph : PH) : cR (ZZ L xs) (d + 1) mX13_wordOf [.int (nI k)] ph = some (ph, .retAddr (wOk k + 1)) := by
  refine cR_of rfl ?_
  show RS (ZZ L xs) (d + 1) mX13_wordOf 0 [some (.int (nI k))] [] ph = _
  rw [bX13_wordOf_0]
  have : k = 0 ∨ k = 1 ∨ k = 2 ∨ k = 3 ∨ k = 4 ∨ k = 5 ∨ k = 6 ∨ k = 7 ∨ k = 8 ∨ k = 9 ∨ k = 10 ∨ k = 11 := by omega
  rcases this with rfl | rfl | rfl | rfl | rfl | rfl | rfl | rfl | rfl | rfl | rfl | rfl
  · rw [if_pos (by decide), bX13_wordOf_60]; rfl
  · rw [if_neg (by decide), if_pos (by decide), bX13_wordOf_63]; rfl
  · rw [if_neg (by decide), if_neg (by decide), if_pos (by decide), bX13_wordOf_66]; rfl
  · rw [if_neg (by decide), if_neg (by decide), if_neg (by decide), if_pos (by decide), bX13_wordOf_69]; rfl
  · rw [if_neg (by decide), if_neg (by decide), if_neg (by decide), if_neg (by decide), if_pos (by decide), bX13_wordOf_72]; rfl
  · rw [if_neg (by decide), if_neg (by decide), if_neg (by decide), if_neg (by decide), if_neg (by decide), if_pos (by decide), bX13_wordOf_75]; rfl
  · rw [if_neg (by decide), if_neg (by decide), if_neg (by decide), if_neg (by decide), if_neg (by decide), if_neg (by decide), if_pos (by decide), bX13_wordOf_78]; rfl
  · rw [if_neg (by decide), if_neg (by decide), if_neg (by decide), if_neg (by decide), if_neg (by decide), if_neg (by decide), if_neg (by decide), if_pos (by decide), bX13_wordOf_81]; rfl
  · rw [if_neg (by decide), if_neg (by decide), if_neg (by decide), if_neg (by decide), if_neg (by decide), if_neg (by decide), if_neg (by decide), if_neg (by decide), if_pos (by decide), bX13_wordOf_84]; rfl
  · rw [if_neg (by decide), if_neg (by decide), if_neg (by decide), if_neg (by decide), if_neg (by decide), if_neg (by decide), if_neg (by decide), if_neg (by decide), if_neg (by decide), if_pos (by decide), bX13_wordOf_87]; rfl
  · rw [if_neg (by decide), if_neg (by decide), if_neg (by decide), if_neg (by decide), if_neg (by decide), if_neg (by decide), if_neg (by decide), if_neg (by decide), if_neg (by decide), if_neg (by decide), if_pos (by decide), bX13_wordOf_90]; rfl
  · rw [if_neg (by decide), if_neg (by decide), if_neg (by decide), if_neg (by decide), if_neg (by decide), if_neg (by decide), if_neg (by decide), if_neg (by decide), if_neg (by decide), if_neg (by decide), if_neg (by decide), bX13_wordOf_93]; rfl
theorem wN_is {s : Nat} : ∀ (j k : Nat), j + k = 12 → wN T s (wd12.drop k) k < 12 → wdIs T s (wd12k (wN T s (wd12.drop k) k)) = true := by
  intro j
  induction j with
  | zero =>
    intro k hk h
    have : k = 12 := by omega
    subst this
    exact absurd h (by show ¬ (12 < 12); decide)
  | succ j ih =>
    intro k hk h
    rw [(wd12_S k (by omega)).2.2.2.2] at h ⊢
    have e : wN T s (wd12k k :: wd12.drop (k + 1)) k = if wdIs T s (wd12k k) = true then k else wN T s (wd12.drop (k + 1)) (k + 1) := rfl
    rw [e] at h ⊢
    by_cases q : wdIs T s (wd12k k) = true
    · rw [if_pos q]
      exact q
    · rw [if_neg q] at h ⊢
      exact ih (k + 1) (by omega) h
theorem kVr_is {s : Nat} (h : kVr T s < 12) : wdIs T s (wd12k (kVr T s)) = true := wN_is 12 0 rfl h
theorem v_wordsM (d : Nat) (hM : isMo sh) (hi : MTa m T) (hw : m.1 37 = 12) (hV : VTa T) {s : Nat} (hs : s ≤ 450) : ∀ (j k : Nat), j + k = 12 → RS (ZZ L xs) (d + 2) mX13_value 37 [some (.ref 259), some (.int (nI s)), some (.int (nI k))] [] (HP sh (pM x (mS m s f))) = RS (ZZ L xs) (d + 2) mX13_value 62 [some (.ref 259), some (.int (nI s)), some (.int (nI (wN T s (wd12.drop k) k)))] [] (HP sh (pM x (mS m s f))) := by
  intro j
  induction j with
  | zero =>
    intro k hk
    have : k = 12 := by omega
    subst this
    rw [bX13_value_37, M_words hM, some_bind', show (mS m s f).1 37 = 12 from hw, if_pos (by decide)]
    rfl
  | succ j ih =>
    intro k hk
    obtain ⟨q1, q2, q3, q4, q5⟩ := wd12_S k (by omega)
    rw [bX13_value_37, M_words hM, some_bind', show (mS m s f).1 37 = 12 from hw, if_neg (show ¬ (12 : Int32) ≤ nI k from nI_ge (b := 12) (by omega) (by decide)), r_wordOf d (by omega), some_bind', M_is hM, some_bind', i_stoodM d hM hi hV (by omega) q1 q2 q3 q4, some_bind', nI_1, q5]
    have e : wN T s (wd12k k :: wd12.drop (k + 1)) k = if wdIs T s (wd12k k) = true then k else wN T s (wd12.drop (k + 1)) (k + 1) := rfl
    rw [e]
    by_cases q : wdIs T s (wd12k k) = true
    · rw [if_pos (z1 q), if_pos q]
    · rw [if_neg (fun z => z (z0 q)), if_neg q]
      exact ih (k + 1) (by omega)
theorem word_end {s k : Nat} (hk : k < 12) (h : wdIs T s (wd12k k) = true) : rn isB T (s + (wd12k k).length) = nx' T s ∧ s + (wd12k k).length ≤ T.1 ∧ ¬ kd T s = 2 := by
  have h0 := (wd12_S k hk).2.2.1
  have hne : wd12k k ≠ [] := fun z => by rw [z] at h0; exact absurd h0 (Nat.lt_irrefl 0)
  obtain ⟨h1, h2⟩ := wdIs_en hne h
  have hs : s ≤ T.1 := Nat.le_of_lt (Nat.lt_of_not_le (fun q => by have := kd_0.mpr q; omega))
  have := en_le hs
  refine ⟨by unfold nx'; rw [h2], by omega, by omega⟩
/-- a value, behind a fault -/
theorem v_valueF (d : Nat) (hM : isMo sh) (hi : MTa m T) (hw : m.1 37 = 12) (hV : VTa T) (hp : p ≤ 450) (hf : f ≠ 0) (hf2 : f < 10000) : ∃ w p', cV (ZZ L xs) (d + 4) mX13_value [.ref 259] (HP sh (pM x (mS m p f))) = some (HP sh (pM x (mS (mI m 35 w) p' f))) ∧ p' ≤ 450 := by
  have h400 := hV.1
  have hs := rn_top2 isB (T := T) hp (by omega)
  generalize hse : rn isB T p = s at *
  have b0 : CL (ZZ L xs) (d + 4) mX13_value [.ref 259] (HP sh (pM x (mS m p f))) = _ := bX13_value_0 (d + 3) 259 (HP sh (pM x (mS m p f)))
  rw [M_is hM, some_bind', v_blM (d + 1) hM hi hV (by omega), some_bind', hse, M_p hM, some_bind', show (mS m s f).1 29 = nI s from rfl, M_is hM, some_bind', i_digM (d + 1) hM hi hV (by omega), some_bind'] at b0
  by_cases hd : isD (Bt T s) = true
  · obtain ⟨v, a1, a2⟩ := i_digitsM (L := L) (xs := xs) (x := x) (m := m) (p := s) (f := f) (d) hM hi hV (by omega) (by omega)
    have hpt := rn_top2 isD (T := T) (s := s) (n := 450) (by omega) (by omega)
    rw [fz_n _ hf] at a1
    rw [if_neg (z1 hd), M_is hM, some_bind', a1, some_bind', M_is hM, some_bind', v_countF (d + 1) hM hf (by omega) s, some_bind', M_is hM, some_bind', v_entryF (d + 2) hM hf (by omega), some_bind'] at b0
    exact ⟨_, _, cV_of b0, hpt⟩
  · rw [if_pos (z0 hd)] at b0
    have b37 := v_wordsM (L := L) (xs := xs) (x := x) (f := f) (d + 2) hM hi hw hV hs 12 0 rfl
    have b0 : CL (ZZ L xs) (d + 4) mX13_value [.ref 259] (HP sh (pM x (mS m p f))) = RS (ZZ L xs) (d + 4) mX13_value 62 [some (.ref 259), some (.int (nI s)), some (.int (nI (kVr T s)))] [] (HP sh (pM x (mS m s f))) := b0.trans b37
    have h12 := kVr_12 T s
    rw [bX13_value_62, M_words hM, some_bind', show (mS m s f).1 37 = 12 from hw] at b0
    by_cases hk : kVr T s = 12
    · rw [if_neg (fun z => z (by rw [hk]; rfl)), M_is hM, some_bind', show cV (ZZ L xs) (d + 3) mX13_fails [.ref 259, .int 0, .int (nI s)] (HP sh (pM x (mS m s f))) = _ from v_failsM (d + 2) hM 0 s (by omega), some_bind', fz_n _ hf] at b0
      refine ⟨m.1 35, s, cV_of (b0.trans ?_), hs⟩
      have : mI m 35 (m.1 35) = m := by
        refine Prod.ext (funext fun j => ?_) rfl
        show (if j = 35 then m.1 35 else m.1 j) = m.1 j
        by_cases e : j = 35
        · rw [if_pos e, e]
        · rw [if_neg e]
      rw [this]
    · have hk12 : kVr T s < 12 := by omega
      obtain ⟨q1, q2, q3, q4, q5⟩ := wd12_S _ hk12
      obtain ⟨w1, w2, w3⟩ := word_end hk12 (kVr_is hk12)
      rw [if_pos (show ¬ nI (kVr T s) = 12 from fun z => hk ((nI_eq (b := 12) (by omega) (by decide)).mp z)), M_is hM, some_bind', v_countF (d + 1) hM hf (by omega) s, some_bind', M_p hM, some_bind', show (mS (mI m 35 (m.1 35 + 1)) s f).1 29 = nI s from rfl, r_wordOf (d + 2) hk12, some_bind', sN_of q1, some_bind', nI_add, Mw_p hM, some_bind', mS_p, M_is hM, some_bind', v_entryF (d + 2) hM hf (by omega), some_bind'] at b0
      exact ⟨_, _, cV_of b0, by omega⟩
/-- a value -/
theorem v_valueM (d : Nat) (hM : isMo sh) (hB : MB m T sl) (hV : VTa T) (hp : p ≤ 450) {l : EL} {c : Nat} (hc : c ≤ 60) (hl : l.length < 299) : ∃ M', cV (ZZ L xs) (d + 4) mX13_value [.ref 259] (HP sh (pM x (mS (CR m sl l c) p 0))) = some (HP sh (pM x M')) ∧ ((∃ e m' p', pV T (rn isB T p) c = .inl e ∧ (0 < e ∧ e < 10000) ∧ M' = mS m' p' e ∧ p' ≤ 450 ∧ FRM m m' sl ∧ m'.1 36 = m.1 36 ∧ m'.2.1 34 = m.2.1 34) ∨ ∃ en p', pV T (rn isB T p) c = .inr en ∧ M' = mS (CR m sl (l ++ [en]) (c + 1)) p' 0 ∧ p' ≤ 450 ∧ rn isB T p' = nx' T (rn isB T p)) := by
  have h400 := hV.1
  have hs := rn_top2 isB (T := T) hp (by omega)
  generalize hse : rn isB T p = s at *
  have hi : MTa (CR m sl l c) T := hB.1
  have hw : (CR m sl l c).1 37 = 12 := hB.2.2.1
  have fr : FRM m (CR m sl l c) sl := FRM_CR m sl c (by omega)
  have fr1 : FRM m (CR m sl l (c + 1)) sl := FRM_CR m sl (c + 1) (by omega)
  have ftl : ∀ k, k ≤ 4 → 0 < ft s k ∧ ft s k < 10000 := fun k hk => by unfold ft; omega
  have b0 : CL (ZZ L xs) (d + 4) mX13_value [.ref 259] (HP sh (pM x (mS (CR m sl l c) p 0))) = _ := bX13_value_0 (d + 3) 259 (HP sh (pM x (mS (CR m sl l c) p 0)))
  rw [M_is hM, some_bind', v_blM (d + 1) hM hi hV (by omega), some_bind', hse, M_p hM, some_bind', show (mS (CR m sl l c) s 0).1 29 = nI s from rfl, M_is hM, some_bind', i_digM (d + 1) hM hi hV (by omega), some_bind'] at b0
  unfold pV
  by_cases hd : isD (Bt T s) = true
  · have h2 := kd_D.mpr hd
    obtain ⟨v, a1, a2⟩ := i_digitsM (L := L) (xs := xs) (x := x) (m := CR m sl l c) (p := s) (f := 0) (d) hM hi hV (by omega) (by omega)
    have hpt := rn_top2 isD (T := T) (s := s) (n := 450) (by omega) (by omega)
    rw [fz_z] at a1
    rw [if_neg (z1 hd), M_is hM, some_bind', a1, some_bind', M_is hM, some_bind', v_countM (d + 1) hM hc (by have := dgE_lt (T := T) hs; omega) s, some_bind', M_is hM, some_bind'] at b0
    rw [if_pos h2]
    by_cases h5 : rn isD T s - s ≤ 5
    · have hdg : dgE T s = 0 := by unfold dgE; rw [if_pos hd, if_pos h5]
      rw [hdg] at b0
      rw [if_pos h5]
      by_cases h60 : c = 60
      · rw [if_pos h60, fz_z, v_entryF (d + 2) hM (by have := ftl 3 (by decide); omega) (by have := ftl 3 (by decide); omega), some_bind'] at b0
        rw [if_pos h60]
        exact ⟨_, cV_of b0, Or.inl ⟨_, _, _, rfl, ftl 3 (by decide), rfl, hpt, fr1, rfl, rfl⟩⟩
      · rw [if_neg h60, a2 hdg, show cV (ZZ L xs) (d + 3) mX13_entry [.ref 259, .int 0, .int (nI (nv T s))] (HP sh (pM x (mS (CR m sl l (c + 1)) (rn isD T s) 0))) = _ from v_entryM (d + 2) hM hB (by omega) 0 (nv T s), some_bind'] at b0
        rw [if_neg h60]
        exact ⟨_, cV_of b0, Or.inr ⟨_, _, rfl, rfl, hpt, by unfold nx'; rw [en_D h2]⟩⟩
    · have hdg : dgE T s = ft s 1 := by unfold dgE; rw [if_pos hd, if_neg h5]
      have h1 := ftl 1 (by decide)
      have hif : (if c = 60 then fz (ft s 1) (ft s 3) else ft s 1) = ft s 1 := by
        rw [fz_n _ (by omega)]
        split <;> rfl
      rw [hdg, hif, v_entryF (d + 2) hM (by omega) (by omega), some_bind'] at b0
      rw [if_neg h5]
      exact ⟨_, cV_of b0, Or.inl ⟨_, _, _, rfl, h1, rfl, hpt, fr1, rfl, rfl⟩⟩
  · have h2 : ¬ kd T s = 2 := fun z => hd (kd_D.mp z)
    rw [if_pos (z0 hd)] at b0
    rw [if_neg h2]
    have b37 := v_wordsM (L := L) (xs := xs) (x := x) (f := 0) (d + 2) hM hi hw hV hs 12 0 rfl
    have b0 : CL (ZZ L xs) (d + 4) mX13_value [.ref 259] (HP sh (pM x (mS (CR m sl l c) p 0))) = RS (ZZ L xs) (d + 4) mX13_value 62 [some (.ref 259), some (.int (nI s)), some (.int (nI (kVr T s)))] [] (HP sh (pM x (mS (CR m sl l c) s 0))) := b0.trans b37
    have h12 := kVr_12 T s
    rw [bX13_value_62, M_words hM, some_bind', show (mS (CR m sl l c) s 0).1 37 = 12 from hw] at b0
    by_cases hk : kVr T s = 12
    · rw [if_neg (fun z => z (by rw [hk]; rfl)), M_is hM, some_bind', show cV (ZZ L xs) (d + 3) mX13_fails [.ref 259, .int 0, .int (nI s)] (HP sh (pM x (mS (CR m sl l c) s 0))) = _ from v_failsM (d + 2) hM 0 s (by decide), some_bind', fz_z] at b0
      rw [if_pos hk]
      exact ⟨_, cV_of b0, Or.inl ⟨_, _, _, rfl, ftl 0 (by decide), rfl, hs, fr, rfl, rfl⟩⟩
    · have hk12 : kVr T s < 12 := by omega
      obtain ⟨q1, q2, q3, q4, q5⟩ := wd12_S _ hk12
      obtain ⟨w1, w2, w3⟩ := word_end hk12 (kVr_is hk12)
      rw [if_neg hk]
      rw [if_pos (show ¬ nI (kVr T s) = 12 from fun z => hk ((nI_eq (b := 12) (by omega) (by decide)).mp z)), M_is hM, some_bind', v_countM (d + 1) hM hc (by decide) s, some_bind', M_p hM, some_bind', show ∀ f2, (mS (CR m sl l (c + 1)) s f2).1 29 = nI s from fun _ => rfl, r_wordOf (d + 2) hk12, some_bind', sN_of q1, some_bind', nI_add, Mw_p hM, some_bind', mS_p, M_is hM, some_bind'] at b0
      by_cases h60 : c = 60
      · rw [if_pos h60, fz_z, v_entryF (d + 2) hM (by have := ftl 3 (by decide); omega) (by have := ftl 3 (by decide); omega), some_bind'] at b0
        rw [if_pos h60]
        exact ⟨_, cV_of b0, Or.inl ⟨_, _, _, rfl, ftl 3 (by decide), rfl, by omega, fr1, rfl, rfl⟩⟩
      · rw [if_neg h60, show cV (ZZ L xs) (d + 3) mX13_entry [.ref 259, .int 1, .int (nI (kVr T s))] (HP sh (pM x (mS (CR m sl l (c + 1)) (s + (wd12k (kVr T s)).length) 0))) = _ from v_entryM (d + 2) hM hB (by omega) 1 (kVr T s), some_bind'] at b0
        rw [if_neg h60]
        exact ⟨_, cV_of b0, Or.inr ⟨_, _, rfl, rfl, by omega, w1⟩⟩
end RM1
