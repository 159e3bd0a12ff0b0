/-! THE PURE MACHINE TELLS OF THE REAL ONE: the frame of it, and what is true of its words -/
def GW : List Cond := lw_tbl.filter goodWord
/-- b0: where our cells begin; the classes' numbers; the arrays' classes; what lies outside; its second part (the Strings' arrays) -/
abbrev WB : Type := Nat × va_G × (Nat → ClassId) × (Nat → Nat) × (Nat → Nat)
def rv (B : WB) : Value → Value
  | .ref i => .ref (B.1 + i)
  | .retAddr k => .ref (B.2.2.2.1 k)
  | v => v
def cvA (B : WB) : vp_A → vp_A
  | (n, .inr (.inr (.inr (.inr f)))) => (n, .inr (.inr (.inr (.inr (fun j => (f j).map (fun i => B.1 + i))))))
  | x => x
def cv (B : WB) : PE → va_E
  | .inl (t, a) => .inl (B.2.2.1 t, cvA B a)
  | .inr (ci, fs) => .inr (ci, fs.map (rv B))
def cw (B : WB) (ph : PH) : va_W := ph.mapIdx (fun i e => (B.1 + i, cv B e))
def slE : PE → Nat
  | .inl (_, n, _) => n
  | .inr (_, fs) => fs.length
def sl (ph : PH) : Nat := (ph.map slE).sum
def tysOf (B : WB) : List (ClassId × FieldType) := [(B.2.2.1 0, .int), (B.2.2.1 1, .long), (B.2.2.1 2, .byte), (B.2.2.1 3, .boolean), (B.2.2.1 4, .object RX4), (B.2.2.1 5, .object RX7), (B.2.2.1 6, .object RX6)]
def AA (B : WB) : Nat → Prop := fun q => B.1 ≤ q
theorem rv_cat (B : WB) (v : Value) : (rv B v).category = v.category := by cases v <;> rfl
theorem catS_rv (B : WB) (st : List Value) : ((st.map (rv B)).map fun v => v.category).sum = catS st := by
  unfold catS
  rw [List.map_map]
  congr 1
  exact List.map_congr_left (fun v _ => rv_cat B v)
theorem cw_get (B : WB) (ph : PH) (k : Nat) : (cw B ph)[k]? = (ph[k]?).map (fun e => (B.1 + k, cv B e)) := by
  unfold cw
  rw [List.getElem?_mapIdx]
theorem cw_of {B : WB} {ph : PH} {k : Nat} {e : PE} (h : ph[k]? = some e) : (cw B ph)[k]? = some (B.1 + k, cv B e) := by rw [cw_get, h]; rfl
theorem cw_set (B : WB) (ph : PH) (k : Nat) (e : PE) : (cw B ph).set k (B.1 + k, cv B e) = cw B (ph.set k e) := by
  apply List.ext_getElem?
  intro j
  rw [cw_get, List.getElem?_set, List.getElem?_set, cw_get]
  have hl : (cw B ph).length = ph.length := by unfold cw; exact List.length_mapIdx
  rw [hl]
  by_cases hj : k = j
  · subst hj
    by_cases hk : k < ph.length <;> simp [hk]
  · simp [hj]
theorem cw_len (B : WB) (ph : PH) : (cw B ph).length = ph.length := by unfold cw; exact List.length_mapIdx
theorem cw_push (B : WB) (ph : PH) (e : PE) : cw B ph ++ [(B.1 + ph.length, cv B e)] = cw B (ph ++ [e]) := by
  unfold cw
  rw [List.mapIdx_append]
  simp
theorem cw_D (B : WB) (ph : PH) : va_D (AA B) (cw B ph) := by
  refine ⟨fun i j p q hi hj hpq => ?_, fun k q hk => ?_⟩
  · rw [cw_get] at hi hj
    obtain ⟨a, -, ha⟩ := Option.map_eq_some_iff.mp hi
    obtain ⟨b, -, hb⟩ := Option.map_eq_some_iff.mp hj
    rw [← ha, ← hb] at hpq
    have : B.1 + i = B.1 + j := hpq
    omega
  · rw [cw_get] at hk
    obtain ⟨a, -, ha⟩ := Option.map_eq_some_iff.mp hk
    rw [← ha]
    exact Nat.le_add_right _ _
theorem sl_set {ph : PH} {k : Nat} {e e' : PE} (h : ph[k]? = some e) (hs : slE e' = slE e) : sl (ph.set k e') = sl ph := by
  unfold sl
  induction ph generalizing k with
  | nil => cases h
  | cons a ph ih =>
    cases k with
    | zero =>
      have : a = e := Option.some.inj h
      subst this
      simp [hs]
    | succ k => simp only [List.set_cons_succ, List.map_cons, List.sum_cons]; rw [ih (by simpa using h)]
theorem sl_push (ph : PH) (e : PE) : sl (ph ++ [e]) = sl ph + slE e := by unfold sl; simp
theorem len_set (ph : PH) (k : Nat) (e : PE) : (ph.set k e).length = ph.length := List.length_set
/-- the locals: what we know of them -/
def al (B : WB) (lv : LV) : List (Nat × Value) := (List.range lv.length).filterMap (fun k => (gL lv k).map (fun v => (k, rv B v)))
theorem al_mem {B : WB} {lv : LV} {q : Nat × Value} : q ∈ al B lv ↔ ∃ v, gL lv q.1 = some v ∧ q.2 = rv B v := by
  unfold al
  rw [List.mem_filterMap]
  constructor
  · rintro ⟨k, -, hk⟩
    obtain ⟨v, hv, hq⟩ := Option.map_eq_some_iff.mp hk
    rw [← hq]
    exact ⟨v, hv, rfl⟩
  · rintro ⟨v, hv, hq⟩
    refine ⟨q.1, ?_, ?_⟩
    · rw [List.mem_range]
      unfold gL at hv
      rcases Nat.lt_or_ge q.1 lv.length with h | h
      · exact h
      · rw [List.getElem?_eq_none h] at hv
        cases hv
    · rw [hv]
      show some (q.1, rv B v) = some q
      rw [← hq]
def LH (B : WB) (nL : Nat) (lv : LV) (ls : Array Slot) : Prop := lv.length = nL ∧ lv_has ls nL (al B lv)
theorem LH.at {B : WB} {nL : Nat} {lv : LV} {ls : Array Slot} (h : LH B nL lv ls) {k : Nat} {v : Value} (hv : gL lv k = some v) : ls[k]? = some (.val (rv B v)) := h.2.2.2 (k, rv B v) (al_mem.mpr ⟨v, hv, rfl⟩)
theorem gL_set {lv : LV} {i k : Nat} {w : Option Value} {v : Value} (h : gL (lv.set i w) k = some v) : (k = i ∧ w = some v) ∨ (k ≠ i ∧ gL lv k = some v) := by
  unfold gL at h
  rw [List.getElem?_set] at h
  by_cases hk : i = k
  · subst hk
    rw [if_pos rfl] at h
    by_cases hl : i < lv.length
    · rw [if_pos hl] at h
      cases w with
      | none => cases h
      | some x => exact Or.inl ⟨rfl, h⟩
    · rw [if_neg hl] at h
      cases h
  · rw [if_neg hk] at h
    exact Or.inr ⟨fun e => hk e.symm, h⟩
theorem s0_succ (lv : LV) (j : Nat) : s0 lv (j + 1) = match lv[j]? with
    | some (some v) => if v.category = 2 then lv.set j none else lv
    | _ => lv := rfl
theorem gL_s0 {lv : LV} {i k : Nat} {v : Value} (h : gL (s0 lv i) k = some v) : gL lv k = some v ∧ ¬ (k + 1 = i ∧ v.category = 2) := by
  cases i with
  | zero => exact ⟨h, fun q => by omega⟩
  | succ j =>
    rw [s0_succ] at h
    cases hj : lv[j]? with
    | none =>
      rw [hj] at h
      refine ⟨h, fun q => ?_⟩
      have : k = j := by omega
      subst this
      have h : gL lv k = some v := h
      unfold gL at h
      rw [hj] at h
      cases h
    | some o => cases o with
      | none =>
        rw [hj] at h
        refine ⟨h, fun q => ?_⟩
        have : k = j := by omega
        subst this
        have h : gL lv k = some v := h
        unfold gL at h
        rw [hj] at h
        cases h
      | some w =>
        rw [hj] at h
        by_cases hc : w.category = 2
        · have h : gL (if w.category = 2 then lv.set j none else lv) k = some v := h
          rw [if_pos hc] at h
          rcases gL_set h with ⟨_, h2⟩ | ⟨h1, h2⟩
          · cases h2
          · exact ⟨h2, fun q => h1 (by omega)⟩
        · have h5 : gL (if w.category = 2 then lv.set j none else lv) k = some v := h
          rw [if_neg hc] at h5
          refine ⟨h5, fun q => ?_⟩
          have : k = j := by omega
          subst this
          unfold gL at h5
          rw [hj] at h5
          have : w = v := Option.some.inj h5
          rw [this] at hc
          exact hc q.2
theorem len_s0 (lv : LV) (i : Nat) : (s0 lv i).length = lv.length := by
  cases i with
  | zero => rfl
  | succ j =>
    rw [s0_succ]
    split
    · split
      · exact List.length_set
      · rfl
    · rfl
theorem len_s1 (lv : LV) (i : Nat) (v : Value) : (s1 lv i v).length = lv.length := by unfold s1; rw [List.length_set, len_s0]
theorem len_s2 (lv : LV) (i : Nat) (v : Value) : (s2 lv i v).length = lv.length := by unfold s2; rw [List.length_set, List.length_set, len_s0]
theorem LH.s1 {B : WB} {nL : Nat} {lv : LV} {ls ls' : Array Slot} {i : Nat} {w : Value} (h : LH B nL lv ls) (h' : lv_has ls' nL ((i, rv B w) :: (al B lv).filter (fun q => !(q.1 == i) && !(q.1 + 1 == i && q.2.category == 2)))) : LH B nL (s1 lv i w) ls' := by
  refine ⟨by rw [len_s1]; exact h.1, h'.1, h'.2.1, fun q hq => ?_⟩
  obtain ⟨v, hv, hq2⟩ := al_mem.mp hq
  rcases gL_set hv with ⟨h1, h2⟩ | ⟨h1, h2⟩
  · have : w = v := Option.some.inj h2
    refine h'.2.2 q (List.mem_cons.mpr (Or.inl ?_))
    subst this
    subst h1
    exact Prod.ext rfl hq2
  · obtain ⟨h3, h4⟩ := gL_s0 h2
    refine h'.2.2 q (List.mem_cons_of_mem _ (List.mem_filter.mpr ⟨al_mem.mpr ⟨v, h3, hq2⟩, ?_⟩))
    have hc : q.2.category = v.category := by rw [hq2, rv_cat]
    rw [hc]
    by_cases hk : q.1 + 1 = i
    · have : ¬ v.category = 2 := fun z => h4 ⟨hk, z⟩
      simp [h1, hk, this]
    · simp [h1, hk]
theorem LH.s2 {B : WB} {nL : Nat} {lv : LV} {ls ls' : Array Slot} {i : Nat} {w : Value} (h : LH B nL lv ls) (h' : lv_has ls' nL ((i, rv B w) :: (al B lv).filter (fun q => !(q.1 == i) && (!(q.1 == i + 1) && !(q.1 + 1 == i && q.2.category == 2))))) : LH B nL (s2 lv i w) ls' := by
  refine ⟨by rw [len_s2]; exact h.1, h'.1, h'.2.1, fun q hq => ?_⟩
  obtain ⟨v, hv, hq2⟩ := al_mem.mp hq
  rcases gL_set hv with ⟨_, h2⟩ | ⟨h0, hv⟩
  · cases h2
  rcases gL_set hv with ⟨h1, h2⟩ | ⟨h1, h2⟩
  · have : w = v := Option.some.inj h2
    refine h'.2.2 q (List.mem_cons.mpr (Or.inl ?_))
    subst this
    subst h1
    exact Prod.ext rfl hq2
  · obtain ⟨h3, h4⟩ := gL_s0 h2
    refine h'.2.2 q (List.mem_cons_of_mem _ (List.mem_filter.mpr ⟨al_mem.mpr ⟨v, h3, hq2⟩, ?_⟩))
    have hc : q.2.category = v.category := by rw [hq2, rv_cat]
    rw [hc]
    by_cases hk : q.1 + 1 = i
    · have : ¬ v.category = 2 := fun z => h4 ⟨hk, z⟩
      simp [h1, h0, hk, this]
    · simp [h1, h0, hk]
theorem gL_foldl {js : List Nat} {lv : LV} {k : Nat} {v : Value} (h : gL (js.foldl (fun l j => l.set j none) lv) k = some v) : gL lv k = some v := by
  induction js generalizing lv with
  | nil => exact h
  | cons j js ih =>
    rcases gL_set (ih h) with ⟨_, h2⟩ | ⟨_, h2⟩
    · cases h2
    · exact h2
theorem len_foldl (js : List Nat) (lv : LV) : (js.foldl (fun l j => l.set j none) lv).length = lv.length := by
  induction js generalizing lv with
  | nil => rfl
  | cons j js ih => rw [List.foldl_cons, ih, List.length_set]
theorem LH.mask {B : WB} {nL : Nat} {lv : LV} {ls : Array Slot} (M : MD) (pc : Nat) (h : LH B nL lv ls) : LH B nL (mK M pc lv) ls := by
  unfold mK
  split
  · exact h
  · refine ⟨by rw [len_foldl]; exact h.1, h.2.1, h.2.2.1, fun q hq => ?_⟩
    obtain ⟨v, hv, hq2⟩ := al_mem.mp hq
    exact h.2.2.2 q (al_mem.mpr ⟨v, gL_foldl hv, hq2⟩)
theorem va_rf_rv (B : WB) (r : Option Nat) : rv B (va_rf r) = va_rf (r.map (fun i => B.1 + i)) := by cases r <;> rfl
theorem lk_inv {b : Bool} {x : ON} {y : RT ⊕ CF} (h : lk b x = some y) : b = true ∧ x = some y := by
  cases b with
  | true => exact ⟨rfl, h⟩
  | false => cases h
