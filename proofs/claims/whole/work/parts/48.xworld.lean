/-! the class's side -/
theorem le64 {a b : Int32} : a.toInt64 ≤ b.toInt64 ↔ a ≤ b := by rw [Int64.le_iff_toInt_le, Int32.le_iff_toInt_le, Int32.toInt_toInt64, Int32.toInt_toInt64]
/-- a place of a row of n -/
def iN (n : Nat) (v : Int32) : Bool := decide (0 ≤ v) && decide (v < nI n)
theorem iN_ex {n : Nat} {v : Int32} (hn : n < 2 ^ 31) (h : iN n v = true) : ∃ j, j < n ∧ v = nI j := by
  unfold iN at h
  rw [Bool.and_eq_true, decide_eq_true_iff, decide_eq_true_iff] at h
  obtain ⟨j, hj, rfl⟩ := nI_of (Int32.not_lt.mpr h.1)
  exact ⟨j, (nI_ltI hj hn).mp h.2, rfl⟩
theorem iN_nI {n j : Nat} (hn : n < 2 ^ 31) (hj : j < 2 ^ 31) : iN n (nI j) = decide (j < n) := by
  unfold iN
  rw [decide_eq_true (nI_pos' hj), Bool.true_and]
  by_cases h : j < n
  · rw [decide_eq_true h, decide_eq_true (nI_lt h hn)]
  · rw [decide_eq_false h, decide_eq_false (fun q => h ((nI_ltI hj hn).mp q))]
theorem nI_m1i {n : Nat} (hn : n < 2 ^ 31) : (nI n - 1).toInt = (n : Int) - 1 := by
  rw [Int32.toInt_sub, nI_toInt hn, show (1 : Int32).toInt = 1 from rfl, Int.bmod_eq_of_le (by omega) (by omega)]
theorem iN_64 {n : Nat} (hn : n < 2 ^ 31) {v : Int32} : ((0 : Int64) ≤ v.toInt64 ∧ v.toInt64 ≤ (nI n - 1).toInt64) ↔ iN n v = true := by
  unfold iN
  rw [Bool.and_eq_true, decide_eq_true_iff, decide_eq_true_iff, show (0 : Int64) = (0 : Int32).toInt64 from rfl, le64, le64, Int32.le_iff_toInt_le (x := v), Int32.lt_iff_toInt_lt, nI_m1i hn, nI_toInt hn]
  constructor
  · rintro ⟨h1, h2⟩
    exact ⟨h1, by omega⟩
  · rintro ⟨h1, h2⟩
    exact ⟨h1, by omega⟩
/-- 1 or 0 -/
def z01 (b : Bool) : Int32 := if b = true then 1 else 0
theorem z01_0 {b : Bool} : z01 b = 0 ↔ b = false := by cases b <;> decide
theorem z01_or (b : Bool) : z01 b = 0 ∨ z01 b = 1 := by cases b <;> decide
theorem b01_z {p : Prop} [Decidable p] {b : Bool} (h : p ↔ b = true) : b01 p = z01 b := by
  unfold b01 z01
  by_cases hp : p
  · rw [if_pos hp, if_pos (h.mp hp)]
  · rw [if_neg hp, if_neg (fun q => hp (h.mpr q))]
def wiB (lo hi v : Int32) : Bool := decide (lo ≤ v) && decide (v ≤ hi)
theorem wiB_64 {lo hi v : Int32} {a b : Int64} (ha : a = lo.toInt64) (hb : b = hi.toInt64) : (a ≤ v.toInt64 ∧ v.toInt64 ≤ b) ↔ wiB lo hi v = true := by
  subst ha
  subst hb
  unfold wiB
  rw [Bool.and_eq_true, decide_eq_true_iff, decide_eq_true_iff, le64, le64]
theorem wiB_ex {lo hi : Nat} {v : Int32} {l h : Int32} (hl : l = nI lo) (hh : h = nI hi) (hb : hi < 2 ^ 31) (hlo : lo < 2 ^ 31) (hw : wiB l h v = true) : ∃ j, lo ≤ j ∧ j ≤ hi ∧ v = nI j := by
  subst hl
  subst hh
  unfold wiB at hw
  rw [Bool.and_eq_true, decide_eq_true_iff, decide_eq_true_iff] at hw
  obtain ⟨j, hj, rfl⟩ := nI_of (x := v) (fun q => absurd (Int32.lt_of_lt_of_le q (Int32.le_trans (nI_pos' hlo) hw.1)) Int32.lt_irrefl)
  exact ⟨j, (nI_leI hlo hj).mp hw.1, (nI_leI hj hb).mp hw.2, rfl⟩
/-- a rule of the class answers as f -/
def RuD (L : Nat) (xs : Nat → Int32) (sh : List Sh) (y : ST) (r : Nat) (f : (Nat → Int32) → Int64) : Prop := isRu sh r ∧ ∀ (sh' : List Sh) (z : ST) (a d : Nat), isRu sh' r → sh'[a]? = some (.inl (0, 12)) → (∀ o, r ≤ o → o < r + 7 → z.1 o = y.1 o ∧ z.2.2.2.1 o = y.2.2.2.1 o) → cJ (ZZ L xs) (d + 2) mX4_worth [.ref r, .ref a] (HP sh' z) = some (HP sh' z, f (z.2.2.2.1 a))
def isXS (sh : List Sh) : Prop := (isWM sh 0 ∧ isTa sh 1 ∧ isSc sh 3 ∧ isCk sh 183) ∧ (isTR sh 194 ∧ isRR sh 195 ∧ sh[196]? = some (.inl (4, 6)) ∧ sh[204]? = some (.inl (6, 4))) ∧ isOl sh 205 ∧ isHi sh 249 ∧ isMo sh
def Ext (sh sh' : List Sh) : Prop := ∀ (i : Nat) (s : Sh), sh[i]? = some s → sh'[i]? = some s
def XTa (y : ST) (t : Nat × (Nat → Nat)) : Prop := y.1 1 1 = nI t.1 ∧ ∀ i, i < t.1 → y.2.2.2.1 2 i = nI (t.2 i)
def XTu (y : ST) : Prop := ∀ i, i < 4 → y.2.2.2.2.2 214 i = some (217 + 8 * i)
def XIm (sh : List Sh) (y : ST) (g : Nat → Option SCN) : Prop := (∀ k, k < 4 → (g k = none → y.2.2.2.2.2 204 k = none) ∧ ∀ c, g k = some c → ∃ b : Nat, y.2.2.2.2.2 204 k = some b ∧ 307 ≤ b ∧ XSc sh y b c) ∧ ∀ j k b b', j < 4 → k < 4 → j ≠ k → y.2.2.2.2.2 204 j = some b → y.2.2.2.2.2 204 k = some b' → b + 180 ≤ b' ∨ b' + 180 ≤ b
def XRl (L : Nat) (xs : Nat → Int32) (sh : List Sh) (y : ST) (R : Nat × (Nat → (Nat → Int32) → Int64)) : Prop := y.1 0 4 = nI R.1 ∧ (∀ i, i < R.1 → ∃ r : Nat, y.2.2.2.2.2 196 i = some r ∧ (r = 197 ∨ 307 ≤ r) ∧ RuD L xs sh y r (R.2 i)) ∧ ∃ r : Nat, y.2.2.1 0 5 = .ref r ∧ isRu sh r ∧ (r = 197 ∨ 307 ≤ r) ∧ ∀ i, i < R.1 → y.2.2.2.2.2 196 i ≠ some r
def XI (L : Nat) (xs : Nat → Int32) (sh : List Sh) (y : ST) (W : WD) : Prop := isXS sh ∧ XTa y W.1 ∧ WOK (gCk y 183) ∧ XTu y ∧ XSc sh y 3 W.2.1 ∧ XIm sh y W.2.2.1 ∧ XRl L xs sh y W.2.2.2
theorem RuD_off {L : Nat} {xs : Nat → Int32} {D : Nat → Prop} {sh : List Sh} {x y : ST} {r : Nat} {f : (Nat → Int32) → Int64} (h : Off D x y) (hr : ∀ o, r ≤ o → o < r + 7 → ¬ D o) (hd : RuD L xs sh x r f) : RuD L xs sh y r f := ⟨hd.1, fun sh' z a d h1 h2 h3 => hd.2 sh' z a d h1 h2 (fun o q1 q2 => ⟨(h3 o q1 q2).1.trans (h o (hr o q1 q2)).1, (h3 o q1 q2).2.trans (h o (hr o q1 q2)).2.2.2.1⟩)⟩
theorem XTa_off {D : Nat → Prop} {x y : ST} {t : Nat × (Nat → Nat)} (h : Off D x y) (h1 : ¬ D 1) (h2 : ¬ D 2) (hx : XTa x t) : XTa y t := ⟨by rw [(h 1 h1).1]; exact hx.1, fun i hi => by rw [(h 2 h2).2.2.2.1]; exact hx.2 i hi⟩
theorem XTu_off {D : Nat → Prop} {x y : ST} (h : Off D x y) (h1 : ¬ D 214) (hx : XTu x) : XTu y := fun i hi => by rw [(h 214 h1).2.2.2.2.2]; exact hx i hi
theorem XIm_off {D : Nat → Prop} {sh : List Sh} {x y : ST} {g : Nat → Option SCN} (h : Off D x y) (h1 : ¬ D 204) (h4 : ∀ o, 4 ≤ o → o < 10 → ¬ D o) (h3 : ∀ o, 307 ≤ o → ¬ D o) (hx : XIm sh x g) : XIm sh y g := by
  have e := (h 204 h1).2.2.2.2.2
  refine ⟨fun k hk => ⟨fun hg => ?_, fun c hg => ?_⟩, fun j k b b' hj hk hjk q1 q2 => ?_⟩
  · rw [e]
    exact (hx.1 k hk).1 hg
  · obtain ⟨b, b1, b2, b3⟩ := (hx.1 k hk).2 c hg
    refine ⟨b, by rw [e]; exact b1, b2, XSc_off h (fun o ho => h3 o (by omega)) (fun t o _ ht q1 q2 => ?_) b3⟩
    rcases ht with rfl | ht
    · exact h4 o q1 (by omega)
    · exact h3 o (by omega)
  · rw [e] at q1 q2
    exact hx.2 j k b b' hj hk hjk q1 q2
theorem XRl_off {L : Nat} {xs : Nat → Int32} {D : Nat → Prop} {sh : List Sh} {x y : ST} {R : Nat × (Nat → (Nat → Int32) → Int64)} (h : Off D x y) (h0 : ¬ D 0) (h1 : ¬ D 196) (h2 : ∀ o, 197 ≤ o → o < 204 → ¬ D o) (h3 : ∀ o, 307 ≤ o → ¬ D o) (hx : XRl L xs sh x R) : XRl L xs sh y R := by
  have e := (h 196 h1).2.2.2.2.2
  obtain ⟨a1, a2, r, a3, a4, a5, a6⟩ := hx
  refine ⟨by rw [(h 0 h0).1]; exact a1, fun i hi => ?_, r, by rw [(h 0 h0).2.2.1]; exact a3, a4, a5, fun i hi => by rw [e]; exact a6 i hi⟩
  obtain ⟨q, q1, q2, q3⟩ := a2 i hi
  refine ⟨q, by rw [e]; exact q1, q2, RuD_off h (fun o w1 w2 => ?_) q3⟩
  rcases q2 with rfl | q2
  · exact h2 o w1 (by omega)
  · exact h3 o (by omega)
/-- questions write in the clock, the outlook and the history alone -/
def Dq (o : Nat) : Prop := 183 ≤ o ∧ o < 188 ∨ 205 ≤ o ∧ o < 259 ∧ o ≠ 214
theorem XI_q {L : Nat} {xs : Nat → Int32} {sh : List Sh} {x y : ST} {W : WD} (h : Off Dq x y) (hw : WOK (gCk y 183)) (hx : XI L xs sh x W) : XI L xs sh y W := by
  obtain ⟨a1, a2, a3, a4, a5, a6, a7⟩ := hx
  unfold Dq at h
  exact ⟨a1, XTa_off h (by omega) (by omega) a2, hw, XTu_off h (by omega) a4, XSc_off h (fun o ho => by omega) (fun t o _ ht q1 q2 => by omega) a5, XIm_off h (by omega) (fun o q1 q2 => by omega) (fun o q => by omega) a6, XRl_off h (by omega) (by omega) (fun o q1 q2 => by omega) (fun o q => by omega) a7⟩
/-- acts write in the scene that is now, too -/
def Da (o : Nat) : Prop := o = 3 ∨ 10 ≤ o ∧ o < 188
def setN (W : WD) (c : SCN) : WD := (W.1, c, W.2.2)
theorem XI_a {L : Nat} {xs : Nat → Int32} {sh : List Sh} {x y : ST} {W : WD} {c : SCN} (h : Off Da x y) (hw : WOK (gCk y 183)) (hc : XSc sh y 3 c) (hx : XI L xs sh x W) : XI L xs sh y (setN W c) := by
  obtain ⟨a1, a2, a3, a4, a5, a6, a7⟩ := hx
  unfold Da at h
  exact ⟨a1, XTa_off h (by omega) (by omega) a2, hw, XTu_off h (by omega) a4, hc, XIm_off h (by omega) (fun o q1 q2 => by omega) (fun o q => by omega) a6, XRl_off h (by omega) (by omega) (fun o q1 q2 => by omega) (fun o q => by omega) a7⟩
theorem XI_M {L : Nat} {xs : Nat → Int32} {sh : List Sh} {x : ST} {W : WD} {m : MM} (hx : XI L xs sh x W) : XI L xs sh (pM x m) W := by
  obtain ⟨a1, a2, a3, a4, a5, a6, a7⟩ := hx
  have h := Off_pM x m
  refine ⟨a1, XTa_off h (by omega) (by omega) a2, ?_, XTu_off h (by omega) a4, XSc_off h (fun o ho => by omega) (fun t o _ ht q1 q2 => by omega) a5, XIm_off h (by omega) (fun o q1 q2 => by omega) (fun o q => by omega) a6, XRl_off h (by omega) (by omega) (fun o q1 q2 => by omega) (fun o q => by omega) a7⟩
  rw [gCk_off h (fun o q1 q2 => by omega)]
  exact a3
section XW
variable {L : Nat} {xs : Nat → Int32} {sh : List Sh} {y : ST} {W : WD}
theorem X_town (hx : XI L xs sh y W) : ∃ t : Nat, isTo sh t ∧ (t = 4 ∨ 307 ≤ t) ∧ gTo y t = W.2.1.1.1 ∧ y.2.2.1 3 0 = .ref t ∧ fR (HP sh y) (.ref 3) 6 0 = some (.ref t) := by
  obtain ⟨a1, a2, a3, a4, ⟨b1, ⟨t, t1, t2, t3, t4⟩, -⟩, a6, a7⟩ := hx
  refine ⟨t, t2, t3, t4, t1, ?_⟩
  have := Sc_town b1 y (by rw [t1]; rfl)
  rw [this, t1]
theorem i_within (d : Nat) (v lo hi : Int32) (ph : PH) : cI (ZZ L xs) (d + 1) mX12_within [.int v, .int lo, .int hi] ph = some (ph, z01 (wiB lo hi v)) := by
  refine cI_of ?_
  show RS (ZZ L xs) (d + 1) mX12_within 0 [some (.int v), some (.int lo), some (.int hi)] [] ph = _
  unfold wiB
  rw [bX12_within_0]
  by_cases h1 : v < lo
  · rw [if_pos h1, bX12_within_14, bX12_within_15, if_pos (Or.inl rfl), decide_eq_false (Int32.not_le.mpr h1)]
    rfl
  · rw [if_neg h1]
    by_cases h2 : hi < v
    · rw [if_pos h2, bX12_within_14, bX12_within_15, if_pos (Or.inl rfl), decide_eq_false (Int32.not_le.mpr h2), Bool.and_false]
      rfl
    · rw [if_neg h2, bX12_within_15, if_pos (Or.inr rfl), decide_eq_true (Int32.not_lt.mp h1), decide_eq_true (Int32.not_lt.mp h2)]
      rfl
theorem i_inM (d : Nat) {lo hi : Int32} {a b : Int64} (ha : a = lo.toInt64) (hb : b = hi.toInt64) (v : Int32) (ph : PH) : cI (ZZ L xs) (d + 1) mX13_in [.long v.toInt64, .long a, .long b] ph = some (ph, z01 (wiB lo hi v)) := by
  rw [i_in d, b01_z (wiB_64 ha hb)]
theorem i_hasTown (d : Nat) (hx : XI L xs sh y W) (hv : VW W) : cI (ZZ L xs) (d + 1) mX12_hasTown [.ref 0] (HP sh y) = some (HP sh y, z01 (decide (0 < W.2.1.1.2.1))) := by
  obtain ⟨t, t1, -, t3, -, t4⟩ := X_town hx
  have hp : y.1 t 0 = nI W.2.1.1.2.1 := by
    have := hv.2.1.1.1.2.1
    rw [← t3] at this
    exact this
  have h8 : W.2.1.1.2.1 ≤ 8 := hv.2.1.1.1.2.2.2.2.1.1
  refine cI_of ?_
  show RS (ZZ L xs) (d + 1) mX12_hasTown 0 [some (.ref 0)] [] _ = _
  rw [bX12_hasTown_0, WM_now hx.1.1.1, some_bind', t4, some_bind', To_places t1, some_bind', hp]
  by_cases h : 0 < W.2.1.1.2.1
  · rw [if_neg (nI_nle h (by omega)), bX12_hasTown_18, if_pos (Or.inr rfl), decide_eq_true h]
    rfl
  · rw [show W.2.1.1.2.1 = 0 by omega, if_pos (by decide), bX12_hasTown_18, if_pos (Or.inl rfl)]
    rfl
theorem i_isPlace (d : Nat) (hx : XI L xs sh y W) (hv : VW W) (v : Int32) : cI (ZZ L xs) (d + 1) mX12_isPlace [.ref 0, .int v] (HP sh y) = some (HP sh y, z01 (iN W.2.1.1.2.1 v)) := by
  obtain ⟨t, t1, -, t3, -, t4⟩ := X_town hx
  have hp : y.1 t 0 = nI W.2.1.1.2.1 := by
    have := hv.2.1.1.1.2.1
    rw [← t3] at this
    exact this
  refine cI_of ?_
  show RS (ZZ L xs) (d + 1) mX12_isPlace 0 [some (.ref 0), some (.int v)] [] _ = _
  unfold iN
  rw [bX12_isPlace_0]
  by_cases h : v < 0
  · rw [if_pos h, bX12_isPlace_22, bX12_isPlace_23, if_pos (Or.inl rfl), decide_eq_false (Int32.not_le.mpr h)]
    rfl
  · rw [if_neg h, WM_now hx.1.1.1, some_bind', t4, some_bind', To_places t1, some_bind', hp]
    by_cases h2 : nI W.2.1.1.2.1 ≤ v
    · rw [if_pos h2, bX12_isPlace_22, bX12_isPlace_23, if_pos (Or.inl rfl), decide_eq_false (Int32.not_lt.mpr h2), Bool.and_false]
      rfl
    · rw [if_neg h2, bX12_isPlace_23, if_pos (Or.inr rfl), decide_eq_true (Int32.not_lt.mp h), decide_eq_true (Int32.not_le.mp h2)]
      rfl
theorem i_isPerson (d : Nat) (hx : XI L xs sh y W) (hv : VW W) (v : Int32) : cI (ZZ L xs) (d + 1) mX12_isPerson [.ref 0, .int v] (HP sh y) = some (HP sh y, z01 (iN W.2.1.1.2.2.1 v)) := by
  obtain ⟨t, t1, -, t3, -, t4⟩ := X_town hx
  have hp : y.1 t 2 = nI W.2.1.1.2.2.1 := by
    have := hv.2.1.1.1.1.1
    rw [← t3] at this
    exact this
  refine cI_of ?_
  show RS (ZZ L xs) (d + 1) mX12_isPerson 0 [some (.ref 0), some (.int v)] [] _ = _
  unfold iN
  rw [bX12_isPerson_0]
  by_cases h : v < 0
  · rw [if_pos h, bX12_isPerson_22, bX12_isPerson_23, if_pos (Or.inl rfl), decide_eq_false (Int32.not_le.mpr h)]
    rfl
  · rw [if_neg h, WM_now hx.1.1.1, some_bind', t4, some_bind', To_people t1, some_bind', hp]
    by_cases h2 : nI W.2.1.1.2.2.1 ≤ v
    · rw [if_pos h2, bX12_isPerson_22, bX12_isPerson_23, if_pos (Or.inl rfl), decide_eq_false (Int32.not_lt.mpr h2), Bool.and_false]
      rfl
    · rw [if_neg h2, bX12_isPerson_23, if_pos (Or.inr rfl), decide_eq_true (Int32.not_lt.mp h), decide_eq_true (Int32.not_le.mp h2)]
      rfl
theorem i_isStranger (d : Nat) (hx : XI L xs sh y W) (hv : VW W) (v : Int32) : cI (ZZ L xs) (d + 1) mX12_isStranger [.ref 0, .int v] (HP sh y) = some (HP sh y, z01 (iN W.2.1.1.2.2.2 v)) := by
  obtain ⟨t, t1, -, t3, -, t4⟩ := X_town hx
  have hp : y.1 t 3 = nI W.2.1.1.2.2.2 := by
    have := hv.2.1.1.1.1.2.2.1
    rw [← t3] at this
    exact this
  refine cI_of ?_
  show RS (ZZ L xs) (d + 1) mX12_isStranger 0 [some (.ref 0), some (.int v)] [] _ = _
  unfold iN
  rw [bX12_isStranger_0]
  by_cases h : v < 0
  · rw [if_pos h, bX12_isStranger_22, bX12_isStranger_23, if_pos (Or.inl rfl), decide_eq_false (Int32.not_le.mpr h)]
    rfl
  · rw [if_neg h, WM_now hx.1.1.1, some_bind', t4, some_bind', To_strangers t1, some_bind', hp]
    by_cases h2 : nI W.2.1.1.2.2.2 ≤ v
    · rw [if_pos h2, bX12_isStranger_22, bX12_isStranger_23, if_pos (Or.inl rfl), decide_eq_false (Int32.not_lt.mpr h2), Bool.and_false]
      rfl
    · rw [if_neg h2, bX12_isStranger_23, if_pos (Or.inr rfl), decide_eq_true (Int32.not_lt.mp h), decide_eq_true (Int32.not_le.mp h2)]
      rfl
/-- a reference to a rule that answers as R -/
def RuV (L : Nat) (xs : Nat → Int32) (sh : List Sh) (y : ST) (v : Value) : Option ((Nat → Int32) → Int64) → Prop
  | none => v = .null
  | some f => ∃ r : Nat, v = .ref r ∧ (r = 197 ∨ 307 ≤ r) ∧ cgF f ∧ RuD L xs sh y r f
theorem RuV_off {D : Nat → Prop} {x : ST} {v : Value} {R : Option ((Nat → Int32) → Int64)} (h : Off D x y) (h2 : ∀ o, 197 ≤ o → o < 204 → ¬ D o) (h3 : ∀ o, 307 ≤ o → ¬ D o) (hw : RuV L xs sh x v R) : RuV L xs sh y v R := by
  cases R with
  | none => exact hw
  | some f =>
    obtain ⟨r, r1, r2, r3, r4⟩ := hw
    refine ⟨r, r1, r2, r3, RuD_off h (fun o w1 w2 => ?_) r4⟩
    rcases r2 with rfl | r2
    · exact h2 o w1 (by omega)
    · exact h3 o (by omega)
/-- the clock, wound: the town, the rule, who sends wrong -/
def Wnd (L : Nat) (xs : Nat → Int32) (sh : List Sh) (y : ST) (t : Nat) (R : Option ((Nat → Int32) → Int64)) (wr : Int32) : Prop := y.2.2.1 183 3 = .ref t ∧ y.1 183 5 = wr ∧ RuV L xs sh y (y.2.2.1 183 4) R
theorem Wnd_off {D : Nat → Prop} {x : ST} {t : Nat} {R : Option ((Nat → Int32) → Int64)} {wr : Int32} (h : Off D x y) (h0 : ¬ D 183) (h2 : ∀ o, 197 ≤ o → o < 204 → ¬ D o) (h3 : ∀ o, 307 ≤ o → ¬ D o) (hw : Wnd L xs sh x t R wr) : Wnd L xs sh y t R wr := by
  obtain ⟨a1, a2, a3⟩ := hw
  refine ⟨by rw [(h 183 h0).2.2.1]; exact a1, by rw [(h 183 h0).1]; exact a2, ?_⟩
  rw [(h 183 h0).2.2.1]
  exact RuV_off h h2 h3 a3
theorem RuOK_of {t : Nat} {R : Option ((Nat → Int32) → Int64)} {wr : Int32} {b : Nat} (hC : isCk sh 183) (hb : b + 8 ≤ 197 ∨ 204 ≤ b ∧ b + 8 ≤ 307) (hw : Wnd L xs sh y t R wr) : RuOK L xs sh y b 183 R := by
  obtain ⟨a1, a2, a3⟩ := hw
  cases R with
  | none => exact a3
  | some f =>
    obtain ⟨r, r1, r2, r3, r4⟩ := a3
    refine ⟨r, r1, r4.1, r3, fun d s v => ?_⟩
    have := r4.2 sh (KK y b 183 s v) 187 d r4.1 (Ckn_words hC) (fun o w1 w2 => ⟨?_, ?_⟩)
    · rw [this, K_words]
    · funext k
      exact K_I _ _ _ _ (by omega)
    · exact K_A _ _ _ (by omega) (by omega)
/-- the rule with a number -/
theorem r_ruleN (d : Nat) (hx : XI L xs sh y W) (hv : VW W) (fo : Int32) (hf : fo = -1 ∨ ∃ r : Nat, r < W.2.2.2.1 ∧ fo = nI r) : ∃ v, isR v = true ∧ cR (ZZ L xs) (d + 1) mX12_ruleNumbered [.ref 0, .int fo] (HP sh y) = some (HP sh y, v) ∧ RuV L xs sh y v (RF W fo) := by
  have h6 : W.2.2.2.1 ≤ 6 := hv.2.2.2.1
  rcases hf with rfl | ⟨r, hr, rfl⟩
  · refine ⟨.null, rfl, cR_of rfl ?_, by unfold RF; rw [if_pos rfl]; rfl⟩
    show RS (ZZ L xs) (d + 1) mX12_ruleNumbered 0 [some (.ref 0), some (.int (-1))] [] _ = _
    rw [bX12_ruleNumbered_0, if_pos (by decide), bX12_ruleNumbered_21, bX12_ruleNumbered_22 (hw0 := rfl)]
  · obtain ⟨a1, a2, -⟩ := hx.2.2.2.2.2.2
    obtain ⟨q, q1, q2, q3⟩ := a2 r hr
    refine ⟨.ref q, rfl, cR_of rfl ?_, ?_⟩
    · show RS (ZZ L xs) (d + 1) mX12_ruleNumbered 0 [some (.ref 0), some (.int (nI r))] [] _ = _
      rw [bX12_ruleNumbered_0, if_neg (nI_pos (by omega)), WM_ruleCount hx.1.1.1, some_bind', a1, if_neg (nI_ge hr (by omega)), WM_rules hx.1.1.1, some_bind', rAR (by omega) hx.1.2.1.2.2.1 (by omega) (by decide), q1, some_bind']
      exact bX12_ruleNumbered_22 (hw0 := rfl) ..
    · rw [RF_some rfl (by omega)]
      exact ⟨q, rfl, q2, hv.2.2.2.2 r hr, q3⟩
theorem v_wind (d : Nat) (hC : isCk sh 183) {t : Nat} {v : Value} (hv : isR v = true) (wr : Int32) (y : ST) : cV (ZZ L xs) (d + 1) mX0_wind [.ref 183, .ref t, v, .int wr] (HP sh y) = some (HP sh (sI (sR (sR y 183 3 (.ref t)) 183 4 v) 183 5 wr)) := by
  refine cV_of ?_
  have e : ent mX0_wind [.ref 183, .ref t, v, .int wr] = [some (.ref 183), some (.ref t), some v, some (.int wr)] := by
    cases v <;> first | rfl | cases hv
  show RS (ZZ L xs) (d + 1) mX0_wind 0 (ent mX0_wind [.ref 183, .ref t, v, .int wr]) [] _ = _
  rw [e, bX0_wind_0 (hv1 := rfl) (hv2 := hv), Ckw_town hC, some_bind', Ckw_rule hC, some_bind', Ckw_wrong hC, some_bind']
theorem Wnd_wind {t : Nat} {v : Value} {R : Option ((Nat → Int32) → Int64)} (wr : Int32) (hR : RuV L xs sh y v R) : Wnd L xs sh (sI (sR (sR y 183 3 (.ref t)) 183 4 v) 183 5 wr) t R wr := by
  have hoff : Off (fun o => o = 183) y (sI (sR (sR y 183 3 (.ref t)) 183 4 v) 183 5 wr) := Off_sI (Off_sR (Off_sR (Off_refl _ _) (by rfl) _ _) (by rfl) _ _) (by rfl) _ _
  exact ⟨rfl, rfl, RuV_off hoff (fun o w1 w2 => by omega) (fun o w => by omega) hR⟩
/-- what stands behind windClock -/
theorem v_windClock (d : Nat) (hx : XI L xs sh y W) (hv : VW W) : ∃ (z : ST) (t : Nat), cV (ZZ L xs) (d + 2) mX12_windClock [.ref 0] (HP sh y) = some (HP sh z) ∧ Off (fun o => o = 183) y z ∧ XI L xs sh z W ∧ isTo sh t ∧ (t = 4 ∨ 307 ≤ t) ∧ gTo z t = W.2.1.1.1 ∧ Wnd L xs sh z t (RF W W.2.1.2.2.2.1.1) (W.2.1.1.1.1 5) := by
  obtain ⟨t, t1, t2, t3, t0, t4⟩ := X_town hx
  have hC : isCk sh 183 := hx.1.1.2.2.2
  have hfo : y.1 3 3 = W.2.1.2.2.2.1.1 := hx.2.2.2.2.1.2.2.2.2.1
  have hwr : y.1 t 5 = W.2.1.1.1.1 5 := by rw [← t3]; rfl
  obtain ⟨v, v1, v2, v3⟩ := r_ruleN (L := L) (xs := xs) d hx hv W.2.1.2.2.2.1.1 hv.2.1.2
  have hoff : Off (fun o => o = 183) y (sI (sR (sR y 183 3 (.ref t)) 183 4 v) 183 5 (W.2.1.1.1.1 5)) := Off_sI (Off_sR (Off_sR (Off_refl _ _) (by rfl) _ _) (by rfl) _ _) (by rfl) _ _
  refine ⟨sI (sR (sR y 183 3 (.ref t)) 183 4 v) 183 5 (W.2.1.1.1.1 5), t, cV_of ?_, hoff, ?_, t1, t2, ?_, Wnd_wind _ v3⟩
  · show RS (ZZ L xs) (d + 2) mX12_windClock 0 [some (.ref 0)] [] _ = _
    rw [bX12_windClock_0, WM_clock hx.1.1.1, some_bind', WM_now hx.1.1.1, some_bind', t4, some_bind', some_bind', Sc_force hx.1.1.2.2.1, some_bind', hfo, WM_is hx.1.1.1, some_bind', v2, some_bind']
    show ((fR (HP sh y) (.ref 0) 12 6).bind _) = _
    rw [WM_now hx.1.1.1, some_bind', t4, some_bind', To_wrong t1, some_bind', hwr, Ck_is hC, some_bind', v_wind d hC v1, some_bind']
  · refine XI_q (Off_mono hoff (fun o q => by unfold Dq; omega)) ?_ hx
    rw [gCk_off hoff (fun o q1 q2 => by omega)]
    exact hx.2.2.1
  · rw [gTo_off hoff (fun o q1 q2 => by omega)]
    exact t3
end XW
