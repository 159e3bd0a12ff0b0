/-! texts: bytes, words, numbers -/
abbrev TP : Type := Nat × (Nat → Nat)
def Bt (T : TP) (s : Nat) : Nat := if s < T.1 then T.2 s else 256
def isB (b : Nat) : Bool := decide (b = 32)
def isL (b : Nat) : Bool := decide (97 ≤ b) && decide (b ≤ 122)
def isD (b : Nat) : Bool := decide (48 ≤ b) && decide (b ≤ 57)
theorem isL_iff {b : Nat} : isL b = true ↔ 97 ≤ b ∧ b ≤ 122 := by
  unfold isL
  rw [Bool.and_eq_true, decide_eq_true_iff, decide_eq_true_iff]
theorem isD_iff {b : Nat} : isD b = true ↔ 48 ≤ b ∧ b ≤ 57 := by
  unfold isD
  rw [Bool.and_eq_true, decide_eq_true_iff, decide_eq_true_iff]
/-- as far as bytes of a kind go on -/
def rnF (P : Nat → Bool) (T : TP) : Nat → Nat → Nat
  | 0, s => s
  | f + 1, s => if P (Bt T s) = true then rnF P T f (s + 1) else s
def rn (P : Nat → Bool) (T : TP) (s : Nat) : Nat := rnF P T (T.1 - s) s
theorem Bt_lt {T : TP} {s : Nat} (h : s < T.1) : Bt T s = T.2 s := if_pos h
theorem Bt_ge {T : TP} {s : Nat} (h : T.1 ≤ s) : Bt T s = 256 := if_neg (by omega)
theorem rn_eq {P : Nat → Bool} (hP : P 256 = false) (T : TP) (s : Nat) : rn P T s = if P (Bt T s) = true then rn P T (s + 1) else s := by
  unfold rn
  by_cases h : T.1 ≤ s
  · rw [show T.1 - s = 0 by omega, Bt_ge h, if_neg (by rw [hP]; decide)]
    rfl
  · rw [show T.1 - s = (T.1 - (s + 1)) + 1 by omega]
    rfl
theorem rn_pos {P : Nat → Bool} (hP : P 256 = false) {T : TP} {s : Nat} (h : P (Bt T s) = true) : rn P T s = rn P T (s + 1) := by rw [rn_eq hP, if_pos h]
theorem rn_neg {P : Nat → Bool} (hP : P 256 = false) {T : TP} {s : Nat} (h : ¬ P (Bt T s) = true) : rn P T s = s := by rw [rn_eq hP, if_neg h]
theorem rnF_le (P : Nat → Bool) (T : TP) : ∀ f s, s ≤ rnF P T f s ∧ rnF P T f s ≤ s + f
  | 0, s => ⟨Nat.le_refl _, Nat.le_refl _⟩
  | f + 1, s => by
    have ih := rnF_le P T f (s + 1)
    show s ≤ (if P (Bt T s) = true then rnF P T f (s + 1) else s) ∧ (if P (Bt T s) = true then rnF P T f (s + 1) else s) ≤ s + (f + 1)
    by_cases h : P (Bt T s) = true
    · rw [if_pos h]
      omega
    · rw [if_neg h]
      omega
theorem rn_le (P : Nat → Bool) (T : TP) (s : Nat) : s ≤ rn P T s := (rnF_le P T _ s).1
theorem rn_top (P : Nat → Bool) {T : TP} {s : Nat} (h : s ≤ T.1) : rn P T s ≤ T.1 := by
  have := (rnF_le P T (T.1 - s) s).2
  unfold rn
  omega
theorem rn_top2 (P : Nat → Bool) {T : TP} {s n : Nat} (h : s ≤ n) (hn : T.1 ≤ n) : rn P T s ≤ n := by
  have := (rnF_le P T (T.1 - s) s).2
  unfold rn
  omega
theorem rn_out {P : Nat → Bool} (hP : P 256 = false) : ∀ (f : Nat) {T : TP} {s : Nat}, T.1 - s ≤ f → ¬ P (Bt T (rn P T s)) = true := by
  intro f
  induction f with
  | zero =>
    intro T s h
    have q : ¬ P (Bt T s) = true := by rw [Bt_ge (by omega), hP]; decide
    rw [rn_neg hP q]
    exact q
  | succ f ih =>
    intro T s h
    by_cases q : P (Bt T s) = true
    · rw [rn_pos hP q]
      exact ih (by omega)
    · rw [rn_neg hP q]
      exact q
theorem rn_stop {P : Nat → Bool} (hP : P 256 = false) (T : TP) (s : Nat) : ¬ P (Bt T (rn P T s)) = true := rn_out hP _ (Nat.le_refl _)
theorem rn_rn {P : Nat → Bool} (hP : P 256 = false) (T : TP) (s : Nat) : rn P T (rn P T s) = rn P T s := rn_neg hP (rn_stop hP T s)
def kd (T : TP) (s : Nat) : Nat := if T.1 ≤ s then 0 else if isL (Bt T s) = true then 1 else if isD (Bt T s) = true then 2 else 3
def jE (T : TP) (s : Nat) : Bool := (decide (Bt T s = 60) || decide (Bt T s = 62)) && decide (Bt T (s + 1) = 61)
def en (T : TP) (s : Nat) : Nat := if kd T s = 0 then s else if kd T s = 1 then rn isL T s else if kd T s = 2 then rn isD T s else if jE T s = true then s + 2 else s + 1
def nx' (T : TP) (s : Nat) : Nat := rn isB T (en T s)
theorem kd_L {T : TP} {s : Nat} : kd T s = 1 ↔ isL (Bt T s) = true := by
  unfold kd
  by_cases h : T.1 ≤ s
  · rw [if_pos h, Bt_ge h]
    decide
  · rw [if_neg h]
    by_cases q : isL (Bt T s) = true
    · rw [if_pos q]
      exact ⟨fun _ => q, fun _ => rfl⟩
    · rw [if_neg q]
      refine ⟨fun z => ?_, fun z => absurd z q⟩
      split at z <;> omega
theorem kd_D {T : TP} {s : Nat} : kd T s = 2 ↔ isD (Bt T s) = true := by
  unfold kd
  by_cases h : T.1 ≤ s
  · rw [if_pos h, Bt_ge h]
    decide
  · rw [if_neg h]
    by_cases q : isL (Bt T s) = true
    · rw [if_pos q]
      refine ⟨fun z => by omega, fun z => ?_⟩
      have := isL_iff.mp q
      have := isD_iff.mp z
      omega
    · rw [if_neg q]
      by_cases r : isD (Bt T s) = true
      · rw [if_pos r]
        exact ⟨fun _ => r, fun _ => rfl⟩
      · rw [if_neg r]
        exact ⟨fun z => by omega, fun z => absurd z r⟩
theorem kd_0 {T : TP} {s : Nat} : kd T s = 0 ↔ T.1 ≤ s := by
  unfold kd
  by_cases h : T.1 ≤ s
  · rw [if_pos h]
    exact ⟨fun _ => h, fun _ => rfl⟩
  · rw [if_neg h]
    refine ⟨fun z => ?_, fun z => absurd z h⟩
    split at z
    · omega
    · split at z <;> omega
theorem kd_3 (T : TP) (s : Nat) : kd T s ≤ 3 := by
  unfold kd
  split
  · omega
  · split
    · omega
    · split <;> omega
theorem jE_iff {T : TP} {s : Nat} : jE T s = true ↔ (Bt T s = 60 ∨ Bt T s = 62) ∧ Bt T (s + 1) = 61 := by
  unfold jE
  rw [Bool.and_eq_true, Bool.or_eq_true, decide_eq_true_iff, decide_eq_true_iff, decide_eq_true_iff]
theorem Bt_in {T : TP} {s : Nat} (h : Bt T s < 256) : s < T.1 := by
  by_cases q : T.1 ≤ s
  · rw [Bt_ge q] at h
    omega
  · omega
theorem en_le {T : TP} {s : Nat} (h : s ≤ T.1) : s ≤ en T s ∧ en T s ≤ T.1 := by
  unfold en
  by_cases h0 : kd T s = 0
  · rw [if_pos h0]
    omega
  · have hs : s < T.1 := Nat.lt_of_not_le (fun q => h0 (kd_0.mpr q))
    rw [if_neg h0]
    by_cases h1 : kd T s = 1
    · rw [if_pos h1]
      exact ⟨rn_le _ _ _, rn_top _ h⟩
    · rw [if_neg h1]
      by_cases h2 : kd T s = 2
      · rw [if_pos h2]
        exact ⟨rn_le _ _ _, rn_top _ h⟩
      · rw [if_neg h2]
        by_cases hj : jE T s = true
        · rw [if_pos hj]
          have := Bt_in (show Bt T (s + 1) < 256 by rw [(jE_iff.mp hj).2]; decide)
          omega
        · rw [if_neg hj]
          omega
theorem en_lt {T : TP} {s : Nat} (h : s < T.1) : s < en T s := by
  unfold en
  have h0 : ¬ kd T s = 0 := fun q => by have := kd_0.mp q; omega
  rw [if_neg h0]
  by_cases h1 : kd T s = 1
  · rw [if_pos h1, rn_pos (by decide) (kd_L.mp h1)]
    exact rn_le _ _ _
  · rw [if_neg h1]
    by_cases h2 : kd T s = 2
    · rw [if_pos h2, rn_pos (by decide) (kd_D.mp h2)]
      exact rn_le _ _ _
    · rw [if_neg h2]
      split <;> omega
theorem nx_le {T : TP} {s : Nat} (h : s ≤ T.1) : s ≤ nx' T s ∧ nx' T s ≤ T.1 := by
  have := en_le h
  have := rn_le isB T (en T s)
  have := rn_top isB (show en T s ≤ T.1 by omega)
  unfold nx'
  omega
theorem nx_lt {T : TP} {s : Nat} (h : s < T.1) : s < nx' T s := by
  have := en_lt h
  have := rn_le isB T (en T s)
  unfold nx'
  omega
/-- a word stands there -/
def eqAt (T : TP) : Nat → List Nat → Bool
  | _, [] => true
  | s, c :: w => decide (Bt T s = c) && eqAt T (s + 1) w
theorem eqAt_c (T : TP) (s c : Nat) (w : List Nat) : eqAt T s (c :: w) = (decide (Bt T s = c) && eqAt T (s + 1) w) := rfl
def wdIs (T : TP) (s : Nat) (w : List Nat) : Bool := decide (rn isL T s = s + w.length) && eqAt T s w
theorem wdIs_kd {T : TP} {s : Nat} {w : List Nat} (hw : w ≠ []) (h : ¬ kd T s = 1) : wdIs T s w = false := by
  unfold wdIs
  rw [rn_neg (by decide) (fun q => h (kd_L.mpr q))]
  cases w with
  | nil => exact absurd rfl hw
  | cons c w => rw [decide_eq_false (by rw [List.length_cons]; omega), Bool.false_and]
theorem wdIs_en {T : TP} {s : Nat} {w : List Nat} (hw : w ≠ []) (h : wdIs T s w = true) : kd T s = 1 ∧ en T s = s + w.length := by
  have hk : kd T s = 1 := Classical.byContradiction fun q => by rw [wdIs_kd hw q] at h; cases h
  refine ⟨hk, ?_⟩
  unfold en
  rw [if_neg (by omega), if_pos hk]
  unfold wdIs at h
  rw [Bool.and_eq_true, decide_eq_true_iff] at h
  exact h.1
/-- the number there: its first five digits -/
def nvF (T : TP) : Nat → Nat → Nat → Nat
  | 0, _, a => a
  | f + 1, s, a => nvF T f (s + 1) (a * 10 + (Bt T s - 48))
def nv (T : TP) (s : Nat) : Nat := nvF T (rn isD T s - s) s 0
theorem nvF_lt {T : TP} : ∀ (f s a k : Nat), (∀ j, j < f → isD (Bt T (s + j)) = true) → a < 10 ^ k → nvF T f s a < 10 ^ (k + f)
  | 0, _, _, _, _, h => h
  | f + 1, s, a, k, hd, h => by
    have h0 := isD_iff.mp (hd 0 (by omega))
    have hp : 10 ^ (k + 1) = 10 ^ k * 10 := Nat.pow_succ 10 k
    have := nvF_lt f (s + 1) (a * 10 + (Bt T s - 48)) (k + 1) (fun j hj => by rw [show s + 1 + j = s + (j + 1) by omega]; exact hd (j + 1) (by omega)) (by rw [Nat.add_zero] at h0; omega)
    rw [show k + (f + 1) = k + 1 + f by omega]
    exact this
theorem rn_all {P : Nat → Bool} (hP : P 256 = false) {T : TP} : ∀ (f s : Nat), T.1 - s ≤ f → ∀ j, j < rn P T s - s → P (Bt T (s + j)) = true
  | 0, s, hf, j, hj => by
    have q : ¬ P (Bt T s) = true := by rw [Bt_ge (by omega), hP]; decide
    rw [rn_neg hP q] at hj
    omega
  | f + 1, s, hf, j, hj => by
    by_cases q : P (Bt T s) = true
    · rw [rn_pos hP q] at hj
      cases j with
      | zero => exact q
      | succ j =>
        rw [show s + (j + 1) = s + 1 + j by omega]
        exact rn_all hP f (s + 1) (by omega) j (by omega)
    · rw [rn_neg hP q] at hj
      omega
theorem nv_lt {T : TP} {s : Nat} (h : rn isD T s - s ≤ 5) : nv T s < 100000 := by
  have h1 := nvF_lt (T := T) (rn isD T s - s) s 0 0 (rn_all (by decide) _ s (Nat.le_refl _)) (by decide)
  have h2 : 10 ^ (0 + (rn isD T s - s)) ≤ 10 ^ 5 := Nat.pow_le_pow_right (by decide) (by omega)
  have h3 : 10 ^ 5 = 100000 := by decide
  unfold nv
  omega
/-! the String constants -/
def isS (k : Nat) (w : List Nat) : Prop := sByt.getD k [] = w.map nI ∧ sLen.getD k 0 = w.length ∧ k < 30
section STR
variable {L : Nat} {xs : Nat → Int32} {k : Nat} {w : List Nat}
theorem oJ_of (h : isS k w) : oJ (ZZ L xs) k = some (w.length, fun j => nI (w.getD j 0)) := by
  show sJ k = _
  unfold sJ
  rw [if_pos h.2.2, h.2.1, h.1]
  congr 2
  funext j
  rw [List.getD_eq_getElem?_getD, List.getD_eq_getElem?_getD, List.getElem?_map]
  cases w[j]? <;> rfl
theorem sN_of (h : isS k w) : sN (ZZ L xs) (.retAddr (k + 1)) = some (nI w.length) := by
  show (oJ (ZZ L xs) k).map _ = _
  rw [oJ_of h]
  rfl
theorem sC_of (h : isS k w) {j : Nat} (hj : j < w.length) (hw : w.length < 2 ^ 31) : sC (ZZ L xs) (.retAddr (k + 1)) (nI j) = some (nI (w.getD j 0)) := by
  show (oJ (ZZ L xs) k).bind _ = _
  rw [oJ_of h, some_bind']
  show (if ¬ (nI j < 0 ∨ w.length ≤ (nI j).toNatClampNeg) then some (nI (w.getD (nI j).toNatClampNeg 0)) else none) = _
  rw [if_pos (nI_in hj hw), nI_clamp (by omega)]
theorem sIx_of (n c : Nat) (hc : c < 2 ^ 31) (u : List Nat) (hb : ∀ x, x ∈ w → x < 2 ^ 31) (hw : w.length < 2 ^ 31) : ∀ v, w = u ++ v → (0 ≤ sIx n (fun j => nI (w.getD j 0)) (nI c) v.length u.length ↔ c ∈ v) := by
  intro v
  induction v generalizing u with
  | nil =>
    intro _
    exact ⟨fun z => absurd (show (0 : Int32) ≤ -1 from z) (by decide), fun z => by cases z⟩
  | cons a v ih =>
    intro hv
    have ha : w.getD u.length 0 = a := by
      rw [hv, List.getD_eq_getElem?_getD]
      simp
    show (0 ≤ (if nI (w.getD u.length 0) = nI c then Int32.ofNat u.length else sIx n (fun j => nI (w.getD j 0)) (nI c) v.length (u.length + 1)) ↔ c ∈ a :: v)
    rw [ha]
    have hul : u.length < 2 ^ 31 := by rw [hv, List.length_append] at hw; omega
    by_cases q : a = c
    · rw [if_pos (by rw [q])]
      exact ⟨fun _ => by rw [q]; exact List.mem_cons_self, fun _ => nI_pos' hul⟩
    · rw [if_neg (fun z => q ((nI_eq (hb a (by rw [hv]; simp)) hc).mp z))]
      have := ih (u ++ [a]) (by rw [hv]; simp)
      rw [List.length_append] at this
      rw [List.mem_cons]
      refine this.trans ⟨Or.inr, fun z => ?_⟩
      rcases z with z | z
      · exact absurd z.symm q
      · exact z
end STR
