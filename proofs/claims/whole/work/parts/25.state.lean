/-! a State as a value: (hour, chain, come), open, seven rows -/
abbrev SV : Type := (Int32 × Int32 × Int32) × Int64 × (Nat → Nat → Int32)
def gSt (x : ST) (b : Nat) : SV := ((x.1 b 0, x.1 b 1, x.1 b 2), x.2.1 b 3, fun j => x.2.2.2.1 (b + 1 + j))
def rowI (f : Nat → Nat → Int32) (b : Nat) (s : SV) : Nat → Nat → Int32 := fun o k => if o = b then (if k = 0 then s.1.1 else if k = 1 then s.1.2.1 else if k = 2 then s.1.2.2 else f o k) else f o k
def pSt (x : ST) (b : Nat) (s : SV) : ST := (rowI x.1 b s, (fun o k => if o = b ∧ k = 3 then s.2.1 else x.2.1 o k), x.2.2.1, (fun a => if b + 1 ≤ a ∧ a < b + 8 then s.2.2 (a - (b + 1)) else x.2.2.2.1 a), x.2.2.2.2)
theorem pSt_self (x : ST) (b : Nat) : pSt x b (gSt x b) = x := by
  obtain ⟨i, j, r, a, q⟩ := x
  unfold pSt gSt rowI
  simp only [Prod.mk.injEq]
  refine ⟨?_, ?_, trivial, ?_, trivial⟩
  · funext o k
    by_cases h : o = b
    · subst h
      by_cases h0 : k = 0
      · simp [h0]
      · by_cases h1 : k = 1
        · simp [h1]
        · by_cases h2 : k = 2
          · simp [h2]
          · simp [h0, h1, h2]
    · simp [h]
  · funext o k
    by_cases h : o = b ∧ k = 3
    · simp [h]
    · simp [h]
  · funext o
    by_cases h : b + 1 ≤ o ∧ o < b + 8
    · rw [if_pos h, show b + 1 + (o - (b + 1)) = o by omega]
    · rw [if_neg h]
theorem pSt_pSt (x : ST) (b : Nat) (s t : SV) : pSt (pSt x b s) b t = pSt x b t := by
  unfold pSt rowI
  simp only [Prod.mk.injEq]
  refine ⟨?_, ?_, trivial, ?_, trivial⟩
  · funext o k
    by_cases h : o = b
    · subst h
      by_cases h0 : k = 0
      · simp [h0]
      · by_cases h1 : k = 1
        · simp [h1]
        · by_cases h2 : k = 2
          · simp [h2]
          · simp [h0, h1, h2]
    · simp [h]
  · funext o k
    by_cases h : o = b ∧ k = 3
    · simp [h]
    · simp [h]
  · funext o
    by_cases h : b + 1 ≤ o ∧ o < b + 8
    · rw [if_pos h, if_pos h]
    · rw [if_neg h, if_neg h, if_neg h]
/-- what is written of a state is its value's -/
theorem pSt_A (x : ST) (b : Nat) (s : SV) (j : Nat) (hj : j < 7) : (pSt x b s).2.2.2.1 (b + 1 + j) = s.2.2 j := by
  show (if b + 1 ≤ b + 1 + j ∧ b + 1 + j < b + 8 then s.2.2 (b + 1 + j - (b + 1)) else _) = _
  rw [if_pos ⟨by omega, by omega⟩, show b + 1 + j - (b + 1) = j by omega]
theorem pSt_An (x : ST) (b : Nat) (s : SV) (a : Nat) (h : a < b + 1 ∨ b + 8 ≤ a) : (pSt x b s).2.2.2.1 a = x.2.2.2.1 a := by
  show (if b + 1 ≤ a ∧ a < b + 8 then s.2.2 (a - (b + 1)) else x.2.2.2.1 a) = _
  rw [if_neg (by omega)]
theorem pSt_In (x : ST) (b : Nat) (s : SV) (o k : Nat) (h : o ≠ b) : (pSt x b s).1 o k = x.1 o k := by
  show (if o = b then _ else x.1 o k) = _
  rw [if_neg h]
theorem pSt_R (x : ST) (b : Nat) (s : SV) : (pSt x b s).2.2.1 = x.2.2.1 := rfl
theorem pSt_AR (x : ST) (b : Nat) (s : SV) : (pSt x b s).2.2.2.2.2 = x.2.2.2.2.2 := rfl
theorem pSt_h (x : ST) (b : Nat) (s : SV) : (pSt x b s).1 b 0 = s.1.1 := by unfold pSt rowI; simp
theorem pSt_c (x : ST) (b : Nat) (s : SV) : (pSt x b s).1 b 1 = s.1.2.1 := by unfold pSt rowI; simp
theorem pSt_m (x : ST) (b : Nat) (s : SV) : (pSt x b s).1 b 2 = s.1.2.2 := by unfold pSt rowI; simp
theorem pSt_o (x : ST) (b : Nat) (s : SV) : (pSt x b s).2.1 b 3 = s.2.1 := by unfold pSt; simp
theorem gSt_pSt (x : ST) (b : Nat) (s : SV) (r : SV) (hr : r = s) : ((pSt x b s).1 b 0, (pSt x b s).1 b 1, (pSt x b s).1 b 2) = r.1 ∧ (pSt x b s).2.1 b 3 = r.2.1 := by
  subst hr
  rw [pSt_h, pSt_c, pSt_m, pSt_o]
  exact ⟨rfl, rfl⟩
def stH (s : SV) (v : Int32) : SV := ((v, s.1.2.1, s.1.2.2), s.2)
def stCh (s : SV) (v : Int32) : SV := ((s.1.1, v, s.1.2.2), s.2)
def stCo (s : SV) (v : Int32) : SV := ((s.1.1, s.1.2.1, v), s.2)
def stO (s : SV) (v : Int64) : SV := (s.1, v, s.2.2)
def stR (s : SV) (j : Nat) (g : Nat → Int32) : SV := (s.1, s.2.1, fun i => if i = j then g else s.2.2 i)
theorem w_h (x : ST) (b : Nat) (s : SV) (v : Int32) : sI (pSt x b s) b 0 v = pSt x b (stH s v) := by
  unfold sI pSt up2 rowI stH
  simp only [Prod.mk.injEq, and_true]
  funext o k
  by_cases h : o = b
  · subst h
    by_cases h0 : k = 0 <;> simp [h0]
  · simp [h]
theorem w_c (x : ST) (b : Nat) (s : SV) (v : Int32) : sI (pSt x b s) b 1 v = pSt x b (stCh s v) := by
  unfold sI pSt up2 rowI stCh
  simp only [Prod.mk.injEq, and_true]
  funext o k
  by_cases h : o = b
  · subst h
    by_cases h0 : k = 1 <;> simp [h0]
  · simp [h]
theorem w_m (x : ST) (b : Nat) (s : SV) (v : Int32) : sI (pSt x b s) b 2 v = pSt x b (stCo s v) := by
  unfold sI pSt up2 rowI stCo
  simp only [Prod.mk.injEq, and_true]
  funext o k
  by_cases h : o = b
  · subst h
    by_cases h0 : k = 2 <;> simp [h0]
  · simp [h]
theorem w_o (x : ST) (b : Nat) (s : SV) (v : Int64) : sJL (pSt x b s) b 3 v = pSt x b (stO s v) := by
  unfold sJL pSt up2 rowI stO
  simp only [Prod.mk.injEq, and_true, true_and]
  funext o k
  by_cases h : o = b ∧ k = 3 <;> simp [h]
theorem w_r (x : ST) (b : Nat) (s : SV) (j : Nat) (hj : j < 7) (g : Nat → Int32) : sA (pSt x b s) (b + 1 + j) g = pSt x b (stR s j g) := by
  unfold sA pSt up1 rowI stR
  simp only [Prod.mk.injEq, and_true, true_and]
  funext a
  by_cases h : a = b + 1 + j
  · subst h
    rw [if_pos rfl, if_pos ⟨by omega, by omega⟩, if_pos (by omega)]
  · rw [if_neg h]
    by_cases h2 : b + 1 ≤ a ∧ a < b + 8
    · rw [if_pos h2, if_pos h2, if_neg (by omega)]
    · rw [if_neg h2, if_neg h2]
/-- writes elsewhere go past a state -/
theorem pSt_sA (x : ST) (b : Nat) (s : SV) (a : Nat) (g : Nat → Int32) (h : a < b + 1 ∨ b + 8 ≤ a) : sA (pSt x b s) a g = pSt (sA x a g) b s := by
  unfold sA pSt up1 rowI
  simp only [Prod.mk.injEq, and_true, true_and]
  funext c
  by_cases h2 : c = a
  · subst h2
    rw [if_pos rfl, if_neg (by omega), if_pos rfl]
  · rw [if_neg h2]
    by_cases h3 : b + 1 ≤ c ∧ c < b + 8
    · rw [if_pos h3, if_pos h3]
    · rw [if_neg h3, if_neg h3, if_neg h2]
theorem w_r0 (x : ST) (b : Nat) (s : SV) (g : Nat → Int32) : sA (pSt x b s) (b + 1) g = pSt x b (stR s 0 g) := w_r x b s 0 (by decide) g
theorem pSt_A0 (x : ST) (b : Nat) (s : SV) : (pSt x b s).2.2.2.1 (b + 1) = s.2.2 0 := pSt_A x b s 0 (by decide)
theorem w_r1 (x : ST) (b : Nat) (s : SV) (g : Nat → Int32) : sA (pSt x b s) (b + 2) g = pSt x b (stR s 1 g) := w_r x b s 1 (by decide) g
theorem pSt_A1 (x : ST) (b : Nat) (s : SV) : (pSt x b s).2.2.2.1 (b + 2) = s.2.2 1 := pSt_A x b s 1 (by decide)
theorem w_r2 (x : ST) (b : Nat) (s : SV) (g : Nat → Int32) : sA (pSt x b s) (b + 3) g = pSt x b (stR s 2 g) := w_r x b s 2 (by decide) g
theorem pSt_A2 (x : ST) (b : Nat) (s : SV) : (pSt x b s).2.2.2.1 (b + 3) = s.2.2 2 := pSt_A x b s 2 (by decide)
theorem w_r3 (x : ST) (b : Nat) (s : SV) (g : Nat → Int32) : sA (pSt x b s) (b + 4) g = pSt x b (stR s 3 g) := w_r x b s 3 (by decide) g
theorem pSt_A3 (x : ST) (b : Nat) (s : SV) : (pSt x b s).2.2.2.1 (b + 4) = s.2.2 3 := pSt_A x b s 3 (by decide)
theorem w_r4 (x : ST) (b : Nat) (s : SV) (g : Nat → Int32) : sA (pSt x b s) (b + 5) g = pSt x b (stR s 4 g) := w_r x b s 4 (by decide) g
theorem pSt_A4 (x : ST) (b : Nat) (s : SV) : (pSt x b s).2.2.2.1 (b + 5) = s.2.2 4 := pSt_A x b s 4 (by decide)
theorem w_r5 (x : ST) (b : Nat) (s : SV) (g : Nat → Int32) : sA (pSt x b s) (b + 6) g = pSt x b (stR s 5 g) := w_r x b s 5 (by decide) g
theorem pSt_A5 (x : ST) (b : Nat) (s : SV) : (pSt x b s).2.2.2.1 (b + 6) = s.2.2 5 := pSt_A x b s 5 (by decide)
theorem w_r6 (x : ST) (b : Nat) (s : SV) (g : Nat → Int32) : sA (pSt x b s) (b + 7) g = pSt x b (stR s 6 g) := w_r x b s 6 (by decide) g
theorem pSt_A6 (x : ST) (b : Nat) (s : SV) : (pSt x b s).2.2.2.1 (b + 7) = s.2.2 6 := pSt_A x b s 6 (by decide)
section STATE
variable {L : Nat} {xs : Nat → Int32} {sh : List Sh} {b c : Nat}
/-- rows are copied as far as they go -/
def cpR (n : Nat) (f g : Nat → Int32) : Nat → Int32 := va_cpy f g 0 0 n
def rwN : Nat → Nat
  | 5 => 5
  | 6 => 30
  | _ => 6
def cpSV (s t : SV) : SV := (t.1, t.2.1, fun j => if j < 7 then cpR (rwN j) (t.2.2 j) (s.2.2 j) else s.2.2 j)
theorem v_copy (d : Nat) (hb : isSt sh b) (hc : isSt sh c) (hbc : b + 8 ≤ c ∨ c + 8 ≤ b) (x : ST) : cV (ZZ L xs) (d + 1) mX7_copyFrom [.ref b, .ref c] (HP sh x) = some (HP sh (pSt x b (cpSV (gSt x b) (gSt x c)))) := by
  have h : CL (ZZ L xs) (d + 1) mX7_copyFrom [.ref b, .ref c] (HP sh x) = some (HP sh (pSt x b (cpSV (gSt x b) (gSt x c))), none) := by
    show RS (ZZ L xs) (d + 1) mX7_copyFrom 0 [some (.ref b), some (.ref c)] [] (HP sh x) = _
    rw [bX7_copyFrom_0 (hv1 := rfl)]
    have hne : c ≠ b := by omega
    have e : HP sh x = HP sh (pSt x b (gSt x b)) := by rw [pSt_self]
    rw [e]
    rw [show (6 : Int32) = nI 6 from rfl, show (5 : Int32) = nI 5 from rfl, show (30 : Int32) = nI 30 from rfl]
    have hJ : ∀ s, (pSt x b s).2.1 c 3 = x.2.1 c 3 := fun s => by
      show (if c = b ∧ 3 = 3 then _ else x.2.1 c 3) = _
      rw [if_neg (by omega)]
    have hA1 : ∀ s, (pSt x b s).2.2.2.1 (c + 1) = x.2.2.2.1 (c + 1) := fun s => pSt_An x b s _ (by omega)
    have hA2 : ∀ s, (pSt x b s).2.2.2.1 (c + 2) = x.2.2.2.1 (c + 2) := fun s => pSt_An x b s _ (by omega)
    have hA3 : ∀ s, (pSt x b s).2.2.2.1 (c + 3) = x.2.2.2.1 (c + 3) := fun s => pSt_An x b s _ (by omega)
    have hA4 : ∀ s, (pSt x b s).2.2.2.1 (c + 4) = x.2.2.2.1 (c + 4) := fun s => pSt_An x b s _ (by omega)
    have hA5 : ∀ s, (pSt x b s).2.2.2.1 (c + 5) = x.2.2.2.1 (c + 5) := fun s => pSt_An x b s _ (by omega)
    have hA6 : ∀ s, (pSt x b s).2.2.2.1 (c + 6) = x.2.2.2.1 (c + 6) := fun s => pSt_An x b s _ (by omega)
    have hA7 : ∀ s, (pSt x b s).2.2.2.1 (c + 7) = x.2.2.2.1 (c + 7) := fun s => pSt_An x b s _ (by omega)
    simp only [St_hour hc, St_chain hc, St_come hc, St_open hc, Stw_hour hb, Stw_chain hb, Stw_come hb, Stw_open hb, St_place hb, St_kind hb, St_asked hb, St_total hb, St_chains hb, St_at hb, St_before hb, St_place hc, St_kind hc, St_asked hc, St_total hc, St_chains hc, St_at hc, St_before hc, some_bind', pSt_In _ _ _ _ _ hne, hJ, w_h, w_c, w_m, w_o,
      cpA hc.2.1 hb.2.1 (c := 6) (by decide) (by decide) (by decide), cpA hc.2.2.1 hb.2.2.1 (c := 6) (by decide) (by decide) (by decide), cpA hc.2.2.2.1 hb.2.2.2.1 (c := 6) (by decide) (by decide) (by decide), cpA hc.2.2.2.2.1 hb.2.2.2.2.1 (c := 6) (by decide) (by decide) (by decide), cpA hc.2.2.2.2.2.1 hb.2.2.2.2.2.1 (c := 6) (by decide) (by decide) (by decide), cpA hc.2.2.2.2.2.2.1 hb.2.2.2.2.2.2.1 (c := 5) (by decide) (by decide) (by decide), cpA hc.2.2.2.2.2.2.2 hb.2.2.2.2.2.2.2 (c := 30) (by decide) (by decide) (by decide),
      hA1, hA2, hA3, hA4, hA5, hA6, hA7, pSt_A0, pSt_A1, pSt_A2, pSt_A3, pSt_A4, pSt_A5, pSt_A6, w_r0, w_r1, w_r2, w_r3, w_r4, w_r5, w_r6]
    refine congrArg some (congrArg (fun z => (HP sh (pSt x b z), none)) ?_)
    refine Prod.ext rfl (Prod.ext rfl ?_)
    funext j
    match j with
    | 0 => rfl
    | 1 => rfl
    | 2 => rfl
    | 3 => rfl
    | 4 => rfl
    | 5 => rfl
    | 6 => rfl
    | j + 7 => rfl
  unfold cV
  rw [h]
  rfl
end STATE
