/-! an hour, piece by piece: a state at b, a clock at c, a town at t -/
abbrev CV : Type := Int64 × (Nat → Int32) × (Nat → Int32) × (Nat → Int32)
/-- measured, far, whom, words -/
def pCk (x : ST) (c : Nat) (v : CV) : ST := (x.1, (fun o k => if o = c + 1 ∧ k = 0 then v.1 else x.2.1 o k), x.2.2.1, (fun a => if a = c + 2 then v.2.1 else if a = c + 3 then v.2.2.1 else if a = c + 4 then v.2.2.2 else x.2.2.2.1 a), x.2.2.2.2)
def gCk (x : ST) (c : Nat) : CV := (x.2.1 (c + 1) 0, x.2.2.2.1 (c + 2), x.2.2.2.1 (c + 3), x.2.2.2.1 (c + 4))
def KK (x : ST) (b c : Nat) (s : SV) (v : CV) : ST := pCk (pSt x b s) c v
theorem pCk_self (x : ST) (c : Nat) : pCk x c (gCk x c) = x := by
  obtain ⟨i, j, r, a, q⟩ := x
  unfold pCk gCk
  simp only [Prod.mk.injEq, true_and, and_true]
  refine ⟨?_, ?_⟩
  · funext o k
    by_cases h : o = c + 1 ∧ k = 0
    · simp [h]
    · simp [h]
  · funext o
    by_cases h2 : o = c + 2
    · simp [h2]
    · by_cases h3 : o = c + 3
      · simp [h3]
      · by_cases h4 : o = c + 4
        · simp [h4]
        · simp [h2, h3, h4]
theorem KK_self (x : ST) (b c : Nat) (hd : b + 8 ≤ c ∨ c + 5 ≤ b) : KK x b c (gSt x b) (gCk x c) = x := by
  unfold KK
  rw [pSt_self, pCk_self]
section KKL
variable {x : ST} {b c : Nat} (hd : b + 8 ≤ c ∨ c + 5 ≤ b) (s : SV) (v : CV)
theorem K_h : (KK x b c s v).1 b 0 = s.1.1 := pSt_h x b s
theorem K_c : (KK x b c s v).1 b 1 = s.1.2.1 := pSt_c x b s
theorem K_m : (KK x b c s v).1 b 2 = s.1.2.2 := pSt_m x b s
theorem K_I (o k : Nat) (h : o ≠ b) : (KK x b c s v).1 o k = x.1 o k := pSt_In x b s o k h
theorem K_R : (KK x b c s v).2.2.1 = x.2.2.1 := rfl
theorem K_o : (KK x b c s v).2.1 b 3 = s.2.1 := by
  show (if b = c + 1 ∧ 3 = 0 then v.1 else (pSt x b s).2.1 b 3) = _
  rw [if_neg (by omega), pSt_o]
theorem K_w : (KK x b c s v).2.1 (c + 1) 0 = v.1 := by
  show (if c + 1 = c + 1 ∧ 0 = 0 then v.1 else _) = _
  rw [if_pos ⟨rfl, rfl⟩]
theorem K_A0 (a : Nat) (h : a ≠ c + 2 ∧ a ≠ c + 3 ∧ a ≠ c + 4) : (KK x b c s v).2.2.2.1 a = (pSt x b s).2.2.2.1 a := by
  show (if a = c + 2 then v.2.1 else if a = c + 3 then v.2.2.1 else if a = c + 4 then v.2.2.2 else (pSt x b s).2.2.2.1 a) = _
  rw [if_neg h.1, if_neg h.2.1, if_neg h.2.2]
theorem K_A (a : Nat) (h : a ≠ c + 2 ∧ a ≠ c + 3 ∧ a ≠ c + 4) (h2 : a < b + 1 ∨ b + 8 ≤ a) : (KK x b c s v).2.2.2.1 a = x.2.2.2.1 a := by
  rw [K_A0 s v a h, pSt_An x b s a h2]
end KKL
theorem K_r0 {x : ST} {b c : Nat} (hd : b + 8 ≤ c ∨ c + 5 ≤ b) (s : SV) (v : CV) : (KK x b c s v).2.2.2.1 (b + 1) = s.2.2 0 := by rw [K_A0 s v _ (by omega), pSt_A0]
theorem K_r1 {x : ST} {b c : Nat} (hd : b + 8 ≤ c ∨ c + 5 ≤ b) (s : SV) (v : CV) : (KK x b c s v).2.2.2.1 (b + 2) = s.2.2 1 := by rw [K_A0 s v _ (by omega), pSt_A1]
theorem K_r2 {x : ST} {b c : Nat} (hd : b + 8 ≤ c ∨ c + 5 ≤ b) (s : SV) (v : CV) : (KK x b c s v).2.2.2.1 (b + 3) = s.2.2 2 := by rw [K_A0 s v _ (by omega), pSt_A2]
theorem K_r3 {x : ST} {b c : Nat} (hd : b + 8 ≤ c ∨ c + 5 ≤ b) (s : SV) (v : CV) : (KK x b c s v).2.2.2.1 (b + 4) = s.2.2 3 := by rw [K_A0 s v _ (by omega), pSt_A3]
theorem K_r4 {x : ST} {b c : Nat} (hd : b + 8 ≤ c ∨ c + 5 ≤ b) (s : SV) (v : CV) : (KK x b c s v).2.2.2.1 (b + 5) = s.2.2 4 := by rw [K_A0 s v _ (by omega), pSt_A4]
theorem K_r5 {x : ST} {b c : Nat} (hd : b + 8 ≤ c ∨ c + 5 ≤ b) (s : SV) (v : CV) : (KK x b c s v).2.2.2.1 (b + 6) = s.2.2 5 := by rw [K_A0 s v _ (by omega), pSt_A5]
theorem K_r6 {x : ST} {b c : Nat} (hd : b + 8 ≤ c ∨ c + 5 ≤ b) (s : SV) (v : CV) : (KK x b c s v).2.2.2.1 (b + 7) = s.2.2 6 := by rw [K_A0 s v _ (by omega), pSt_A6]
theorem K_far {x : ST} {b c : Nat} (s : SV) (v : CV) : (KK x b c s v).2.2.2.1 (c + 2) = v.2.1 := by
  show (if c + 2 = c + 2 then v.2.1 else if c + 2 = c + 3 then v.2.2.1 else if c + 2 = c + 4 then v.2.2.2 else (pSt x b s).2.2.2.1 (c + 2)) = _
  simp
theorem K_whom {x : ST} {b c : Nat} (s : SV) (v : CV) : (KK x b c s v).2.2.2.1 (c + 3) = v.2.2.1 := by
  show (if c + 3 = c + 2 then v.2.1 else if c + 3 = c + 3 then v.2.2.1 else if c + 3 = c + 4 then v.2.2.2 else (pSt x b s).2.2.2.1 (c + 3)) = _
  simp
theorem K_words {x : ST} {b c : Nat} (s : SV) (v : CV) : (KK x b c s v).2.2.2.1 (c + 4) = v.2.2.2 := by
  show (if c + 4 = c + 2 then v.2.1 else if c + 4 = c + 3 then v.2.2.1 else if c + 4 = c + 4 then v.2.2.2 else (pSt x b s).2.2.2.1 (c + 4)) = _
  simp
theorem pCk_sI (x : ST) (c o k : Nat) (u : Int32) (v : CV) : sI (pCk x c v) o k u = pCk (sI x o k u) c v := rfl
theorem pCk_sJ (x : ST) (c o k : Nat) (u : Int64) (v : CV) (h : ¬ (o = c + 1 ∧ k = 0)) : sJL (pCk x c v) o k u = pCk (sJL x o k u) c v := by
  unfold sJL pCk up2
  simp only [Prod.mk.injEq, true_and, and_true]
  funext a e
  by_cases h1 : a = o ∧ e = k
  · rw [if_pos h1, if_neg (by rw [h1.1, h1.2]; exact h), if_pos h1]
  · rw [if_neg h1, if_neg h1]
theorem pCk_sA (x : ST) (c a : Nat) (g : Nat → Int32) (v : CV) (h : a ≠ c + 2 ∧ a ≠ c + 3 ∧ a ≠ c + 4) : sA (pCk x c v) a g = pCk (sA x a g) c v := by
  unfold sA pCk up1
  simp only [Prod.mk.injEq, true_and, and_true]
  funext e
  by_cases h1 : e = a
  · subst h1
    rw [if_pos rfl, if_neg h.1, if_neg h.2.1, if_neg h.2.2, if_pos rfl]
  · rw [if_neg h1, if_neg h1]
theorem Kw_h {x : ST} {b c : Nat} (s : SV) (v : CV) (u : Int32) : sI (KK x b c s v) b 0 u = KK x b c (stH s u) v := by unfold KK; rw [pCk_sI, w_h]
theorem Kw_c {x : ST} {b c : Nat} (s : SV) (v : CV) (u : Int32) : sI (KK x b c s v) b 1 u = KK x b c (stCh s u) v := by unfold KK; rw [pCk_sI, w_c]
theorem Kw_m {x : ST} {b c : Nat} (s : SV) (v : CV) (u : Int32) : sI (KK x b c s v) b 2 u = KK x b c (stCo s u) v := by unfold KK; rw [pCk_sI, w_m]
theorem Kw_r0 {x : ST} {b c : Nat} (hd : b + 8 ≤ c ∨ c + 5 ≤ b) (s : SV) (v : CV) (g : Nat → Int32) : sA (KK x b c s v) (b + 1) g = KK x b c (stR s 0 g) v := by unfold KK; rw [pCk_sA _ _ _ _ _ (by omega), w_r0]
theorem Kw_r1 {x : ST} {b c : Nat} (hd : b + 8 ≤ c ∨ c + 5 ≤ b) (s : SV) (v : CV) (g : Nat → Int32) : sA (KK x b c s v) (b + 2) g = KK x b c (stR s 1 g) v := by unfold KK; rw [pCk_sA _ _ _ _ _ (by omega), w_r1]
theorem Kw_r2 {x : ST} {b c : Nat} (hd : b + 8 ≤ c ∨ c + 5 ≤ b) (s : SV) (v : CV) (g : Nat → Int32) : sA (KK x b c s v) (b + 3) g = KK x b c (stR s 2 g) v := by unfold KK; rw [pCk_sA _ _ _ _ _ (by omega), w_r2]
theorem Kw_r3 {x : ST} {b c : Nat} (hd : b + 8 ≤ c ∨ c + 5 ≤ b) (s : SV) (v : CV) (g : Nat → Int32) : sA (KK x b c s v) (b + 4) g = KK x b c (stR s 3 g) v := by unfold KK; rw [pCk_sA _ _ _ _ _ (by omega), w_r3]
theorem Kw_r4 {x : ST} {b c : Nat} (hd : b + 8 ≤ c ∨ c + 5 ≤ b) (s : SV) (v : CV) (g : Nat → Int32) : sA (KK x b c s v) (b + 5) g = KK x b c (stR s 4 g) v := by unfold KK; rw [pCk_sA _ _ _ _ _ (by omega), w_r4]
theorem Kw_r5 {x : ST} {b c : Nat} (hd : b + 8 ≤ c ∨ c + 5 ≤ b) (s : SV) (v : CV) (g : Nat → Int32) : sA (KK x b c s v) (b + 6) g = KK x b c (stR s 5 g) v := by unfold KK; rw [pCk_sA _ _ _ _ _ (by omega), w_r5]
theorem Kw_r6 {x : ST} {b c : Nat} (hd : b + 8 ≤ c ∨ c + 5 ≤ b) (s : SV) (v : CV) (g : Nat → Int32) : sA (KK x b c s v) (b + 7) g = KK x b c (stR s 6 g) v := by unfold KK; rw [pCk_sA _ _ _ _ _ (by omega), w_r6]
theorem Kw_far {x : ST} {b c : Nat} (s : SV) (v : CV) (g : Nat → Int32) : sA (KK x b c s v) (c + 2) g = KK x b c s (v.1, g, v.2.2) := by
  unfold KK sA pCk up1
  simp only [Prod.mk.injEq, true_and, and_true]
  funext e
  by_cases h2 : e = c + 2
  · subst h2; simp
  · by_cases h3 : e = c + 3
    · subst h3; simp
    · by_cases h4 : e = c + 4
      · subst h4; simp
      · simp [h2, h3, h4]
theorem Kw_whom {x : ST} {b c : Nat} (s : SV) (v : CV) (g : Nat → Int32) : sA (KK x b c s v) (c + 3) g = KK x b c s (v.1, v.2.1, g, v.2.2.2) := by
  unfold KK sA pCk up1
  simp only [Prod.mk.injEq, true_and, and_true]
  funext e
  by_cases h2 : e = c + 2
  · subst h2; simp
  · by_cases h3 : e = c + 3
    · subst h3; simp
    · by_cases h4 : e = c + 4
      · subst h4; simp
      · simp [h2, h3, h4]
theorem Kw_words {x : ST} {b c : Nat} (s : SV) (v : CV) (g : Nat → Int32) : sA (KK x b c s v) (c + 4) g = KK x b c s (v.1, v.2.1, v.2.2.1, g) := by
  unfold KK sA pCk up1
  simp only [Prod.mk.injEq, true_and, and_true]
  funext e
  by_cases h2 : e = c + 2
  · subst h2; simp
  · by_cases h3 : e = c + 3
    · subst h3; simp
    · by_cases h4 : e = c + 4
      · subst h4; simp
      · simp [h2, h3, h4]
theorem Kw_w {x : ST} {b c : Nat} (s : SV) (v : CV) (u : Int64) : sJL (KK x b c s v) (c + 1) 0 u = KK x b c s (u, v.2) := by
  unfold KK sJL pCk up2
  simp only [Prod.mk.injEq, true_and, and_true]
  funext o k
  by_cases h : o = c + 1 ∧ k = 0
  · rw [if_pos h, if_pos h]
  · rw [if_neg h, if_neg h, if_neg h]
/-- the three are there, and apart -/
def HR (sh : List Sh) (x : ST) (b c t : Nat) : Prop := isSt sh b ∧ isCk sh c ∧ isTo sh t ∧ x.2.2.1 c 3 = .ref t ∧ (b + 8 ≤ c ∨ c + 5 ≤ b) ∧ (t + 6 ≤ b ∨ b + 8 ≤ t) ∧ (t + 6 ≤ c ∨ c + 5 ≤ t)
section HOUR
variable {L : Nat} {xs : Nat → Int32} {sh : List Sh} {x : ST} {b c t : Nat}
theorem HR_town (h : HR sh x b c t) (s : SV) (v : CV) : fR (HP sh (KK x b c s v)) (.ref c) 0 3 = some (.ref t) := by
  have := Ck_town h.2.1 (KK x b c s v) (by rw [K_R, h.2.2.2.1]; rfl)
  rw [this, K_R, h.2.2.2.1]
theorem T_I (h : HR sh x b c t) (s : SV) (v : CV) (k : Nat) : (KK x b c s v).1 t k = x.1 t k := K_I s v t k (by have := h.2.2.2.2.2.1; omega)
theorem T_A (h : HR sh x b c t) (s : SV) (v : CV) (k : Nat) (hk : 1 ≤ k ∧ k ≤ 5) : (KK x b c s v).2.2.2.1 (t + k) = x.2.2.2.1 (t + k) := K_A s v _ (by have := h.2.2.2.2.2.2; omega) (by have := h.2.2.2.2.2.1; omega)
/-- the strangers that come -/
def arrF (x : ST) (t : Nat) : Nat → Nat → SV → SV
  | 0, _, s => s
  | f + 1, g, s => arrF x t f (g + 1) (if s.2.2 5 g = -1 ∧ 0 < x.2.2.2.1 (t + 5) g ∧ iRem s.1.1 (x.2.2.2.1 (t + 5) g) = 0 then stR s 5 (upd (s.2.2 5) g (x.2.2.2.1 (t + 3) g)) else s)
theorem arr_loop (d : Nat) (h : HR sh x b c t) (n : Nat) (hn : x.1 t 3 = nI n) (hn5 : n ≤ 5) (v : CV) : ∀ (f g : Nat), f + g = n → ∀ (s : SV) (u : Option Value), RS (ZZ L xs) (d + 1) mX0_arrive 2 [some (.ref c), some (.ref b), some (.int (nI g)), u] [] (HP sh (KK x b c s v)) = some (HP sh (KK x b c (arrF x t f g s) v), none) := by
  obtain ⟨hB, hC, hT, hct, d1, d2, d3⟩ := id h
  intro f
  induction f with
  | zero =>
    intro g hg s u
    rw [bX0_arrive_2 (hv1 := rfl), HR_town h, some_bind', To_strangers hT, some_bind', T_I h, hn, if_pos (nI_le (by omega) (by omega))]
    rfl
  | succ f ih =>
    intro g hg s u
    have hg5 : g < 5 := by omega
    rw [bX0_arrive_2 (hv1 := rfl), HR_town h, some_bind', To_strangers hT, some_bind', T_I h, hn, if_neg (nI_ge (by omega) (by omega)), some_bind', To_every hT, some_bind', rA hT.2.2.2.2.2 hg5 (by decide), some_bind', T_A h _ _ 5 (by omega), St_at hB, some_bind', rA hB.2.2.2.2.2.2.1 hg5 (by decide), some_bind', K_r5 d1]
    show _ = some (HP sh (KK x b c (arrF x t f (g + 1) (if s.2.2 5 g = -1 ∧ 0 < x.2.2.2.1 (t + 5) g ∧ iRem s.1.1 (x.2.2.2.1 (t + 5) g) = 0 then stR s 5 (upd (s.2.2 5) g (x.2.2.2.1 (t + 3) g)) else s)) v), none)
    by_cases h1 : s.2.2 5 g = -1
    · rw [if_neg (fun q => q h1)]
      by_cases h2 : x.2.2.2.1 (t + 5) g ≤ 0
      · rw [if_pos h2, bX0_arrive_61 (hv1 := rfl), nI_1, ih (g + 1) (by omega), if_neg (fun q => absurd q.2.1 (Int32.not_lt.mpr h2))]
      · rw [if_neg h2, St_hour hB, some_bind', K_h, if_neg (fun q => h2 (by rw [q]; decide))]
        have h3 : 0 < x.2.2.2.1 (t + 5) g := Int32.not_le.mp h2
        by_cases h4 : iRem s.1.1 (x.2.2.2.1 (t + 5) g) = 0
        · rw [if_neg (fun q => q h4), some_bind', some_bind', To_from hT, some_bind', rA hT.2.2.2.1 hg5 (by decide), some_bind', T_A h _ _ 3 (by omega), wA hB.2.2.2.2.2.2.1 hg5 (by decide), some_bind', K_r5 d1, Kw_r5 d1, bX0_arrive_61 (hv1 := rfl), nI_1, ih (g + 1) (by omega), if_pos ⟨h1, h3, h4⟩]
        · rw [if_pos h4, bX0_arrive_61 (hv1 := rfl), nI_1, ih (g + 1) (by omega), if_neg (fun q => h4 q.2.2)]
    · rw [if_pos h1, bX0_arrive_61 (hv1 := rfl), nI_1, ih (g + 1) (by omega), if_neg (fun q => h1 q.1)]
theorem v_arrive (d : Nat) (h : HR sh x b c t) (n : Nat) (hn : x.1 t 3 = nI n) (hn5 : n ≤ 5) (s : SV) (v : CV) : cV (ZZ L xs) (d + 1) mX0_arrive [.ref c, .ref b] (HP sh (KK x b c s v)) = some (HP sh (KK x b c (arrF x t n 0 s) v)) := by
  have h1 : CL (ZZ L xs) (d + 1) mX0_arrive [.ref c, .ref b] (HP sh (KK x b c s v)) = some (HP sh (KK x b c (arrF x t n 0 s) v), none) := by
    show RS (ZZ L xs) (d + 1) mX0_arrive 0 [some (.ref c), some (.ref b), none, none] [] _ = _
    rw [bX0_arrive_0 (hv1 := rfl)]
    exact arr_loop d h n hn hn5 v n 0 rfl s none
  unfold cV
  rw [h1]
  rfl
end HOUR
