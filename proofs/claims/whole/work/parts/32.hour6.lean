/-! states as far as their rows go; begin; hours in a row -/
theorem HP_A {sh : List Sh} {x : ST} {f g : Nat → Nat → Int32} (h : ∀ i t n, sh[i]? = some (.inl (t, n)) → ∀ k, k < n → f i k = g i k) : HP sh (x.1, x.2.1, x.2.2.1, f, x.2.2.2.2) = HP sh (x.1, x.2.1, x.2.2.1, g, x.2.2.2.2) := by
  refine HP_ext fun i s hs => ?_
  cases s with
  | inr q => rfl
  | inl q =>
    obtain ⟨t, n⟩ := q
    unfold cell
    simp only [trn_eq (h i t n hs)]
theorem St_len {sh : List Sh} {b : Nat} (h : isSt sh b) (j : Nat) (hj : j < 7) : sh[b + 1 + j]? = some (.inl (0, rwN j)) := by
  match j, hj with
  | 0, _ => exact Stn_place h
  | 1, _ => exact Stn_kind h
  | 2, _ => exact Stn_asked h
  | 3, _ => exact Stn_total h
  | 4, _ => exact Stn_chains h
  | 5, _ => exact Stn_at h
  | 6, _ => exact Stn_before h
def SQ (s t : SV) : Prop := s.1 = t.1 ∧ s.2.1 = t.2.1 ∧ ∀ j, j < 7 → ∀ k, k < rwN j → s.2.2 j k = t.2.2 j k
theorem HP_SQ {sh : List Sh} {x : ST} {b : Nat} {s t : SV} (hB : isSt sh b) (h : SQ s t) : HP sh (pSt x b s) = HP sh (pSt x b t) := by
  obtain ⟨s1, s2, s3⟩ := s
  obtain ⟨t1, t2, t3⟩ := t
  obtain ⟨h1, h2, h3⟩ := h
  have h1 : s1 = t1 := h1
  have h2 : s2 = t2 := h2
  subst h1
  subst h2
  refine HP_A (x := pSt x b (s1, s2, s3)) fun i t n hi k hk => ?_
  show (if b + 1 ≤ i ∧ i < b + 8 then s3 (i - (b + 1)) else x.2.2.2.1 i) k = (if b + 1 ≤ i ∧ i < b + 8 then t3 (i - (b + 1)) else x.2.2.2.1 i) k
  by_cases hb : b + 1 ≤ i ∧ i < b + 8
  · rw [if_pos hb, if_pos hb]
    have hl := St_len hB (i - (b + 1)) (by omega)
    rw [show b + 1 + (i - (b + 1)) = i by omega, hi] at hl
    have hn : n = rwN (i - (b + 1)) := by
      have := Option.some.inj hl
      injection this with q
      injection q
    exact h3 _ (by omega) k (by omega)
  · rw [if_neg hb, if_neg hb]
theorem pCk_pSt (x : ST) {b c : Nat} (hd : b + 8 ≤ c ∨ c + 5 ≤ b) (s : SV) (v : CV) : pCk (pSt x b s) c v = pSt (pCk x c v) b s := by
  unfold pCk pSt rowI
  simp only [Prod.mk.injEq, true_and, and_true]
  refine ⟨?_, ?_⟩
  · funext o k
    by_cases h1 : o = c + 1 ∧ k = 0
    · rw [if_pos h1, if_neg (by omega), if_pos h1]
    · rw [if_neg h1]
      by_cases h2 : o = b ∧ k = 3
      · rw [if_pos h2, if_pos h2]
      · rw [if_neg h2, if_neg h2, if_neg h1]
  · funext a
    by_cases h2 : a = c + 2
    · rw [if_pos h2, if_neg (by omega), if_pos h2]
    · by_cases h3 : a = c + 3
      · rw [if_neg h2, if_pos h3, if_neg (by omega), if_neg h2, if_pos h3]
      · by_cases h4 : a = c + 4
        · rw [if_neg h2, if_neg h3, if_pos h4, if_neg (by omega), if_neg h2, if_neg h3, if_pos h4]
        · rw [if_neg h2, if_neg h3, if_neg h4]
          by_cases hb : b + 1 ≤ a ∧ a < b + 8
          · rw [if_pos hb, if_pos hb]
          · rw [if_neg hb, if_neg hb, if_neg h2, if_neg h3, if_neg h4]
theorem pSt_KK {x : ST} {b c : Nat} (hd : b + 8 ≤ c ∨ c + 5 ≤ b) (s u : SV) (v : CV) : pSt (KK x b c s v) b u = KK x b c u v := by
  unfold KK
  rw [← pCk_pSt _ hd, pSt_pSt]
theorem HP_KQ {sh : List Sh} {x : ST} {b c : Nat} {s t : SV} (hd : b + 8 ≤ c ∨ c + 5 ≤ b) (hB : isSt sh b) (v : CV) (h : SQ s t) : HP sh (KK x b c s v) = HP sh (KK x b c t v) := by
  unfold KK
  rw [pCk_pSt _ hd, pCk_pSt _ hd, HP_SQ hB h]
theorem cp_SQ (s t : SV) : SQ (cpSV s t) t := by
  refine ⟨rfl, rfl, fun j hj k hk => ?_⟩
  show (if j < 7 then cpR (rwN j) (t.2.2 j) (s.2.2 j) else s.2.2 j) k = _
  rw [if_pos hj]
  unfold cpR va_cpy
  rw [if_pos ⟨by omega, by omega⟩]
  simp
/-- a state as a text tells the begin -/
def begW (w : TW) : SV := ((0, -1, 0), w.2.1, fun j => if j = 0 then w.2.2 0 else if j = 1 then w.2.2 1 else if j = 5 then fun _ => -1 else fun _ => 0)
def allF (s : SV) : Nat → Nat → Int32 → Int32
  | 0, _, n => n
  | f + 1, p, n => allF s f (p + 1) (n + s.2.2 3 p)
section HOUR6
variable {L : Nat} {xs : Nat → Int32} {sh : List Sh} {x : ST} {b c t : Nat} {w : TW} {R : Option ((Nat → Int32) → Int64)}
theorem v_copyS (d : Nat) (hb : isSt sh b) (hc : isSt sh c) (hbc : b + 8 ≤ c ∨ c + 8 ≤ b) (x : ST) : cV (ZZ L xs) (d + 1) mX7_copyFrom [.ref b, .ref c] (HP sh x) = some (HP sh (pSt x b (gSt x c))) := by
  rw [v_copy d hb hc hbc x, HP_SQ hb (cp_SQ _ _)]
theorem gSt_KK {n : Nat} (h1 : n + 8 ≤ b ∨ b + 8 ≤ n) (h2 : n + 8 ≤ c ∨ c + 5 ≤ n) (s : SV) (v : CV) : SQ (gSt (KK x b c s v) n) (gSt x n) := by
  refine ⟨?_, ?_, fun j hj k hk => ?_⟩
  · show ((KK x b c s v).1 n 0, (KK x b c s v).1 n 1, (KK x b c s v).1 n 2) = _
    rw [K_I _ _ _ _ (by omega), K_I _ _ _ _ (by omega), K_I _ _ _ _ (by omega)]
    rfl
  · show (if n = c + 1 ∧ 3 = 0 then v.1 else (if n = b ∧ 3 = 3 then s.2.1 else x.2.1 n 3)) = _
    rw [if_neg (by omega), if_neg (by omega)]
    rfl
  · show (KK x b c s v).2.2.2.1 (n + 1 + j) k = _
    rw [K_A _ _ _ (by omega) (by omega)]
    rfl
theorem K_copy (d : Nat) {n : Nat} (hb : isSt sh b) (hd : b + 8 ≤ c ∨ c + 5 ≤ b) (hn : isSt sh n) (h1 : n + 8 ≤ b ∨ b + 8 ≤ n) (h2 : n + 8 ≤ c ∨ c + 5 ≤ n) (s : SV) (v : CV) : cV (ZZ L xs) (d + 1) mX7_copyFrom [.ref b, .ref n] (HP sh (KK x b c s v)) = some (HP sh (KK x b c (gSt x n) v)) := by
  rw [v_copyS d hb hn (by omega), pSt_KK hd, HP_KQ hd hb v (gSt_KK h1 h2 s v)]
theorem v_begin (d : Nat) (hB : isSt sh b) (hT : isTo sh t) (hd : t + 6 ≤ b ∨ b + 8 ≤ t) (x : ST) : cV (ZZ L xs) (d + 2) mX7_begin [.ref b, .ref t] (HP sh x) = some (HP sh (pSt x b (begW (gTo x t)))) := by
  have h : ∃ s, SQ s (begW (gTo x t)) ∧ CL (ZZ L xs) (d + 2) mX7_begin [.ref b, .ref t] (HP sh x) = some (HP sh (pSt x b s), none) := by
    show ∃ s, SQ s (begW (gTo x t)) ∧ RS (ZZ L xs) (d + 2) mX7_begin 0 [some (.ref b), some (.ref t)] [] (HP sh x) = _
    rw [bX7_begin_0 (hv1 := rfl), show HP sh x = HP sh (pSt x b (gSt x b)) by rw [pSt_self], lI6]
    have hJ : ∀ s, (pSt x b s).2.1 t 4 = x.2.1 t 4 := fun s => by
      show (if t = b ∧ 4 = 3 then _ else x.2.1 t 4) = _
      rw [if_neg (by omega)]
    have hf : ∀ (n j : Nat) (v : Int32), j < 7 → n = rwN j → ∀ y, cV (ZZ L xs) (d + 1) mJ7_fill_53178 [.ref (b + 1 + j), .int v] (HP sh y) = some (HP sh (sA y (b + 1 + j) (flF v n (y.2.2.2.1 (b + 1 + j))))) := fun n j v hj hn y => by
      subst hn
      exact v_fill d v (St_len hB j hj) (by match j with | 0 => decide | 1 => decide | 2 => decide | 3 => decide | 4 => decide | 5 => decide | 6 => decide) y
    have f2 := hf 6 2 0 (by decide) rfl
    have f3 := hf 6 3 0 (by decide) rfl
    have f4 := hf 6 4 0 (by decide) rfl
    have f5 := hf 5 5 (-1) (by decide) rfl
    have f6 := hf 30 6 0 (by decide) rfl
    have hA1 : ∀ s, (pSt x b s).2.2.2.1 (t + 1) = x.2.2.2.1 (t + 1) := fun s => pSt_An x b s _ (by omega)
    have hA2 : ∀ s, (pSt x b s).2.2.2.1 (t + 2) = x.2.2.2.1 (t + 2) := fun s => pSt_An x b s _ (by omega)
    simp (disch := omega) only [St_hour hB, St_chain hB, St_come hB, St_open hB, St_place hB, St_kind hB, St_asked hB, St_total hB, St_chains hB, St_at hB, St_before hB, Stw_hour hB, Stw_chain hB, Stw_come hB, Stw_open hB, St_is hB, Ste_place hB, Ste_kind hB, Ste_asked hB, Ste_total hB, Ste_chains hB, Ste_at hB, Ste_before hB, Stu_place hB, Stu_kind hB, Stu_asked hB, Stu_total hB, Stu_chains hB, Stu_at hB, Stu_before hB, To_places hT, To_term hT, To_people hT, To_strangers hT, To_streets hT, To_wrong hT, To_place hT, To_kind hT, To_from hT, To_to hT, To_every hT, Tow_places hT, Tow_term hT, Tow_people hT, Tow_strangers hT, Tow_streets hT, Tow_wrong hT, To_is hT, Toe_place hT, Toe_kind hT, Toe_from hT, Toe_to hT, Toe_every hT, Tou_place hT, Tou_kind hT, Tou_from hT, Tou_to hT, Tou_every hT, some_bind', w_h, w_c, w_m, w_o, hJ, hA1, hA2, cpA (Ton_place hT) (Stn_place hB) (c := 6) (by decide) (by decide) (by decide), cpA (Ton_kind hT) (Stn_kind hB) (c := 6) (by decide) (by decide) (by decide), w_r0, w_r1, w_r2, w_r3, w_r4, w_r5, w_r6, pSt_A0, pSt_A1, pSt_A2, pSt_A3, pSt_A4, pSt_A5, pSt_A6,
      show b + 1 + 2 = b + 3 from rfl, show b + 1 + 3 = b + 4 from rfl, show b + 1 + 4 = b + 5 from rfl, show b + 1 + 5 = b + 6 from rfl, show b + 1 + 6 = b + 7 from rfl] at f2 f3 f4 f5 f6 ⊢
    simp only [f2, f3, f4, f5, f6, some_bind', w_r0, w_r1, w_r2, w_r3, w_r4, w_r5, w_r6, pSt_A0, pSt_A1, pSt_A2, pSt_A3, pSt_A4, pSt_A5, pSt_A6, St_hour hB, St_chain hB, St_come hB, St_open hB, St_place hB, St_kind hB, St_asked hB, St_total hB, St_chains hB, St_at hB, St_before hB, Stw_hour hB, Stw_chain hB, Stw_come hB, Stw_open hB, St_is hB, Ste_place hB, Ste_kind hB, Ste_asked hB, Ste_total hB, Ste_chains hB, Ste_at hB, Ste_before hB, Stu_place hB, Stu_kind hB, Stu_asked hB, Stu_total hB, Stu_chains hB, Stu_at hB, Stu_before hB]
    refine ⟨_, ?_, rfl⟩
    refine ⟨rfl, rfl, fun j hj k hk => ?_⟩
    match j, hj with
    | 0, _ =>
      show va_cpy (x.2.2.2.1 (t + 1)) _ 0 0 6 k = x.2.2.2.1 (t + 1) k
      have hk : k < 6 := hk
      unfold va_cpy
      rw [if_pos ⟨by omega, by omega⟩]
      simp
    | 1, _ =>
      show va_cpy (x.2.2.2.1 (t + 2)) _ 0 0 6 k = x.2.2.2.1 (t + 2) k
      have hk : k < 6 := hk
      unfold va_cpy
      rw [if_pos ⟨by omega, by omega⟩]
      simp
    | 2, _ => exact if_pos hk
    | 3, _ => exact if_pos hk
    | 4, _ => exact if_pos hk
    | 5, _ => exact if_pos hk
    | 6, _ => exact if_pos hk
  obtain ⟨s, hs, h⟩ := h
  unfold cV
  rw [h]
  show some (HP sh (pSt x b s)) = _
  rw [HP_SQ hB hs]
theorem gTo_KK {n : Nat} (h1 : n + 6 ≤ b ∨ b + 8 ≤ n) (h2 : n + 6 ≤ c ∨ c + 5 ≤ n) (s : SV) (v : CV) : (gTo (KK x b c s v) n).1 = (gTo x n).1 ∧ (gTo (KK x b c s v) n).2.1 = (gTo x n).2.1 ∧ ∀ j, j < 5 → (gTo (KK x b c s v) n).2.2 j = (gTo x n).2.2 j := by
  refine ⟨?_, ?_, fun j hj => ?_⟩
  · funext k
    exact K_I (c := c) s v n k (by omega)
  · show (if n = c + 1 ∧ 4 = 0 then v.1 else (if n = b ∧ 4 = 3 then s.2.1 else x.2.1 n 4)) = _
    rw [if_neg (by omega), if_neg (by omega)]
    rfl
  · show (if j < 5 then (KK x b c s v).2.2.2.1 (n + 1 + j) else fun _ => 0) = if j < 5 then x.2.2.2.1 (n + 1 + j) else fun _ => 0
    rw [if_pos hj, if_pos hj]
    exact K_A _ _ _ (by omega) (by omega)
theorem K_begin (d : Nat) (h : HR sh x b c t) (hw : gTo x t = w) (s : SV) (v : CV) : cV (ZZ L xs) (d + 2) mX7_begin [.ref b, .ref t] (HP sh (KK x b c s v)) = some (HP sh (KK x b c (begW w) v)) := by
  obtain ⟨hB, hC, hT, hct, d1, d2, d3⟩ := id h
  rw [v_begin d hB hT d2, pSt_KK d1]
  refine congrArg some (HP_KQ d1 hB v ?_)
  subst hw
  obtain ⟨e1, e2, e3⟩ := gTo_KK (x := x) d2 d3 s v
  refine ⟨rfl, e2, fun j hj k hk => ?_⟩
  match j, hj with
  | 0, _ => exact congrFun (e3 0 (by decide)) k
  | 1, _ => exact congrFun (e3 1 (by decide)) k
  | 2, _ => rfl
  | 3, _ => rfl
  | 4, _ => rfl
  | 5, _ => rfl
  | 6, _ => rfl
theorem all_loop (d : Nat) (hB : isSt sh b) (x : ST) : ∀ (f p : Nat), f + p = 6 → ∀ (n : Int32), RS (ZZ L xs) (d + 1) mX7_askedInAll 4 [some (.ref b), some (.int n), some (.int (nI p))] [] (HP sh x) = some (HP sh x, some (.int (allF (gSt x b) f p n))) := by
  intro f
  induction f with
  | zero =>
    intro p hp n
    have : p = 6 := by omega
    subst this
    rw [bX7_askedInAll_4, if_pos (by decide)]
    rfl
  | succ f ih =>
    intro p hp n
    rw [bX7_askedInAll_4, if_neg (show ¬ (6 : Int32) ≤ nI p from nI_ge (b := 6) (by omega) (by decide))]
    simp (disch := omega) only [St_hour hB, St_chain hB, St_come hB, St_open hB, St_place hB, St_kind hB, St_asked hB, St_total hB, St_chains hB, St_at hB, St_before hB, Stw_hour hB, Stw_chain hB, Stw_come hB, Stw_open hB, St_is hB, Ste_place hB, Ste_kind hB, Ste_asked hB, Ste_total hB, Ste_chains hB, Ste_at hB, Ste_before hB, Stu_place hB, Stu_kind hB, Stu_asked hB, Stu_total hB, Stu_chains hB, Stu_at hB, Stu_before hB, some_bind', nI_1]
    exact ih (p + 1) (by omega) _
theorem i_all (d : Nat) (hB : isSt sh b) (x : ST) : cI (ZZ L xs) (d + 1) mX7_askedInAll [.ref b] (HP sh x) = some (HP sh x, allF (gSt x b) 6 0 0) := by
  have h : CL (ZZ L xs) (d + 1) mX7_askedInAll [.ref b] (HP sh x) = some (HP sh x, some (.int (allF (gSt x b) 6 0 0))) := by
    show RS (ZZ L xs) (d + 1) mX7_askedInAll 0 [some (.ref b), none, none] [] (HP sh x) = _
    rw [bX7_askedInAll_0]
    exact all_loop d hB x 6 0 rfl 0
  unfold cI
  rw [h]
  rfl
end HOUR6
