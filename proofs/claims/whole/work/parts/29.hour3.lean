/-! the town as a value; the words of a rule; whom one asks -/
theorem lI0 : (0 : Int32) = nI 0 := rfl
theorem lI1 : (1 : Int32) = nI 1 := rfl
theorem lI2 : (2 : Int32) = nI 2 := rfl
theorem lI3 : (3 : Int32) = nI 3 := rfl
theorem lI4 : (4 : Int32) = nI 4 := rfl
theorem lI5 : (5 : Int32) = nI 5 := rfl
theorem lI6 : (6 : Int32) = nI 6 := rfl
theorem lI7 : (7 : Int32) = nI 7 := rfl
theorem lI8 : (8 : Int32) = nI 8 := rfl
theorem lI9 : (9 : Int32) = nI 9 := rfl
theorem lI10 : (10 : Int32) = nI 10 := rfl
theorem lI11 : (11 : Int32) = nI 11 := rfl
/-- ints, streets, the rows place, kind, from, to, every -/
abbrev TW : Type := (Nat → Int32) × Int64 × (Nat → Nat → Int32)
def gTo (x : ST) (t : Nat) : TW := (x.1 t, x.2.1 t 4, fun j => if j < 5 then x.2.2.2.1 (t + 1 + j) else fun _ => 0)
section TOWNV
variable {sh : List Sh} {x : ST} {b c t : Nat} {w : TW}
theorem W_I (h : HR sh x b c t) (hw : gTo x t = w) (s : SV) (v : CV) (k : Nat) : (KK x b c s v).1 t k = w.1 k := by rw [T_I h, ← hw]; rfl
theorem W_1 (h : HR sh x b c t) (hw : gTo x t = w) (s : SV) (v : CV) : (KK x b c s v).2.2.2.1 (t + 1) = w.2.2 0 := by rw [T_A h _ _ 1 (by omega), ← hw]; rfl
theorem W_2 (h : HR sh x b c t) (hw : gTo x t = w) (s : SV) (v : CV) : (KK x b c s v).2.2.2.1 (t + 2) = w.2.2 1 := by rw [T_A h _ _ 2 (by omega), ← hw]; rfl
theorem W_3 (h : HR sh x b c t) (hw : gTo x t = w) (s : SV) (v : CV) : (KK x b c s v).2.2.2.1 (t + 3) = w.2.2 2 := by rw [T_A h _ _ 3 (by omega), ← hw]; rfl
theorem W_4 (h : HR sh x b c t) (hw : gTo x t = w) (s : SV) (v : CV) : (KK x b c s v).2.2.2.1 (t + 4) = w.2.2 3 := by rw [T_A h _ _ 4 (by omega), ← hw]; rfl
theorem W_5 (h : HR sh x b c t) (hw : gTo x t = w) (s : SV) (v : CV) : (KK x b c s v).2.2.2.1 (t + 5) = w.2.2 4 := by rw [T_A h _ _ 5 (by omega), ← hw]; rfl
end TOWNV
def arrW (w : TW) : Nat → Nat → SV → SV
  | 0, _, s => s
  | f + 1, g, s => arrW w f (g + 1) (if s.2.2 5 g = -1 ∧ 0 < w.2.2 4 g ∧ iRem s.1.1 (w.2.2 4 g) = 0 then stR s 5 (upd (s.2.2 5) g (w.2.2 2 g)) else s)
theorem arrW_eq (x : ST) (t : Nat) : ∀ f g s, arrF x t f g s = arrW (gTo x t) f g s
  | 0, _, _ => rfl
  | f + 1, g, s => arrW_eq x t f (g + 1) _
def cntF (pl : Nat → Int32) (a : Int32) : Nat → Nat → Int32 → Int32
  | 0, _, n => n
  | f + 1, p, n => cntF pl a f (p + 1) (n + if pl p = a then 1 else 0)
/-- the words: of stranger g, person p -/
def wOf (w : TW) (s : SV) (np : Nat) (far : Int32 → Int32 → Int32) (g p : Nat) : Nat → Int32
  | 0 => nI g
  | 1 => nI p
  | 2 => s.2.2 1 p
  | 3 => s.2.2 2 p
  | 4 => s.2.2 6 (g * 6 + p)
  | 5 => cntF (s.2.2 0) (s.2.2 5 g) np 0 0 - 1
  | 6 => s.2.2 5 g
  | 7 => far (s.2.2 5 g) (w.2.2 3 g)
  | 8 => if s.1.2.1 = nI p then 1 else 0
  | 9 => if w.1 1 ≤ 0 then 0 else iRem s.1.1 (w.1 1)
  | 10 => s.1.2.2
  | 11 => s.1.1
  | _ => 0
/-- the words of a stranger, as told -/
def wS (w : TW) (s : SV) (np : Nat) (far : Int32 → Int32 → Int32) (g : Nat) (wd : Nat → Int32) : Nat → Int32 :=
  upd (upd (upd (upd (upd (upd (upd wd 0 (nI g)) 5 (cntF (s.2.2 0) (s.2.2 5 g) np 0 0 - 1)) 6 (s.2.2 5 g)) 7 (far (s.2.2 5 g) (w.2.2 3 g))) 9 (if w.1 1 ≤ 0 then 0 else iRem s.1.1 (w.1 1))) 10 s.1.2.2) 11 s.1.1
def wP (s : SV) (g p : Nat) (wd : Nat → Int32) : Nat → Int32 :=
  upd (upd (upd (upd (upd wd 1 (nI p)) 2 (s.2.2 1 p)) 3 (s.2.2 2 p)) 4 (s.2.2 6 (g * 6 + p))) 8 (if s.1.2.1 = nI p then 1 else 0)
def isTold (w : TW) (s : SV) (np : Nat) (far : Int32 → Int32 → Int32) (g : Nat) (wd : Nat → Int32) : Prop := ∀ k, k < 12 → k ≠ 1 → k ≠ 2 → k ≠ 3 → k ≠ 4 → k ≠ 8 → wd k = wOf w s np far g 0 k
theorem told_S (w : TW) (s : SV) (np : Nat) (far : Int32 → Int32 → Int32) (g : Nat) (wd : Nat → Int32) : isTold w s np far g (wS w s np far g wd) := by
  intro k hk h1 h2 h3 h4 h8
  match k with
  | 0 => rfl
  | 5 => rfl
  | 6 => rfl
  | 7 => rfl
  | 9 => rfl
  | 10 => rfl
  | 11 => rfl
theorem told_P {w : TW} {s : SV} {np : Nat} {far : Int32 → Int32 → Int32} {g : Nat} {wd : Nat → Int32} (h : isTold w s np far g wd) (p : Nat) : isTold w s np far g (wP s g p wd) ∧ ∀ k, k < 12 → wP s g p wd k = wOf w s np far g p k := by
  constructor
  · intro k hk h1 h2 h3 h4 h8
    rw [← h k hk h1 h2 h3 h4 h8]
    unfold wP upd
    rw [if_neg h8, if_neg h4, if_neg h3, if_neg h2, if_neg h1]
  · intro k hk
    match k, hk with
    | 0, _ => exact h 0 (by decide) (by decide) (by decide) (by decide) (by decide) (by decide)
    | 1, _ => rfl
    | 2, _ => rfl
    | 3, _ => rfl
    | 4, _ => rfl
    | 5, _ => exact h 5 (by decide) (by decide) (by decide) (by decide) (by decide) (by decide)
    | 6, _ => exact h 6 (by decide) (by decide) (by decide) (by decide) (by decide) (by decide)
    | 7, _ => exact h 7 (by decide) (by decide) (by decide) (by decide) (by decide) (by decide)
    | 8, _ => rfl
    | 9, _ => exact h 9 (by decide) (by decide) (by decide) (by decide) (by decide) (by decide)
    | 10, _ => exact h 10 (by decide) (by decide) (by decide) (by decide) (by decide) (by decide)
    | 11, _ => exact h 11 (by decide) (by decide) (by decide) (by decide) (by decide) (by decide)
section HOUR3
variable {L : Nat} {xs : Nat → Int32} {sh : List Sh} {x : ST} {b c t : Nat} {w : TW}
theorem tos_loop (d : Nat) (h : HR sh x b c t) (hw : gTo x t = w) (np : Nat) (hn : w.1 2 = nI np) (hn6 : np ≤ 6) (g : Nat) (hg : g < 5) (s : SV) (v : CV) : ∀ (f p : Nat), f + p = np → ∀ (n : Int32), RS (ZZ L xs) (d + 1) mX0_tellOfStranger 5 [some (.ref c), some (.ref b), some (.int (nI g)), some (.int n), some (.int (nI p))] [] (HP sh (KK x b c s v)) = RS (ZZ L xs) (d + 1) mX0_tellOfStranger 5 [some (.ref c), some (.ref b), some (.int (nI g)), some (.int (cntF (s.2.2 0) (s.2.2 5 g) f p n)), some (.int (nI np))] [] (HP sh (KK x b c s v)) := by
  obtain ⟨hB, hC, hT, hct, d1, d2, d3⟩ := id h
  intro f
  induction f with
  | zero =>
    intro p hp n
    have : p = np := by omega
    subst this
    rfl
  | succ f ih =>
    intro p hp n
    rw [bX0_tellOfStranger_5 (hv1 := rfl)]
    simp (disch := omega) only [St_hour hB, St_chain hB, St_come hB, St_open hB, St_place hB, St_kind hB, St_asked hB, St_total hB, St_chains hB, St_at hB, St_before hB, Stw_hour hB, Stw_chain hB, Stw_come hB, Stw_open hB, St_is hB, Ste_place hB, Ste_kind hB, Ste_asked hB, Ste_total hB, Ste_chains hB, Ste_at hB, Ste_before hB, Stu_place hB, Stu_kind hB, Stu_asked hB, Stu_total hB, Stu_chains hB, Stu_at hB, Stu_before hB, Ck_ways hC, Ck_whom hC, Ck_words hC, Ck_wrong hC, Ckw_town hC, Ckw_rule hC, Ckw_wrong hC, Ck_is hC, Cke_whom hC, Cke_words hC, Cku_whom hC, Cku_words hC, To_places hT, To_term hT, To_people hT, To_strangers hT, To_streets hT, To_wrong hT, To_place hT, To_kind hT, To_from hT, To_to hT, To_every hT, Tow_places hT, Tow_term hT, Tow_people hT, Tow_strangers hT, Tow_streets hT, Tow_wrong hT, To_is hT, Toe_place hT, Toe_kind hT, Toe_from hT, Toe_to hT, Toe_every hT, Tou_place hT, Tou_kind hT, Tou_from hT, Tou_to hT, Tou_every hT, HR_town h, W_I h hw, W_1 h hw, W_2 h hw, W_3 h hw, W_4 h hw, W_5 h hw, K_h, K_c, K_m, K_o, K_R, K_w, K_far, K_whom, K_words, Kw_h, Kw_c, Kw_m, Kw_far, Kw_whom, Kw_words, Kw_w, K_r0 d1, K_r1 d1, K_r2 d1, K_r3 d1, K_r4 d1, K_r5 d1, K_r6 d1, Kw_r0 d1, Kw_r1 d1, Kw_r2 d1, Kw_r3 d1, Kw_r4 d1, Kw_r5 d1, Kw_r6 d1, some_bind', nI_1, nI_add, pk_mul, hn, nI_leI]
    rw [if_neg (by omega)]
    show _ = RS (ZZ L xs) (d + 1) mX0_tellOfStranger 5 [some (.ref c), some (.ref b), some (.int (nI g)), some (.int (cntF (s.2.2 0) (s.2.2 5 g) f (p + 1) (n + if s.2.2 0 p = s.2.2 5 g then 1 else 0))), some (.int (nI np))] [] (HP sh (KK x b c s v))
    rw [← ih (p + 1) (by omega)]
    by_cases hq : s.2.2 0 p = s.2.2 5 g
    · rw [if_neg (fun q => q hq), if_pos hq, bX0_tellOfStranger_39 (hv1 := rfl), nI_1]
    · rw [if_pos hq, if_neg hq, bX0_tellOfStranger_39 (hv1 := rfl), nI_1]
theorem v_tos (d : Nat) (h : HR sh x b c t) (hw : gTo x t = w) (np : Nat) (hn : w.1 2 = nI np) (hn6 : np ≤ 6) (g : Nat) (hg : g < 5) (s : SV) (v : CV) : cV (ZZ L xs) (d + 2) mX0_tellOfStranger [.ref c, .ref b, .int (nI g)] (HP sh (KK x b c s v)) = some (HP sh (KK x b c s (v.1, v.2.1, v.2.2.1, wS w s np (farS v.2.1) g v.2.2.2))) := by
  obtain ⟨hB, hC, hT, hct, d1, d2, d3⟩ := id h
  have h1 : CL (ZZ L xs) (d + 2) mX0_tellOfStranger [.ref c, .ref b, .int (nI g)] (HP sh (KK x b c s v)) = some (HP sh (KK x b c s (v.1, v.2.1, v.2.2.1, wS w s np (farS v.2.1) g v.2.2.2)), none) := by
    show RS (ZZ L xs) (d + 2) mX0_tellOfStranger 0 [some (.ref c), some (.ref b), some (.int (nI g)), none, none] [] _ = _
    rw [bX0_tellOfStranger_0 (hv1 := rfl), show (some (Value.int 0) : Option Value) = some (.int (nI 0)) from rfl, tos_loop (d + 1) h hw np hn hn6 g hg s v np 0 rfl, bX0_tellOfStranger_5 (hv1 := rfl)]
    simp (disch := omega) only [St_hour hB, St_chain hB, St_come hB, St_open hB, St_place hB, St_kind hB, St_asked hB, St_total hB, St_chains hB, St_at hB, St_before hB, Stw_hour hB, Stw_chain hB, Stw_come hB, Stw_open hB, St_is hB, Ste_place hB, Ste_kind hB, Ste_asked hB, Ste_total hB, Ste_chains hB, Ste_at hB, Ste_before hB, Stu_place hB, Stu_kind hB, Stu_asked hB, Stu_total hB, Stu_chains hB, Stu_at hB, Stu_before hB, Ck_ways hC, Ck_whom hC, Ck_words hC, Ck_wrong hC, Ckw_town hC, Ckw_rule hC, Ckw_wrong hC, Ck_is hC, Cke_whom hC, Cke_words hC, Cku_whom hC, Cku_words hC, To_places hT, To_term hT, To_people hT, To_strangers hT, To_streets hT, To_wrong hT, To_place hT, To_kind hT, To_from hT, To_to hT, To_every hT, Tow_places hT, Tow_term hT, Tow_people hT, Tow_strangers hT, Tow_streets hT, Tow_wrong hT, To_is hT, Toe_place hT, Toe_kind hT, Toe_from hT, Toe_to hT, Toe_every hT, Tou_place hT, Tou_kind hT, Tou_from hT, Tou_to hT, Tou_every hT, HR_town h, W_I h hw, W_1 h hw, W_2 h hw, W_3 h hw, W_4 h hw, W_5 h hw, K_h, K_c, K_m, K_o, K_R, K_w, K_far, K_whom, K_words, Kw_h, Kw_c, Kw_m, Kw_far, Kw_whom, Kw_words, Kw_w, K_r0 d1, K_r1 d1, K_r2 d1, K_r3 d1, K_r4 d1, K_r5 d1, K_r6 d1, Kw_r0 d1, Kw_r1 d1, Kw_r2 d1, Kw_r3 d1, Kw_r4 d1, Kw_r5 d1, Kw_r6 d1, some_bind', nI_1, nI_add, pk_mul, hn, nI_leI]
    rw [if_pos (Nat.le_refl _), lI5, lI6, lI7, show (nI 0 : Int32) = 0 from rfl]
    have e0 : ∀ y v, wI (HP sh y) (.ref (c + 4)) 0 v = wI (HP sh y) (.ref (c + 4)) (nI 0) v := fun _ _ => rfl
    simp (disch := omega) only [St_hour hB, St_chain hB, St_come hB, St_open hB, St_place hB, St_kind hB, St_asked hB, St_total hB, St_chains hB, St_at hB, St_before hB, Stw_hour hB, Stw_chain hB, Stw_come hB, Stw_open hB, St_is hB, Ste_place hB, Ste_kind hB, Ste_asked hB, Ste_total hB, Ste_chains hB, Ste_at hB, Ste_before hB, Stu_place hB, Stu_kind hB, Stu_asked hB, Stu_total hB, Stu_chains hB, Stu_at hB, Stu_before hB, Ck_ways hC, Ck_whom hC, Ck_words hC, Ck_wrong hC, Ckw_town hC, Ckw_rule hC, Ckw_wrong hC, Ck_is hC, Cke_whom hC, Cke_words hC, Cku_whom hC, Cku_words hC, To_places hT, To_term hT, To_people hT, To_strangers hT, To_streets hT, To_wrong hT, To_place hT, To_kind hT, To_from hT, To_to hT, To_every hT, Tow_places hT, Tow_term hT, Tow_people hT, Tow_strangers hT, Tow_streets hT, Tow_wrong hT, To_is hT, Toe_place hT, Toe_kind hT, Toe_from hT, Toe_to hT, Toe_every hT, Tou_place hT, Tou_kind hT, Tou_from hT, Tou_to hT, Tou_every hT, HR_town h, W_I h hw, W_1 h hw, W_2 h hw, W_3 h hw, W_4 h hw, W_5 h hw, K_h, K_c, K_m, K_o, K_R, K_w, K_far, K_whom, K_words, Kw_h, Kw_c, Kw_m, Kw_far, Kw_whom, Kw_words, Kw_w, K_r0 d1, K_r1 d1, K_r2 d1, K_r3 d1, K_r4 d1, K_r5 d1, K_r6 d1, Kw_r0 d1, Kw_r1 d1, Kw_r2 d1, Kw_r3 d1, Kw_r4 d1, Kw_r5 d1, Kw_r6 d1, some_bind', nI_1, nI_add, pk_mul, e0, iO_HP hC.2.2.2.1, i_far d hC.2.2.2]
    by_cases ht : w.1 1 ≤ 0
    · rw [if_pos ht, bX0_tellOfStranger_137 (hv1 := rfl) (hw2 := rfl), lI9, lI10, lI11]
      simp (disch := omega) only [St_hour hB, St_chain hB, St_come hB, St_open hB, St_place hB, St_kind hB, St_asked hB, St_total hB, St_chains hB, St_at hB, St_before hB, Stw_hour hB, Stw_chain hB, Stw_come hB, Stw_open hB, St_is hB, Ste_place hB, Ste_kind hB, Ste_asked hB, Ste_total hB, Ste_chains hB, Ste_at hB, Ste_before hB, Stu_place hB, Stu_kind hB, Stu_asked hB, Stu_total hB, Stu_chains hB, Stu_at hB, Stu_before hB, Ck_ways hC, Ck_whom hC, Ck_words hC, Ck_wrong hC, Ckw_town hC, Ckw_rule hC, Ckw_wrong hC, Ck_is hC, Cke_whom hC, Cke_words hC, Cku_whom hC, Cku_words hC, To_places hT, To_term hT, To_people hT, To_strangers hT, To_streets hT, To_wrong hT, To_place hT, To_kind hT, To_from hT, To_to hT, To_every hT, Tow_places hT, Tow_term hT, Tow_people hT, Tow_strangers hT, Tow_streets hT, Tow_wrong hT, To_is hT, Toe_place hT, Toe_kind hT, Toe_from hT, Toe_to hT, Toe_every hT, Tou_place hT, Tou_kind hT, Tou_from hT, Tou_to hT, Tou_every hT, HR_town h, W_I h hw, W_1 h hw, W_2 h hw, W_3 h hw, W_4 h hw, W_5 h hw, K_h, K_c, K_m, K_o, K_R, K_w, K_far, K_whom, K_words, Kw_h, Kw_c, Kw_m, Kw_far, Kw_whom, Kw_words, Kw_w, K_r0 d1, K_r1 d1, K_r2 d1, K_r3 d1, K_r4 d1, K_r5 d1, K_r6 d1, Kw_r0 d1, Kw_r1 d1, Kw_r2 d1, Kw_r3 d1, Kw_r4 d1, Kw_r5 d1, Kw_r6 d1, some_bind', nI_1, nI_add, pk_mul]
      unfold wS
      rw [if_pos ht]
    · rw [if_neg ht, if_neg (fun q => ht (by rw [q]; decide)), bX0_tellOfStranger_137 (hv1 := rfl) (hw2 := rfl), lI9, lI10, lI11]
      simp (disch := omega) only [St_hour hB, St_chain hB, St_come hB, St_open hB, St_place hB, St_kind hB, St_asked hB, St_total hB, St_chains hB, St_at hB, St_before hB, Stw_hour hB, Stw_chain hB, Stw_come hB, Stw_open hB, St_is hB, Ste_place hB, Ste_kind hB, Ste_asked hB, Ste_total hB, Ste_chains hB, Ste_at hB, Ste_before hB, Stu_place hB, Stu_kind hB, Stu_asked hB, Stu_total hB, Stu_chains hB, Stu_at hB, Stu_before hB, Ck_ways hC, Ck_whom hC, Ck_words hC, Ck_wrong hC, Ckw_town hC, Ckw_rule hC, Ckw_wrong hC, Ck_is hC, Cke_whom hC, Cke_words hC, Cku_whom hC, Cku_words hC, To_places hT, To_term hT, To_people hT, To_strangers hT, To_streets hT, To_wrong hT, To_place hT, To_kind hT, To_from hT, To_to hT, To_every hT, Tow_places hT, Tow_term hT, Tow_people hT, Tow_strangers hT, Tow_streets hT, Tow_wrong hT, To_is hT, Toe_place hT, Toe_kind hT, Toe_from hT, Toe_to hT, Toe_every hT, Tou_place hT, Tou_kind hT, Tou_from hT, Tou_to hT, Tou_every hT, HR_town h, W_I h hw, W_1 h hw, W_2 h hw, W_3 h hw, W_4 h hw, W_5 h hw, K_h, K_c, K_m, K_o, K_R, K_w, K_far, K_whom, K_words, Kw_h, Kw_c, Kw_m, Kw_far, Kw_whom, Kw_words, Kw_w, K_r0 d1, K_r1 d1, K_r2 d1, K_r3 d1, K_r4 d1, K_r5 d1, K_r6 d1, Kw_r0 d1, Kw_r1 d1, Kw_r2 d1, Kw_r3 d1, Kw_r4 d1, Kw_r5 d1, Kw_r6 d1, some_bind', nI_1, nI_add, pk_mul]
      unfold wS
      rw [if_neg ht]
  unfold cV
  rw [h1]
  rfl
theorem v_top (d : Nat) (h : HR sh x b c t) (g : Nat) (hg : g < 5) (p : Nat) (hp : p < 6) (s : SV) (v : CV) : cV (ZZ L xs) (d + 1) mX0_tellOfPerson [.ref c, .ref b, .int (nI g), .int (nI p)] (HP sh (KK x b c s v)) = some (HP sh (KK x b c s (v.1, v.2.1, v.2.2.1, wP s g p v.2.2.2))) := by
  obtain ⟨hB, hC, hT, hct, d1, d2, d3⟩ := id h
  have hw : gTo x t = gTo x t := rfl
  have h1 : CL (ZZ L xs) (d + 1) mX0_tellOfPerson [.ref c, .ref b, .int (nI g), .int (nI p)] (HP sh (KK x b c s v)) = some (HP sh (KK x b c s (v.1, v.2.1, v.2.2.1, wP s g p v.2.2.2)), none) := by
    show RS (ZZ L xs) (d + 1) mX0_tellOfPerson 0 [some (.ref c), some (.ref b), some (.int (nI g)), some (.int (nI p))] [] _ = _
    rw [bX0_tellOfPerson_0 (hv1 := rfl), lI1, lI2, lI3, lI4, lI6, lI8]
    simp (disch := omega) only [St_hour hB, St_chain hB, St_come hB, St_open hB, St_place hB, St_kind hB, St_asked hB, St_total hB, St_chains hB, St_at hB, St_before hB, Stw_hour hB, Stw_chain hB, Stw_come hB, Stw_open hB, St_is hB, Ste_place hB, Ste_kind hB, Ste_asked hB, Ste_total hB, Ste_chains hB, Ste_at hB, Ste_before hB, Stu_place hB, Stu_kind hB, Stu_asked hB, Stu_total hB, Stu_chains hB, Stu_at hB, Stu_before hB, Ck_ways hC, Ck_whom hC, Ck_words hC, Ck_wrong hC, Ckw_town hC, Ckw_rule hC, Ckw_wrong hC, Ck_is hC, Cke_whom hC, Cke_words hC, Cku_whom hC, Cku_words hC, To_places hT, To_term hT, To_people hT, To_strangers hT, To_streets hT, To_wrong hT, To_place hT, To_kind hT, To_from hT, To_to hT, To_every hT, Tow_places hT, Tow_term hT, Tow_people hT, Tow_strangers hT, Tow_streets hT, Tow_wrong hT, To_is hT, Toe_place hT, Toe_kind hT, Toe_from hT, Toe_to hT, Toe_every hT, Tou_place hT, Tou_kind hT, Tou_from hT, Tou_to hT, Tou_every hT, HR_town h, W_I h hw, W_1 h hw, W_2 h hw, W_3 h hw, W_4 h hw, W_5 h hw, K_h, K_c, K_m, K_o, K_R, K_w, K_far, K_whom, K_words, Kw_h, Kw_c, Kw_m, Kw_far, Kw_whom, Kw_words, Kw_w, K_r0 d1, K_r1 d1, K_r2 d1, K_r3 d1, K_r4 d1, K_r5 d1, K_r6 d1, Kw_r0 d1, Kw_r1 d1, Kw_r2 d1, Kw_r3 d1, Kw_r4 d1, Kw_r5 d1, Kw_r6 d1, some_bind', nI_1, nI_add, pk_mul]
    unfold wP
    by_cases hq : s.1.2.1 = nI p
    · rw [if_neg (fun q => q hq), if_pos hq, bX0_tellOfPerson_67 (hw2 := rfl)]
      simp (disch := omega) only [St_hour hB, St_chain hB, St_come hB, St_open hB, St_place hB, St_kind hB, St_asked hB, St_total hB, St_chains hB, St_at hB, St_before hB, Stw_hour hB, Stw_chain hB, Stw_come hB, Stw_open hB, St_is hB, Ste_place hB, Ste_kind hB, Ste_asked hB, Ste_total hB, Ste_chains hB, Ste_at hB, Ste_before hB, Stu_place hB, Stu_kind hB, Stu_asked hB, Stu_total hB, Stu_chains hB, Stu_at hB, Stu_before hB, Ck_ways hC, Ck_whom hC, Ck_words hC, Ck_wrong hC, Ckw_town hC, Ckw_rule hC, Ckw_wrong hC, Ck_is hC, Cke_whom hC, Cke_words hC, Cku_whom hC, Cku_words hC, To_places hT, To_term hT, To_people hT, To_strangers hT, To_streets hT, To_wrong hT, To_place hT, To_kind hT, To_from hT, To_to hT, To_every hT, Tow_places hT, Tow_term hT, Tow_people hT, Tow_strangers hT, Tow_streets hT, Tow_wrong hT, To_is hT, Toe_place hT, Toe_kind hT, Toe_from hT, Toe_to hT, Toe_every hT, Tou_place hT, Tou_kind hT, Tou_from hT, Tou_to hT, Tou_every hT, HR_town h, W_I h hw, W_1 h hw, W_2 h hw, W_3 h hw, W_4 h hw, W_5 h hw, K_h, K_c, K_m, K_o, K_R, K_w, K_far, K_whom, K_words, Kw_h, Kw_c, Kw_m, Kw_far, Kw_whom, Kw_words, Kw_w, K_r0 d1, K_r1 d1, K_r2 d1, K_r3 d1, K_r4 d1, K_r5 d1, K_r6 d1, Kw_r0 d1, Kw_r1 d1, Kw_r2 d1, Kw_r3 d1, Kw_r4 d1, Kw_r5 d1, Kw_r6 d1, some_bind', nI_1, nI_add, pk_mul]
      rfl
    · rw [if_pos hq, if_neg hq, bX0_tellOfPerson_67 (hw2 := rfl)]
      simp (disch := omega) only [St_hour hB, St_chain hB, St_come hB, St_open hB, St_place hB, St_kind hB, St_asked hB, St_total hB, St_chains hB, St_at hB, St_before hB, Stw_hour hB, Stw_chain hB, Stw_come hB, Stw_open hB, St_is hB, Ste_place hB, Ste_kind hB, Ste_asked hB, Ste_total hB, Ste_chains hB, Ste_at hB, Ste_before hB, Stu_place hB, Stu_kind hB, Stu_asked hB, Stu_total hB, Stu_chains hB, Stu_at hB, Stu_before hB, Ck_ways hC, Ck_whom hC, Ck_words hC, Ck_wrong hC, Ckw_town hC, Ckw_rule hC, Ckw_wrong hC, Ck_is hC, Cke_whom hC, Cke_words hC, Cku_whom hC, Cku_words hC, To_places hT, To_term hT, To_people hT, To_strangers hT, To_streets hT, To_wrong hT, To_place hT, To_kind hT, To_from hT, To_to hT, To_every hT, Tow_places hT, Tow_term hT, Tow_people hT, Tow_strangers hT, Tow_streets hT, Tow_wrong hT, To_is hT, Toe_place hT, Toe_kind hT, Toe_from hT, Toe_to hT, Toe_every hT, Tou_place hT, Tou_kind hT, Tou_from hT, Tou_to hT, Tou_every hT, HR_town h, W_I h hw, W_1 h hw, W_2 h hw, W_3 h hw, W_4 h hw, W_5 h hw, K_h, K_c, K_m, K_o, K_R, K_w, K_far, K_whom, K_words, Kw_h, Kw_c, Kw_m, Kw_far, Kw_whom, Kw_words, Kw_w, K_r0 d1, K_r1 d1, K_r2 d1, K_r3 d1, K_r4 d1, K_r5 d1, K_r6 d1, Kw_r0 d1, Kw_r1 d1, Kw_r2 d1, Kw_r3 d1, Kw_r4 d1, Kw_r5 d1, Kw_r6 d1, some_bind', nI_1, nI_add, pk_mul]
  unfold cV
  rw [h1]
  rfl
end HOUR3
