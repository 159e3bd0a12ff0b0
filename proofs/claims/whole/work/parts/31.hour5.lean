/-! the term's end, the ways, an hour -/
def bstF (s : SV) : Nat → Nat → Int32 → Int32 → Int32
  | 0, _, _, ch => ch
  | f + 1, p, most, ch => if most < s.2.2 2 p then bstF s f (p + 1) (s.2.2 2 p) (nI p) else bstF s f (p + 1) most ch
theorem bstF_in (s : SV) : ∀ (f p : Nat) (most : Int32) (ch : Int32), (ch = -1 ∨ ∃ j, j < f + p ∧ ch = nI j) → bstF s f p most ch = -1 ∨ ∃ j, j < f + p ∧ bstF s f p most ch = nI j
  | 0, p, most, ch, h => h
  | f + 1, p, most, ch, h => by
    unfold bstF
    split
    · rw [show f + 1 + p = f + (p + 1) by omega]
      exact bstF_in s f (p + 1) _ _ (Or.inr ⟨p, by omega, rfl⟩)
    · rw [show f + 1 + p = f + (p + 1) by omega] at h ⊢
      exact bstF_in s f (p + 1) _ _ h
def cloS (w : TW) (np : Nat) (s : SV) : SV := if w.1 1 ≤ 0 ∨ ¬ iRem s.1.1 (w.1 1) = w.1 1 - 1 then s else
  let ch := bstF s np 0 0 (-1)
  let s1 := stCh s ch
  let s2 := if ch = -1 then s1 else stR s1 4 (upd (s.2.2 4) ch.toNatClampNeg (s.2.2 4 ch.toNatClampNeg + 1))
  stR s2 2 (flF 0 6 (s.2.2 2))
section HOUR5
variable {L : Nat} {xs : Nat → Int32} {sh : List Sh} {x : ST} {b c t : Nat} {w : TW} {R : Option ((Nat → Int32) → Int64)}
theorem clo_loop (d : Nat) (h : HR sh x b c t) (hw : gTo x t = w) (np : Nat) (hn : w.1 2 = nI np) (hn6 : np ≤ 6) (s : SV) (v : CV) : ∀ (f p : Nat), f + p = np → ∀ (most ch : Int32), ∃ m', RS (ZZ L xs) (d + 1) mX0_closeTerm 44 [some (.ref c), some (.ref b), some (.int most), some (.int (nI p))] [] (HP sh (KK x b c (stCh s ch) v)) = RS (ZZ L xs) (d + 1) mX0_closeTerm 44 [some (.ref c), some (.ref b), some (.int m'), some (.int (nI np))] [] (HP sh (KK x b c (stCh s (bstF s f p most ch)) v)) := by
  obtain ⟨hB, hC, hT, hct, d1, d2, d3⟩ := id h
  intro f
  induction f with
  | zero =>
    intro p hp most ch
    have : p = np := by omega
    subst this
    exact ⟨most, rfl⟩
  | succ f ih =>
    intro p hp most ch
    rw [bX0_closeTerm_44 (hv1 := rfl)]
    simp (disch := omega) only [St_hour hB, St_chain hB, St_come hB, St_open hB, St_place hB, St_kind hB, St_asked hB, St_total hB, St_chains hB, St_at hB, St_before hB, Stw_hour hB, Stw_chain hB, Stw_come hB, Stw_open hB, St_is hB, Ste_place hB, Ste_kind hB, Ste_asked hB, Ste_total hB, Ste_chains hB, Ste_at hB, Ste_before hB, Stu_place hB, Stu_kind hB, Stu_asked hB, Stu_total hB, Stu_chains hB, Stu_at hB, Stu_before hB, Ck_ways hC, Ck_whom hC, Ck_words hC, Ck_wrong hC, Ckw_town hC, Ckw_rule hC, Ckw_wrong hC, Ck_is hC, Cke_whom hC, Cke_words hC, Cku_whom hC, Cku_words hC, To_places hT, To_term hT, To_people hT, To_strangers hT, To_streets hT, To_wrong hT, To_place hT, To_kind hT, To_from hT, To_to hT, To_every hT, Tow_places hT, Tow_term hT, Tow_people hT, Tow_strangers hT, Tow_streets hT, Tow_wrong hT, To_is hT, Toe_place hT, Toe_kind hT, Toe_from hT, Toe_to hT, Toe_every hT, Tou_place hT, Tou_kind hT, Tou_from hT, Tou_to hT, Tou_every hT, HR_town h, W_I h hw, W_1 h hw, W_2 h hw, W_3 h hw, W_4 h hw, W_5 h hw, K_h, K_c, K_m, K_o, K_R, K_w, K_far, K_whom, K_words, Kw_h, Kw_c, Kw_m, Kw_far, Kw_whom, Kw_words, Kw_w, K_r0 d1, K_r1 d1, K_r2 d1, K_r3 d1, K_r4 d1, K_r5 d1, K_r6 d1, Kw_r0 d1, Kw_r1 d1, Kw_r2 d1, Kw_r3 d1, Kw_r4 d1, Kw_r5 d1, Kw_r6 d1, some_bind', nI_1, nI_add, pk_mul, hn, nI_leI]
    rw [if_neg (by omega)]
    unfold bstF
    by_cases hq : most < s.2.2 2 p
    · rw [if_pos hq, if_neg (show ¬ (stCh s ch).2.2 2 p ≤ most from Int32.not_le.mpr hq), bX0_closeTerm_77 (hv1 := rfl), nI_1]
      exact ih (p + 1) (by omega) _ _
    · rw [if_neg hq, if_pos (show (stCh s ch).2.2 2 p ≤ most from Int32.not_lt.mp hq), bX0_closeTerm_77 (hv1 := rfl), nI_1]
      exact ih (p + 1) (by omega) _ _
theorem v_close (d : Nat) (h : HR sh x b c t) (hw : gTo x t = w) (np : Nat) (hn : w.1 2 = nI np) (hn6 : np ≤ 6) (s : SV) (v : CV) : cV (ZZ L xs) (d + 2) mX0_closeTerm [.ref c, .ref b] (HP sh (KK x b c s v)) = some (HP sh (KK x b c (cloS w np s) v)) := by
  obtain ⟨hB, hC, hT, hct, d1, d2, d3⟩ := id h
  have h1 : CL (ZZ L xs) (d + 2) mX0_closeTerm [.ref c, .ref b] (HP sh (KK x b c s v)) = some (HP sh (KK x b c (cloS w np s) v), none) := by
    show RS (ZZ L xs) (d + 2) mX0_closeTerm 0 [some (.ref c), some (.ref b), none, none] [] _ = _
    rw [bX0_closeTerm_0 (hv1 := rfl)]
    simp (disch := omega) only [St_hour hB, St_chain hB, St_come hB, St_open hB, St_place hB, St_kind hB, St_asked hB, St_total hB, St_chains hB, St_at hB, St_before hB, Stw_hour hB, Stw_chain hB, Stw_come hB, Stw_open hB, St_is hB, Ste_place hB, Ste_kind hB, Ste_asked hB, Ste_total hB, Ste_chains hB, Ste_at hB, Ste_before hB, Stu_place hB, Stu_kind hB, Stu_asked hB, Stu_total hB, Stu_chains hB, Stu_at hB, Stu_before hB, Ck_ways hC, Ck_whom hC, Ck_words hC, Ck_wrong hC, Ckw_town hC, Ckw_rule hC, Ckw_wrong hC, Ck_is hC, Cke_whom hC, Cke_words hC, Cku_whom hC, Cku_words hC, To_places hT, To_term hT, To_people hT, To_strangers hT, To_streets hT, To_wrong hT, To_place hT, To_kind hT, To_from hT, To_to hT, To_every hT, Tow_places hT, Tow_term hT, Tow_people hT, Tow_strangers hT, Tow_streets hT, Tow_wrong hT, To_is hT, Toe_place hT, Toe_kind hT, Toe_from hT, Toe_to hT, Toe_every hT, Tou_place hT, Tou_kind hT, Tou_from hT, Tou_to hT, Tou_every hT, HR_town h, W_I h hw, W_1 h hw, W_2 h hw, W_3 h hw, W_4 h hw, W_5 h hw, K_h, K_c, K_m, K_o, K_R, K_w, K_far, K_whom, K_words, Kw_h, Kw_c, Kw_m, Kw_far, Kw_whom, Kw_words, Kw_w, K_r0 d1, K_r1 d1, K_r2 d1, K_r3 d1, K_r4 d1, K_r5 d1, K_r6 d1, Kw_r0 d1, Kw_r1 d1, Kw_r2 d1, Kw_r3 d1, Kw_r4 d1, Kw_r5 d1, Kw_r6 d1, some_bind', nI_1, nI_add, pk_mul]
    unfold cloS
    by_cases ht : w.1 1 ≤ 0
    · rw [if_pos ht, if_pos (Or.inl ht), bX0_closeTerm_34]
    · rw [if_neg ht, if_neg (fun q => ht (by rw [q]; decide))]
      by_cases hm : iRem s.1.1 (w.1 1) = w.1 1 - 1
      · rw [if_pos hm, if_neg (fun q => q.elim ht (fun q => q hm))]
        obtain ⟨m', hl⟩ := clo_loop (L := L) (xs := xs) (d + 1) h hw np hn hn6 s v np 0 rfl 0 (-1)
        refine Eq.trans hl ?_
        rw [bX0_closeTerm_44 (hv1 := rfl)]
        simp (disch := omega) only [St_hour hB, St_chain hB, St_come hB, St_open hB, St_place hB, St_kind hB, St_asked hB, St_total hB, St_chains hB, St_at hB, St_before hB, Stw_hour hB, Stw_chain hB, Stw_come hB, Stw_open hB, St_is hB, Ste_place hB, Ste_kind hB, Ste_asked hB, Ste_total hB, Ste_chains hB, Ste_at hB, Ste_before hB, Stu_place hB, Stu_kind hB, Stu_asked hB, Stu_total hB, Stu_chains hB, Stu_at hB, Stu_before hB, Ck_ways hC, Ck_whom hC, Ck_words hC, Ck_wrong hC, Ckw_town hC, Ckw_rule hC, Ckw_wrong hC, Ck_is hC, Cke_whom hC, Cke_words hC, Cku_whom hC, Cku_words hC, To_places hT, To_term hT, To_people hT, To_strangers hT, To_streets hT, To_wrong hT, To_place hT, To_kind hT, To_from hT, To_to hT, To_every hT, Tow_places hT, Tow_term hT, Tow_people hT, Tow_strangers hT, Tow_streets hT, Tow_wrong hT, To_is hT, Toe_place hT, Toe_kind hT, Toe_from hT, Toe_to hT, Toe_every hT, Tou_place hT, Tou_kind hT, Tou_from hT, Tou_to hT, Tou_every hT, HR_town h, W_I h hw, W_1 h hw, W_2 h hw, W_3 h hw, W_4 h hw, W_5 h hw, K_h, K_c, K_m, K_o, K_R, K_w, K_far, K_whom, K_words, Kw_h, Kw_c, Kw_m, Kw_far, Kw_whom, Kw_words, Kw_w, K_r0 d1, K_r1 d1, K_r2 d1, K_r3 d1, K_r4 d1, K_r5 d1, K_r6 d1, Kw_r0 d1, Kw_r1 d1, Kw_r2 d1, Kw_r3 d1, Kw_r4 d1, Kw_r5 d1, Kw_r6 d1, some_bind', nI_1, nI_add, pk_mul, hn, nI_leI]
        rw [if_pos (Nat.le_refl _)]
        have hf : ∀ y, cV (ZZ L xs) (d + 1) mJ7_fill_53178 [.ref (b + 3), .int 0] (HP sh y) = some (HP sh (sA y (b + 3) (flF 0 6 (y.2.2.2.1 (b + 3))))) := fun y => v_fill d 0 (Stn_asked hB) (by decide) y
        show (if bstF s np 0 0 (-1) = -1 then _ else _) = _
        rcases bstF_in s np 0 0 (-1) (Or.inl rfl) with hch | ⟨j, hj, hch⟩
        · rw [hch, if_pos rfl, bX0_closeTerm_104 (hv1 := rfl)]
          simp (disch := omega) only [St_hour hB, St_chain hB, St_come hB, St_open hB, St_place hB, St_kind hB, St_asked hB, St_total hB, St_chains hB, St_at hB, St_before hB, Stw_hour hB, Stw_chain hB, Stw_come hB, Stw_open hB, St_is hB, Ste_place hB, Ste_kind hB, Ste_asked hB, Ste_total hB, Ste_chains hB, Ste_at hB, Ste_before hB, Stu_place hB, Stu_kind hB, Stu_asked hB, Stu_total hB, Stu_chains hB, Stu_at hB, Stu_before hB, Ck_ways hC, Ck_whom hC, Ck_words hC, Ck_wrong hC, Ckw_town hC, Ckw_rule hC, Ckw_wrong hC, Ck_is hC, Cke_whom hC, Cke_words hC, Cku_whom hC, Cku_words hC, To_places hT, To_term hT, To_people hT, To_strangers hT, To_streets hT, To_wrong hT, To_place hT, To_kind hT, To_from hT, To_to hT, To_every hT, Tow_places hT, Tow_term hT, Tow_people hT, Tow_strangers hT, Tow_streets hT, Tow_wrong hT, To_is hT, Toe_place hT, Toe_kind hT, Toe_from hT, Toe_to hT, Toe_every hT, Tou_place hT, Tou_kind hT, Tou_from hT, Tou_to hT, Tou_every hT, HR_town h, W_I h hw, W_1 h hw, W_2 h hw, W_3 h hw, W_4 h hw, W_5 h hw, K_h, K_c, K_m, K_o, K_R, K_w, K_far, K_whom, K_words, Kw_h, Kw_c, Kw_m, Kw_far, Kw_whom, Kw_words, Kw_w, K_r0 d1, K_r1 d1, K_r2 d1, K_r3 d1, K_r4 d1, K_r5 d1, K_r6 d1, Kw_r0 d1, Kw_r1 d1, Kw_r2 d1, Kw_r3 d1, Kw_r4 d1, Kw_r5 d1, Kw_r6 d1, some_bind', nI_1, nI_add, pk_mul, hf]
          rfl
        · have hne : ¬ nI j = -1 := fun q => nI_pos (n := j) (by omega) (by rw [q]; decide)
          have e1 : (stCh s (nI j)).1.2.1 = nI j := rfl
          rw [hch, if_neg hne]
          simp (disch := omega) only [St_hour hB, St_chain hB, St_come hB, St_open hB, St_place hB, St_kind hB, St_asked hB, St_total hB, St_chains hB, St_at hB, St_before hB, Stw_hour hB, Stw_chain hB, Stw_come hB, Stw_open hB, St_is hB, Ste_place hB, Ste_kind hB, Ste_asked hB, Ste_total hB, Ste_chains hB, Ste_at hB, Ste_before hB, Stu_place hB, Stu_kind hB, Stu_asked hB, Stu_total hB, Stu_chains hB, Stu_at hB, Stu_before hB, Ck_ways hC, Ck_whom hC, Ck_words hC, Ck_wrong hC, Ckw_town hC, Ckw_rule hC, Ckw_wrong hC, Ck_is hC, Cke_whom hC, Cke_words hC, Cku_whom hC, Cku_words hC, To_places hT, To_term hT, To_people hT, To_strangers hT, To_streets hT, To_wrong hT, To_place hT, To_kind hT, To_from hT, To_to hT, To_every hT, Tow_places hT, Tow_term hT, Tow_people hT, Tow_strangers hT, Tow_streets hT, Tow_wrong hT, To_is hT, Toe_place hT, Toe_kind hT, Toe_from hT, Toe_to hT, Toe_every hT, Tou_place hT, Tou_kind hT, Tou_from hT, Tou_to hT, Tou_every hT, HR_town h, W_I h hw, W_1 h hw, W_2 h hw, W_3 h hw, W_4 h hw, W_5 h hw, K_h, K_c, K_m, K_o, K_R, K_w, K_far, K_whom, K_words, Kw_h, Kw_c, Kw_m, Kw_far, Kw_whom, Kw_words, Kw_w, K_r0 d1, K_r1 d1, K_r2 d1, K_r3 d1, K_r4 d1, K_r5 d1, K_r6 d1, Kw_r0 d1, Kw_r1 d1, Kw_r2 d1, Kw_r3 d1, Kw_r4 d1, Kw_r5 d1, Kw_r6 d1, some_bind', nI_1, nI_add, pk_mul, e1]
          rw [bX0_closeTerm_104 (hv1 := rfl)]
          simp (disch := omega) only [St_hour hB, St_chain hB, St_come hB, St_open hB, St_place hB, St_kind hB, St_asked hB, St_total hB, St_chains hB, St_at hB, St_before hB, Stw_hour hB, Stw_chain hB, Stw_come hB, Stw_open hB, St_is hB, Ste_place hB, Ste_kind hB, Ste_asked hB, Ste_total hB, Ste_chains hB, Ste_at hB, Ste_before hB, Stu_place hB, Stu_kind hB, Stu_asked hB, Stu_total hB, Stu_chains hB, Stu_at hB, Stu_before hB, Ck_ways hC, Ck_whom hC, Ck_words hC, Ck_wrong hC, Ckw_town hC, Ckw_rule hC, Ckw_wrong hC, Ck_is hC, Cke_whom hC, Cke_words hC, Cku_whom hC, Cku_words hC, To_places hT, To_term hT, To_people hT, To_strangers hT, To_streets hT, To_wrong hT, To_place hT, To_kind hT, To_from hT, To_to hT, To_every hT, Tow_places hT, Tow_term hT, Tow_people hT, Tow_strangers hT, Tow_streets hT, Tow_wrong hT, To_is hT, Toe_place hT, Toe_kind hT, Toe_from hT, Toe_to hT, Toe_every hT, Tou_place hT, Tou_kind hT, Tou_from hT, Tou_to hT, Tou_every hT, HR_town h, W_I h hw, W_1 h hw, W_2 h hw, W_3 h hw, W_4 h hw, W_5 h hw, K_h, K_c, K_m, K_o, K_R, K_w, K_far, K_whom, K_words, Kw_h, Kw_c, Kw_m, Kw_far, Kw_whom, Kw_words, Kw_w, K_r0 d1, K_r1 d1, K_r2 d1, K_r3 d1, K_r4 d1, K_r5 d1, K_r6 d1, Kw_r0 d1, Kw_r1 d1, Kw_r2 d1, Kw_r3 d1, Kw_r4 d1, Kw_r5 d1, Kw_r6 d1, some_bind', nI_1, nI_add, pk_mul, hf]
          rw [if_neg hne, nI_clamp (by omega)]
          rfl
      · rw [if_neg hm, if_pos (Or.inr hm), bX0_closeTerm_34]
  unfold cV
  rw [h1]
  rfl
/-- the ways are measured -/
def folS (l : Int64) (v : CV) : CV := if l = v.1 then v else (l, measS l v.2.1, v.2.2)
theorem v_follow (d : Nat) (hC : isCk sh c) (d1 : b + 8 ≤ c ∨ c + 5 ≤ b) (s : SV) (v : CV) (l : Int64) : cV (ZZ L xs) (d + 3) mX11_follow [.ref (c + 1), .long l] (HP sh (KK x b c s v)) = some (HP sh (KK x b c s (folS l v))) := by
  have h1 : CL (ZZ L xs) (d + 3) mX11_follow [.ref (c + 1), .long l] (HP sh (KK x b c s v)) = some (HP sh (KK x b c s (folS l v)), none) := by
    show RS (ZZ L xs) (d + 3) mX11_follow 0 [some (.ref (c + 1)), some (.long l), none] [] _ = _
    rw [bX11_follow_0, rJ hC.2.2.2.1 (q := 0) rfl, some_bind', K_w]
    unfold folS
    by_cases e : l = v.1
    · rw [if_pos (lg_eq.mpr e), if_pos e, bX11_follow_14]
    · rw [if_neg (fun q => e (lg_eq.mp q)), if_neg e, iO_HP hC.2.2.2.1, some_bind', v_measure d hC.2.2.2, some_bind', bX11_follow_14, Kw_w]
      show some (HP sh (sA (KK x b c s (l, v.2)) (c + 2) (measS l ((KK x b c s v).2.2.2.1 (c + 2)))), none) = _
      rw [K_far, Kw_far]
  unfold cV
  rw [h1]
  rfl
/-- strangers one by one: the state, whom, how many ask -/
def pasF (R : Option ((Nat → Int32) → Int64)) (w : TW) (np : Nat) (wrong : Int32) (ms : Int64) (far : Nat → Int32) : Nat → Nat → SV → (Nat → Int32) → Int32 → SV × (Nat → Int32) × Int32
  | 0, _, s, wh, n => (s, wh, n)
  | f + 1, g, s, wh, n =>
    if s.2.2 5 g = w.2.2 3 g then pasF R w np wrong ms far f (g + 1) (stCo (stR s 5 (upd (s.2.2 5) g (-1))) (s.1.2.2 + 1)) (upd wh g (-1)) n
    else if s.2.2 5 g = -1 then pasF R w np wrong ms far f (g + 1) s (upd wh g (-1)) n
    else
      let ch := chS R w s np (farS far) g
      let s1 := couS g ch s
      pasF R w np wrong ms far f (g + 1) (stR s1 5 (upd (s1.2.2 5) g (whtS s1.2.1 ms far wrong (w.2.2 3 g) (s1.2.2 5 g) ch))) (upd wh g ch) (n + if ch = -1 then 0 else 1)
theorem upd_upd (f : Nat → Int32) (i : Nat) (a b : Int32) : upd (upd f i a) i b = upd f i b := by
  funext j
  unfold upd
  by_cases h : j = i <;> simp [h]
theorem upd_at (f : Nat → Int32) (i : Nat) (a : Int32) : upd f i a i = a := by
  unfold upd
  simp
theorem upd_ne (f : Nat → Int32) {i j : Nat} (a : Int32) (h : j ≠ i) : upd f i a j = f j := by
  unfold upd
  simp [h]
theorem pas_loop (d : Nat) (h : HR sh x b c t) (hw : gTo x t = w) (hR : RuOK L xs sh x b c R) (np : Nat) (hn : w.1 2 = nI np) (hn6 : np ≤ 6) (ns : Nat) (hs : w.1 3 = nI ns) (hs5 : ns ≤ 5) (ms : Int64) (far : Nat → Int32) : ∀ (f g : Nat), f + g = ns → ∀ (s : SV) (wh wd : Nat → Int32) (n : Int32), ∃ wd', RS (ZZ L xs) (d + 4) mX0_pass 20 [some (.ref c), some (.ref b), some (.int n), some (.int (nI g))] [] (HP sh (KK x b c s (ms, far, wh, wd))) = RS (ZZ L xs) (d + 4) mX0_pass 20 [some (.ref c), some (.ref b), some (.int (pasF R w np (x.1 c 5) ms far f g s wh n).2.2), some (.int (nI ns))] [] (HP sh (KK x b c (pasF R w np (x.1 c 5) ms far f g s wh n).1 (ms, far, (pasF R w np (x.1 c 5) ms far f g s wh n).2.1, wd'))) := by
  obtain ⟨hB, hC, hT, hct, d1, d2, d3⟩ := id h
  intro f
  induction f with
  | zero =>
    intro g hg s wh wd n
    have : g = ns := by omega
    subst this
    exact ⟨wd, rfl⟩
  | succ f ih =>
    intro g hg s wh wd n
    have hg5 : g < 5 := by omega
    rw [bX0_pass_20 (hv1 := rfl)]
    simp (disch := omega) only [St_hour hB, St_chain hB, St_come hB, St_open hB, St_place hB, St_kind hB, St_asked hB, St_total hB, St_chains hB, St_at hB, St_before hB, Stw_hour hB, Stw_chain hB, Stw_come hB, Stw_open hB, St_is hB, Ste_place hB, Ste_kind hB, Ste_asked hB, Ste_total hB, Ste_chains hB, Ste_at hB, Ste_before hB, Stu_place hB, Stu_kind hB, Stu_asked hB, Stu_total hB, Stu_chains hB, Stu_at hB, Stu_before hB, Ck_ways hC, Ck_whom hC, Ck_words hC, Ck_wrong hC, Ckw_town hC, Ckw_rule hC, Ckw_wrong hC, Ck_is hC, Cke_whom hC, Cke_words hC, Cku_whom hC, Cku_words hC, To_places hT, To_term hT, To_people hT, To_strangers hT, To_streets hT, To_wrong hT, To_place hT, To_kind hT, To_from hT, To_to hT, To_every hT, Tow_places hT, Tow_term hT, Tow_people hT, Tow_strangers hT, Tow_streets hT, Tow_wrong hT, To_is hT, Toe_place hT, Toe_kind hT, Toe_from hT, Toe_to hT, Toe_every hT, Tou_place hT, Tou_kind hT, Tou_from hT, Tou_to hT, Tou_every hT, HR_town h, W_I h hw, W_1 h hw, W_2 h hw, W_3 h hw, W_4 h hw, W_5 h hw, K_h, K_c, K_m, K_o, K_R, K_w, K_far, K_whom, K_words, Kw_h, Kw_c, Kw_m, Kw_far, Kw_whom, Kw_words, Kw_w, K_r0 d1, K_r1 d1, K_r2 d1, K_r3 d1, K_r4 d1, K_r5 d1, K_r6 d1, Kw_r0 d1, Kw_r1 d1, Kw_r2 d1, Kw_r3 d1, Kw_r4 d1, Kw_r5 d1, Kw_r6 d1, some_bind', nI_1, nI_add, pk_mul, hs, nI_leI]
    rw [if_neg (by omega)]
    unfold pasF
    by_cases h1 : s.2.2 5 g = w.2.2 3 g
    · rw [if_neg (fun q => q h1), if_pos h1, bX0_pass_134 (hv1 := rfl), nI_1]
      exact ih (g + 1) (by omega) _ _ _ _
    · rw [if_pos h1, if_neg h1]
      by_cases h2 : s.2.2 5 g = -1
      · rw [if_pos h2, if_pos h2, bX0_pass_134 (hv1 := rfl), nI_1]
        exact ih (g + 1) (by omega) _ _ _ _
      · rw [if_neg h2, if_neg h2]
        obtain ⟨wd1, hc⟩ := i_choose (d := d) h hw hR np hn hn6 g hg5 s (ms, far, upd wh g (-1), wd)
        rw [hc, some_bind']
        show ∃ wd', (wI (HP sh (KK x b c s (ms, far, upd wh g (-1), wd1))) (.ref (c + 3)) (nI g) (chS R w s np (farS far) g)).bind _ = _
        have hch : chS R w s np (farS far) g = -1 ∨ ∃ j, j < 6 ∧ chS R w s np (farS far) g = nI j := by
          rcases chF_in s g (worthS R w s np (farS far) g) np 0 (if R = none then -1 else 0) (-1) (Or.inl rfl) with q | ⟨j, hj, q⟩
          · exact Or.inl q
          · exact Or.inr ⟨j, by omega, q⟩
        generalize chS R w s np (farS far) g = ch at hch ⊢
        simp (disch := omega) only [St_hour hB, St_chain hB, St_come hB, St_open hB, St_place hB, St_kind hB, St_asked hB, St_total hB, St_chains hB, St_at hB, St_before hB, Stw_hour hB, Stw_chain hB, Stw_come hB, Stw_open hB, St_is hB, Ste_place hB, Ste_kind hB, Ste_asked hB, Ste_total hB, Ste_chains hB, Ste_at hB, Ste_before hB, Stu_place hB, Stu_kind hB, Stu_asked hB, Stu_total hB, Stu_chains hB, Stu_at hB, Stu_before hB, Ck_ways hC, Ck_whom hC, Ck_words hC, Ck_wrong hC, Ckw_town hC, Ckw_rule hC, Ckw_wrong hC, Ck_is hC, Cke_whom hC, Cke_words hC, Cku_whom hC, Cku_words hC, To_places hT, To_term hT, To_people hT, To_strangers hT, To_streets hT, To_wrong hT, To_place hT, To_kind hT, To_from hT, To_to hT, To_every hT, Tow_places hT, Tow_term hT, Tow_people hT, Tow_strangers hT, Tow_streets hT, Tow_wrong hT, To_is hT, Toe_place hT, Toe_kind hT, Toe_from hT, Toe_to hT, Toe_every hT, Tou_place hT, Tou_kind hT, Tou_from hT, Tou_to hT, Tou_every hT, HR_town h, W_I h hw, W_1 h hw, W_2 h hw, W_3 h hw, W_4 h hw, W_5 h hw, K_h, K_c, K_m, K_o, K_R, K_w, K_far, K_whom, K_words, Kw_h, Kw_c, Kw_m, Kw_far, Kw_whom, Kw_words, Kw_w, K_r0 d1, K_r1 d1, K_r2 d1, K_r3 d1, K_r4 d1, K_r5 d1, K_r6 d1, Kw_r0 d1, Kw_r1 d1, Kw_r2 d1, Kw_r3 d1, Kw_r4 d1, Kw_r5 d1, Kw_r6 d1, some_bind', nI_1, nI_add, pk_mul, upd_upd, upd_at]
        have hx : ∀ k : Int32, ∃ wd', RS (ZZ L xs) (d + 4) mX0_pass 114 [some (.ref c), some (.ref b), some (.int n), some (.int (nI g))] [.int k, .int n] (HP sh (KK x b c s (ms, far, upd wh g ch, wd1))) = RS (ZZ L xs) (d + 4) mX0_pass 20 [some (.ref c), some (.ref b), some (.int (pasF R w np (x.1 c 5) ms far f (g + 1) (stR (couS g ch s) 5 (upd ((couS g ch s).2.2 5) g (whtS (couS g ch s).2.1 ms far (x.1 c 5) (w.2.2 3 g) ((couS g ch s).2.2 5 g) ch))) (upd wh g ch) (n + k)).2.2), some (.int (nI ns))] [] (HP sh (KK x b c (pasF R w np (x.1 c 5) ms far f (g + 1) (stR (couS g ch s) 5 (upd ((couS g ch s).2.2 5) g (whtS (couS g ch s).2.1 ms far (x.1 c 5) (w.2.2 3 g) ((couS g ch s).2.2 5 g) ch))) (upd wh g ch) (n + k)).1 (ms, far, (pasF R w np (x.1 c 5) ms far f (g + 1) (stR (couS g ch s) 5 (upd ((couS g ch s).2.2 5) g (whtS (couS g ch s).2.1 ms far (x.1 c 5) (w.2.2 3 g) ((couS g ch s).2.2 5 g) ch))) (upd wh g ch) (n + k)).2.1, wd'))) := by
          intro k
          have hv := v_count (L := L) (xs := xs) (d + 2) h g hg5 s (ms, far, upd wh g ch, wd1) (by rw [show (ms, far, upd wh g ch, wd1).2.2.1 g = ch from upd_at _ _ _]; exact hch)
          rw [show (ms, far, upd wh g ch, wd1).2.2.1 g = ch from upd_at _ _ _] at hv
          have hv2 := i_where (L := L) (xs := xs) d h hw g hg5 (couS g ch s) (ms, far, upd wh g ch, wd1)
          rw [show (ms, far, upd wh g ch, wd1).2.2.1 g = ch from upd_at _ _ _] at hv2
          rw [bX0_pass_114 (hv1 := rfl)]
          simp (disch := omega) only [St_hour hB, St_chain hB, St_come hB, St_open hB, St_place hB, St_kind hB, St_asked hB, St_total hB, St_chains hB, St_at hB, St_before hB, Stw_hour hB, Stw_chain hB, Stw_come hB, Stw_open hB, St_is hB, Ste_place hB, Ste_kind hB, Ste_asked hB, Ste_total hB, Ste_chains hB, Ste_at hB, Ste_before hB, Stu_place hB, Stu_kind hB, Stu_asked hB, Stu_total hB, Stu_chains hB, Stu_at hB, Stu_before hB, Ck_ways hC, Ck_whom hC, Ck_words hC, Ck_wrong hC, Ckw_town hC, Ckw_rule hC, Ckw_wrong hC, Ck_is hC, Cke_whom hC, Cke_words hC, Cku_whom hC, Cku_words hC, To_places hT, To_term hT, To_people hT, To_strangers hT, To_streets hT, To_wrong hT, To_place hT, To_kind hT, To_from hT, To_to hT, To_every hT, Tow_places hT, Tow_term hT, Tow_people hT, Tow_strangers hT, Tow_streets hT, Tow_wrong hT, To_is hT, Toe_place hT, Toe_kind hT, Toe_from hT, Toe_to hT, Toe_every hT, Tou_place hT, Tou_kind hT, Tou_from hT, Tou_to hT, Tou_every hT, HR_town h, W_I h hw, W_1 h hw, W_2 h hw, W_3 h hw, W_4 h hw, W_5 h hw, K_h, K_c, K_m, K_o, K_R, K_w, K_far, K_whom, K_words, Kw_h, Kw_c, Kw_m, Kw_far, Kw_whom, Kw_words, Kw_w, K_r0 d1, K_r1 d1, K_r2 d1, K_r3 d1, K_r4 d1, K_r5 d1, K_r6 d1, Kw_r0 d1, Kw_r1 d1, Kw_r2 d1, Kw_r3 d1, Kw_r4 d1, Kw_r5 d1, Kw_r6 d1, some_bind', nI_1, nI_add, pk_mul, hv, hv2]
          rw [bX0_pass_134 (hv1 := rfl), nI_1]
          exact ih (g + 1) (by omega) _ _ _ _
        by_cases h3 : ch = -1
        · rw [if_neg (fun q => q h3), if_pos h3]
          exact hx 0
        · rw [if_pos h3, if_neg h3]
          exact hx 1
/-- an hour: the state behind it, the clock's, how many ask -/
def hourS (R : Option ((Nat → Int32) → Int64)) (w : TW) (np ns : Nat) (wrong : Int32) (s : SV) (v : CV) : SV × CV × Int32 :=
  let v1 := folS s.2.1 v
  let q := pasF R w np wrong v1.1 v1.2.1 ns 0 (arrW w ns 0 s) v1.2.2.1 0
  let s2 := cloS w np q.1
  (stH s2 (s2.1.1 + 1), (v1.1, v1.2.1, q.2.1, v1.2.2.2), q.2.2)
theorem i_pass (d : Nat) (h : HR sh x b c t) (hw : gTo x t = w) (hR : RuOK L xs sh x b c R) (np : Nat) (hn : w.1 2 = nI np) (hn6 : np ≤ 6) (ns : Nat) (hs : w.1 3 = nI ns) (hs5 : ns ≤ 5) (s : SV) (v : CV) : ∃ wd', cI (ZZ L xs) (d + 4) mX0_pass [.ref c, .ref b] (HP sh (KK x b c s v)) = some (HP sh (KK x b c (hourS R w np ns (x.1 c 5) s v).1 ((hourS R w np ns (x.1 c 5) s v).2.1.1, (hourS R w np ns (x.1 c 5) s v).2.1.2.1, (hourS R w np ns (x.1 c 5) s v).2.1.2.2.1, wd')), (hourS R w np ns (x.1 c 5) s v).2.2) := by
  obtain ⟨hB, hC, hT, hct, d1, d2, d3⟩ := id h
  have h1 : ∃ wd', CL (ZZ L xs) (d + 4) mX0_pass [.ref c, .ref b] (HP sh (KK x b c s v)) = some (HP sh (KK x b c (hourS R w np ns (x.1 c 5) s v).1 ((hourS R w np ns (x.1 c 5) s v).2.1.1, (hourS R w np ns (x.1 c 5) s v).2.1.2.1, (hourS R w np ns (x.1 c 5) s v).2.1.2.2.1, wd')), some (.int (hourS R w np ns (x.1 c 5) s v).2.2)) := by
    show ∃ wd', RS (ZZ L xs) (d + 4) mX0_pass 0 [some (.ref c), some (.ref b), none, none] [] _ = _
    rw [bX0_pass_0 (hv1 := rfl)]
    have ha : ∀ v, cV (ZZ L xs) (d + 3) mX0_arrive [.ref c, .ref b] (HP sh (KK x b c s v)) = some (HP sh (KK x b c (arrW w ns 0 s) v)) := fun v => by
      rw [v_arrive (d + 2) h ns (by rw [← hs, ← hw]; rfl) hs5 s v, arrW_eq, hw]
    simp (disch := omega) only [St_hour hB, St_chain hB, St_come hB, St_open hB, St_place hB, St_kind hB, St_asked hB, St_total hB, St_chains hB, St_at hB, St_before hB, Stw_hour hB, Stw_chain hB, Stw_come hB, Stw_open hB, St_is hB, Ste_place hB, Ste_kind hB, Ste_asked hB, Ste_total hB, Ste_chains hB, Ste_at hB, Ste_before hB, Stu_place hB, Stu_kind hB, Stu_asked hB, Stu_total hB, Stu_chains hB, Stu_at hB, Stu_before hB, Ck_ways hC, Ck_whom hC, Ck_words hC, Ck_wrong hC, Ckw_town hC, Ckw_rule hC, Ckw_wrong hC, Ck_is hC, Cke_whom hC, Cke_words hC, Cku_whom hC, Cku_words hC, To_places hT, To_term hT, To_people hT, To_strangers hT, To_streets hT, To_wrong hT, To_place hT, To_kind hT, To_from hT, To_to hT, To_every hT, Tow_places hT, Tow_term hT, Tow_people hT, Tow_strangers hT, Tow_streets hT, Tow_wrong hT, To_is hT, Toe_place hT, Toe_kind hT, Toe_from hT, Toe_to hT, Toe_every hT, Tou_place hT, Tou_kind hT, Tou_from hT, Tou_to hT, Tou_every hT, HR_town h, W_I h hw, W_1 h hw, W_2 h hw, W_3 h hw, W_4 h hw, W_5 h hw, K_h, K_c, K_m, K_o, K_R, K_w, K_far, K_whom, K_words, Kw_h, Kw_c, Kw_m, Kw_far, Kw_whom, Kw_words, Kw_w, K_r0 d1, K_r1 d1, K_r2 d1, K_r3 d1, K_r4 d1, K_r5 d1, K_r6 d1, Kw_r0 d1, Kw_r1 d1, Kw_r2 d1, Kw_r3 d1, Kw_r4 d1, Kw_r5 d1, Kw_r6 d1, some_bind', nI_1, nI_add, pk_mul, iO_HP hC.2.2.2.1, v_follow d hC d1, ha]
    obtain ⟨wd', hl⟩ := pas_loop (L := L) (xs := xs) d h hw hR np hn hn6 ns hs hs5 (folS s.2.1 v).1 (folS s.2.1 v).2.1 ns 0 rfl (arrW w ns 0 s) (folS s.2.1 v).2.2.1 (folS s.2.1 v).2.2.2 0
    refine ⟨wd', Eq.trans hl ?_⟩
    rw [bX0_pass_20 (hv1 := rfl)]
    simp (disch := omega) only [St_hour hB, St_chain hB, St_come hB, St_open hB, St_place hB, St_kind hB, St_asked hB, St_total hB, St_chains hB, St_at hB, St_before hB, Stw_hour hB, Stw_chain hB, Stw_come hB, Stw_open hB, St_is hB, Ste_place hB, Ste_kind hB, Ste_asked hB, Ste_total hB, Ste_chains hB, Ste_at hB, Ste_before hB, Stu_place hB, Stu_kind hB, Stu_asked hB, Stu_total hB, Stu_chains hB, Stu_at hB, Stu_before hB, Ck_ways hC, Ck_whom hC, Ck_words hC, Ck_wrong hC, Ckw_town hC, Ckw_rule hC, Ckw_wrong hC, Ck_is hC, Cke_whom hC, Cke_words hC, Cku_whom hC, Cku_words hC, To_places hT, To_term hT, To_people hT, To_strangers hT, To_streets hT, To_wrong hT, To_place hT, To_kind hT, To_from hT, To_to hT, To_every hT, Tow_places hT, Tow_term hT, Tow_people hT, Tow_strangers hT, Tow_streets hT, Tow_wrong hT, To_is hT, Toe_place hT, Toe_kind hT, Toe_from hT, Toe_to hT, Toe_every hT, Tou_place hT, Tou_kind hT, Tou_from hT, Tou_to hT, Tou_every hT, HR_town h, W_I h hw, W_1 h hw, W_2 h hw, W_3 h hw, W_4 h hw, W_5 h hw, K_h, K_c, K_m, K_o, K_R, K_w, K_far, K_whom, K_words, Kw_h, Kw_c, Kw_m, Kw_far, Kw_whom, Kw_words, Kw_w, K_r0 d1, K_r1 d1, K_r2 d1, K_r3 d1, K_r4 d1, K_r5 d1, K_r6 d1, Kw_r0 d1, Kw_r1 d1, Kw_r2 d1, Kw_r3 d1, Kw_r4 d1, Kw_r5 d1, Kw_r6 d1, some_bind', nI_1, nI_add, pk_mul, hs, nI_leI]
    rw [if_pos (Nat.le_refl _), v_close (d + 1) h hw np hn hn6]
    simp (disch := omega) only [St_hour hB, St_chain hB, St_come hB, St_open hB, St_place hB, St_kind hB, St_asked hB, St_total hB, St_chains hB, St_at hB, St_before hB, Stw_hour hB, Stw_chain hB, Stw_come hB, Stw_open hB, St_is hB, Ste_place hB, Ste_kind hB, Ste_asked hB, Ste_total hB, Ste_chains hB, Ste_at hB, Ste_before hB, Stu_place hB, Stu_kind hB, Stu_asked hB, Stu_total hB, Stu_chains hB, Stu_at hB, Stu_before hB, Ck_ways hC, Ck_whom hC, Ck_words hC, Ck_wrong hC, Ckw_town hC, Ckw_rule hC, Ckw_wrong hC, Ck_is hC, Cke_whom hC, Cke_words hC, Cku_whom hC, Cku_words hC, To_places hT, To_term hT, To_people hT, To_strangers hT, To_streets hT, To_wrong hT, To_place hT, To_kind hT, To_from hT, To_to hT, To_every hT, Tow_places hT, Tow_term hT, Tow_people hT, Tow_strangers hT, Tow_streets hT, Tow_wrong hT, To_is hT, Toe_place hT, Toe_kind hT, Toe_from hT, Toe_to hT, Toe_every hT, Tou_place hT, Tou_kind hT, Tou_from hT, Tou_to hT, Tou_every hT, HR_town h, W_I h hw, W_1 h hw, W_2 h hw, W_3 h hw, W_4 h hw, W_5 h hw, K_h, K_c, K_m, K_o, K_R, K_w, K_far, K_whom, K_words, Kw_h, Kw_c, Kw_m, Kw_far, Kw_whom, Kw_words, Kw_w, K_r0 d1, K_r1 d1, K_r2 d1, K_r3 d1, K_r4 d1, K_r5 d1, K_r6 d1, Kw_r0 d1, Kw_r1 d1, Kw_r2 d1, Kw_r3 d1, Kw_r4 d1, Kw_r5 d1, Kw_r6 d1, some_bind', nI_1, nI_add, pk_mul]
    rfl
  obtain ⟨wd', h1⟩ := h1
  refine ⟨wd', ?_⟩
  unfold cI
  rw [h1]
  rfl
end HOUR5
