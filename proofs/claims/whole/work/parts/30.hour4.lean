/-- whom stranger g asks, by how much each is worth -/
def chF (s : SV) (g : Nat) (W : Nat → Int64) : Nat → Nat → Int64 → Int32 → Int32
  | 0, _, _, ch => ch
  | f + 1, p, most, ch => if s.2.2 0 p = s.2.2 5 g ∧ most < W p then chF s g W f (p + 1) (W p) (nI p) else chF s g W f (p + 1) most ch
def worthS (R : Option ((Nat → Int32) → Int64)) (w : TW) (s : SV) (np : Nat) (far : Int32 → Int32 → Int32) (g p : Nat) : Int64 := match R with
  | none => (s.2.2 1 p).toInt64
  | some f => f (wOf w s np far g p)
def chS (R : Option ((Nat → Int32) → Int64)) (w : TW) (s : SV) (np : Nat) (far : Int32 → Int32 → Int32) (g : Nat) : Int32 := chF s g (worthS R w s np far g) np 0 (if R = none then -1 else 0) (-1)
/-- the rule that the clock has: none, or one that answers by the words -/
def RuOK (L : Nat) (xs : Nat → Int32) (sh : List Sh) (x : ST) (b c : Nat) (R : Option ((Nat → Int32) → Int64)) : Prop := match R with
  | none => x.2.2.1 c 4 = .null
  | some f => ∃ r, x.2.2.1 c 4 = .ref r ∧ isRu sh r ∧ (∀ u v, (∀ k, k < 12 → u k = v k) → f u = f v) ∧ ∀ d s v, cJ (ZZ L xs) (d + 2) mX4_worth [.ref r, .ref (c + 4)] (HP sh (KK x b c s v)) = some (HP sh (KK x b c s v), f v.2.2.2)
theorem lg_le {a b : Int64} : (lg_cmp a b : Int32) ≤ 0 ↔ ¬ b < a := by
  unfold lg_cmp
  by_cases h : b < a
  · rw [if_pos h]
    exact ⟨fun q => absurd q (by decide), fun q => absurd h q⟩
  · rw [if_neg h]
    refine ⟨fun _ => h, fun _ => ?_⟩
    split <;> decide
theorem lg_eq {a b : Int64} : (lg_cmp a b : Int32) = 0 ↔ a = b := by
  unfold lg_cmp
  by_cases h : b < a
  · rw [if_pos h]
    refine ⟨fun q => absurd q (by decide), fun q => ?_⟩
    subst q
    exact absurd h (Int64.lt_irrefl)
  · rw [if_neg h]
    by_cases e : a = b
    · rw [if_pos e]
      exact ⟨fun _ => e, fun _ => rfl⟩
    · rw [if_neg e]
      exact ⟨fun q => absurd q (by decide), fun q => absurd q e⟩
section HOUR4
variable {L : Nat} {xs : Nat → Int32} {sh : List Sh} {x : ST} {b c t : Nat} {w : TW} {R : Option ((Nat → Int32) → Int64)}
theorem HR_rule (h : HR sh x b c t) (hR : RuOK L xs sh x b c R) (s : SV) (v : CV) : fR (HP sh (KK x b c s v)) (.ref c) 0 4 = some (x.2.2.1 c 4) ∧ isN (x.2.2.1 c 4) = some (R.isNone) := by
  unfold RuOK at hR
  have := Ck_rule h.2.1 (KK x b c s v)
  rw [K_R] at this
  cases R with
  | none =>
    have hR : x.2.2.1 c 4 = .null := hR
    rw [hR] at this ⊢
    exact ⟨this rfl, rfl⟩
  | some f =>
    obtain ⟨r, hr, -⟩ := hR
    rw [hr] at this ⊢
    exact ⟨this rfl, rfl⟩
theorem ch_loop (d : Nat) (h : HR sh x b c t) (hw : gTo x t = w) (hR : RuOK L xs sh x b c R) (np : Nat) (hn : w.1 2 = nI np) (hn6 : np ≤ 6) (g : Nat) (hg : g < 5) (s : SV) (v : CV) : ∀ (f p : Nat), f + p = np → ∀ (most : Int64) (ch : Int32) (wd : Nat → Int32) (u7 u8 : Option Value), (R = none ∨ isTold w s np (farS v.2.1) g wd) → ∃ wd', RS (ZZ L xs) (d + 3) mX0_choose 34 [some (.ref c), some (.ref b), some (.int (nI g)), some (.int ch), some (.long most), none, some (.int (nI p)), u7, u8] [] (HP sh (KK x b c s (v.1, v.2.1, v.2.2.1, wd))) = some (HP sh (KK x b c s (v.1, v.2.1, v.2.2.1, wd')), some (.int (chF s g (worthS R w s np (farS v.2.1) g) f p most ch))) := by
  obtain ⟨hB, hC, hT, hct, d1, d2, d3⟩ := id h
  have hr := HR_rule h hR
  intro f
  induction f with
  | zero =>
    intro p hp most ch wd u7 u8 hd
    refine ⟨wd, ?_⟩
    rw [bX0_choose_34 (hv1 := rfl)]
    simp (disch := omega) only [St_hour hB, St_chain hB, St_come hB, St_open hB, St_place hB, St_kind hB, St_asked hB, St_total hB, St_chains hB, St_at hB, St_before hB, Stw_hour hB, Stw_chain hB, Stw_come hB, Stw_open hB, St_is hB, Ste_place hB, Ste_kind hB, Ste_asked hB, Ste_total hB, Ste_chains hB, Ste_at hB, Ste_before hB, Stu_place hB, Stu_kind hB, Stu_asked hB, Stu_total hB, Stu_chains hB, Stu_at hB, Stu_before hB, Ck_ways hC, Ck_whom hC, Ck_words hC, Ck_wrong hC, Ckw_town hC, Ckw_rule hC, Ckw_wrong hC, Ck_is hC, Cke_whom hC, Cke_words hC, Cku_whom hC, Cku_words hC, To_places hT, To_term hT, To_people hT, To_strangers hT, To_streets hT, To_wrong hT, To_place hT, To_kind hT, To_from hT, To_to hT, To_every hT, Tow_places hT, Tow_term hT, Tow_people hT, Tow_strangers hT, Tow_streets hT, Tow_wrong hT, To_is hT, Toe_place hT, Toe_kind hT, Toe_from hT, Toe_to hT, Toe_every hT, Tou_place hT, Tou_kind hT, Tou_from hT, Tou_to hT, Tou_every hT, HR_town h, W_I h hw, W_1 h hw, W_2 h hw, W_3 h hw, W_4 h hw, W_5 h hw, K_h, K_c, K_m, K_o, K_R, K_w, K_far, K_whom, K_words, Kw_h, Kw_c, Kw_m, Kw_far, Kw_whom, Kw_words, Kw_w, K_r0 d1, K_r1 d1, K_r2 d1, K_r3 d1, K_r4 d1, K_r5 d1, K_r6 d1, Kw_r0 d1, Kw_r1 d1, Kw_r2 d1, Kw_r3 d1, Kw_r4 d1, Kw_r5 d1, Kw_r6 d1, some_bind', nI_1, nI_add, pk_mul, hn, nI_leI]
    rw [if_pos (by omega)]
    rfl
  | succ f ih =>
    intro p hp most ch wd u7 u8 hd
    rw [bX0_choose_34 (hv1 := rfl)]
    simp (disch := omega) only [St_hour hB, St_chain hB, St_come hB, St_open hB, St_place hB, St_kind hB, St_asked hB, St_total hB, St_chains hB, St_at hB, St_before hB, Stw_hour hB, Stw_chain hB, Stw_come hB, Stw_open hB, St_is hB, Ste_place hB, Ste_kind hB, Ste_asked hB, Ste_total hB, Ste_chains hB, Ste_at hB, Ste_before hB, Stu_place hB, Stu_kind hB, Stu_asked hB, Stu_total hB, Stu_chains hB, Stu_at hB, Stu_before hB, Ck_ways hC, Ck_whom hC, Ck_words hC, Ck_wrong hC, Ckw_town hC, Ckw_rule hC, Ckw_wrong hC, Ck_is hC, Cke_whom hC, Cke_words hC, Cku_whom hC, Cku_words hC, To_places hT, To_term hT, To_people hT, To_strangers hT, To_streets hT, To_wrong hT, To_place hT, To_kind hT, To_from hT, To_to hT, To_every hT, Tow_places hT, Tow_term hT, Tow_people hT, Tow_strangers hT, Tow_streets hT, Tow_wrong hT, To_is hT, Toe_place hT, Toe_kind hT, Toe_from hT, Toe_to hT, Toe_every hT, Tou_place hT, Tou_kind hT, Tou_from hT, Tou_to hT, Tou_every hT, HR_town h, W_I h hw, W_1 h hw, W_2 h hw, W_3 h hw, W_4 h hw, W_5 h hw, K_h, K_c, K_m, K_o, K_R, K_w, K_far, K_whom, K_words, Kw_h, Kw_c, Kw_m, Kw_far, Kw_whom, Kw_words, Kw_w, K_r0 d1, K_r1 d1, K_r2 d1, K_r3 d1, K_r4 d1, K_r5 d1, K_r6 d1, Kw_r0 d1, Kw_r1 d1, Kw_r2 d1, Kw_r3 d1, Kw_r4 d1, Kw_r5 d1, Kw_r6 d1, some_bind', nI_1, nI_add, pk_mul, hn, nI_leI, (hr _ _).1, (hr s v).2]
    rw [if_neg (by omega)]
    unfold chF
    by_cases hq : s.2.2 0 p = s.2.2 5 g
    · rw [if_neg (fun q => q hq)]
      have key : ∀ (wd2 : Nat → Int32) (u8 : Option Value), (R = none ∨ isTold w s np (farS v.2.1) g wd2) → ∃ wd', RS (ZZ L xs) (d + 3) mX0_choose 100 [some (.ref c), some (.ref b), some (.int (nI g)), some (.int ch), some (.long most), none, some (.int (nI p)), some (.long (worthS R w s np (farS v.2.1) g p)), none] [] (HP sh (KK x b c s (v.1, v.2.1, v.2.2.1, wd2))) = some (HP sh (KK x b c s (v.1, v.2.1, v.2.2.1, wd')), some (.int (if s.2.2 0 p = s.2.2 5 g ∧ most < worthS R w s np (farS v.2.1) g p then chF s g (worthS R w s np (farS v.2.1) g) f (p + 1) (worthS R w s np (farS v.2.1) g p) (nI p) else chF s g (worthS R w s np (farS v.2.1) g) f (p + 1) most ch))) := by
        intro wd2 u8 hd2
        rw [bX0_choose_100 (hv1 := rfl)]
        by_cases hm : most < worthS R w s np (farS v.2.1) g p
        · rw [if_neg (fun q => lg_le.mp q hm), if_pos ⟨hq, hm⟩, bX0_choose_115 (hv1 := rfl), nI_1]
          exact ih (p + 1) (by omega) _ _ _ _ _ hd2
        · rw [if_pos (lg_le.mpr hm), if_neg (fun q => hm q.2), bX0_choose_115 (hv1 := rfl), nI_1]
          exact ih (p + 1) (by omega) _ _ _ _ _ hd2
      cases R with
      | none =>
        rw [if_pos (by rfl)]
        exact key wd none (Or.inl rfl)
      | some fR =>
        rw [if_neg (by intro q; cases q)]
        have hd := hd.resolve_left (by intro q; cases q)
        obtain ⟨r, hr1, hru, hcg, hex⟩ := hR
        rw [v_top (d + 1) h g hg p (by omega), some_bind', (hr _ _).1, some_bind', Ck_words hC, some_bind', hr1, Ru_is hru, some_bind', hex, some_bind']
        obtain ⟨t1, t2⟩ := told_P hd p
        have e : fR (wP s g p wd) = worthS (some fR) w s np (farS v.2.1) g p := hcg _ _ t2
        show ∃ wd', RS (ZZ L xs) (d + 3) mX0_choose 100 [some (.ref c), some (.ref b), some (.int (nI g)), some (.int ch), some (.long most), none, some (.int (nI p)), some (.long (fR (wP s g p wd))), none] [] (HP sh (KK x b c s (v.1, v.2.1, v.2.2.1, wP s g p wd))) = _
        rw [e]
        exact key _ none (Or.inr t1)
    · rw [if_pos hq, if_neg (fun q => hq q.1), bX0_choose_115 (hv1 := rfl), nI_1]
      exact ih (p + 1) (by omega) _ _ _ _ _ hd
theorem i_choose (d : Nat) (h : HR sh x b c t) (hw : gTo x t = w) (hR : RuOK L xs sh x b c R) (np : Nat) (hn : w.1 2 = nI np) (hn6 : np ≤ 6) (g : Nat) (hg : g < 5) (s : SV) (v : CV) : ∃ wd', cI (ZZ L xs) (d + 3) mX0_choose [.ref c, .ref b, .int (nI g)] (HP sh (KK x b c s v)) = some (HP sh (KK x b c s (v.1, v.2.1, v.2.2.1, wd')), chS R w s np (farS v.2.1) g) := by
  obtain ⟨hB, hC, hT, hct, d1, d2, d3⟩ := id h
  have hr := HR_rule h hR
  have h1 : ∃ wd', CL (ZZ L xs) (d + 3) mX0_choose [.ref c, .ref b, .int (nI g)] (HP sh (KK x b c s v)) = some (HP sh (KK x b c s (v.1, v.2.1, v.2.2.1, wd')), some (.int (chS R w s np (farS v.2.1) g))) := by
    show ∃ wd', RS (ZZ L xs) (d + 3) mX0_choose 0 [some (.ref c), some (.ref b), some (.int (nI g)), none, none, none, none, none, none] [] _ = _
    rw [bX0_choose_0 (hv1 := rfl), (hr s v).1, some_bind', (hr s v).2, some_bind']
    unfold chS
    cases R with
    | none =>
      rw [if_pos (by rfl), if_pos (by rfl), bX0_choose_16 (hv1 := rfl), (hr s v).1, some_bind', (hr s v).2, some_bind', if_pos (by rfl), bX0_choose_31 (hv1 := rfl)]
      exact ch_loop d h hw hR np hn hn6 g hg s v np 0 rfl _ _ v.2.2.2 none none (Or.inl rfl)
    | some fR =>
      rw [if_neg (by intro q; cases q), if_neg (by intro q; cases q), bX0_choose_16 (hv1 := rfl), (hr s v).1, some_bind', (hr s v).2, some_bind', if_neg (by intro q; cases q), Ck_is hC, some_bind', v_tos d h hw np hn hn6 g hg s v, some_bind', bX0_choose_31 (hv1 := rfl)]
      exact ch_loop d h hw hR np hn hn6 g hg s v np 0 rfl _ _ _ none none (Or.inr (told_S _ _ _ _ _ _))
  obtain ⟨wd', h1⟩ := h1
  refine ⟨wd', ?_⟩
  unfold cI
  rw [h1]
  rfl
theorem chF_in (s : SV) (g : Nat) (W : Nat → Int64) : ∀ (f p : Nat) (most : Int64) (ch : Int32), (ch = -1 ∨ ∃ j, j < f + p ∧ ch = nI j) → chF s g W f p most ch = -1 ∨ ∃ j, j < f + p ∧ chF s g W f p most ch = nI j
  | 0, p, most, ch, h => h
  | f + 1, p, most, ch, h => by
    unfold chF
    split
    · rw [show f + 1 + p = f + (p + 1) by omega]
      exact chF_in s g W f (p + 1) _ _ (Or.inr ⟨p, by omega, rfl⟩)
    · rw [show f + 1 + p = f + (p + 1) by omega] at h ⊢
      exact chF_in s g W f (p + 1) _ _ h
/-- who was asked is counted -/
def couS (g : Nat) (ch : Int32) (s : SV) : SV := if ch = -1 then s else stR (stR (stR s 2 (upd (s.2.2 2) ch.toNatClampNeg (s.2.2 2 ch.toNatClampNeg + 1))) 3 (upd (s.2.2 3) ch.toNatClampNeg (s.2.2 3 ch.toNatClampNeg + 1))) 6 (upd (s.2.2 6) (g * 6 + ch.toNatClampNeg) (s.2.2 6 (g * 6 + ch.toNatClampNeg) + 1))
theorem v_count (d : Nat) (h : HR sh x b c t) (g : Nat) (hg : g < 5) (s : SV) (v : CV) (hch : v.2.2.1 g = -1 ∨ ∃ j, j < 6 ∧ v.2.2.1 g = nI j) : cV (ZZ L xs) (d + 1) mX0_countAsked [.ref c, .ref b, .int (nI g)] (HP sh (KK x b c s v)) = some (HP sh (KK x b c (couS g (v.2.2.1 g) s) v)) := by
  obtain ⟨hB, hC, hT, hct, d1, d2, d3⟩ := id h
  have hw : gTo x t = gTo x t := rfl
  have h1 : CL (ZZ L xs) (d + 1) mX0_countAsked [.ref c, .ref b, .int (nI g)] (HP sh (KK x b c s v)) = some (HP sh (KK x b c (couS g (v.2.2.1 g) s) v), none) := by
    show RS (ZZ L xs) (d + 1) mX0_countAsked 0 [some (.ref c), some (.ref b), some (.int (nI g)), none] [] _ = _
    rw [bX0_countAsked_0 (hv1 := rfl), lI6]
    simp (disch := omega) only [St_hour hB, St_chain hB, St_come hB, St_open hB, St_place hB, St_kind hB, St_asked hB, St_total hB, St_chains hB, St_at hB, St_before hB, Stw_hour hB, Stw_chain hB, Stw_come hB, Stw_open hB, St_is hB, Ste_place hB, Ste_kind hB, Ste_asked hB, Ste_total hB, Ste_chains hB, Ste_at hB, Ste_before hB, Stu_place hB, Stu_kind hB, Stu_asked hB, Stu_total hB, Stu_chains hB, Stu_at hB, Stu_before hB, Ck_ways hC, Ck_whom hC, Ck_words hC, Ck_wrong hC, Ckw_town hC, Ckw_rule hC, Ckw_wrong hC, Ck_is hC, Cke_whom hC, Cke_words hC, Cku_whom hC, Cku_words hC, To_places hT, To_term hT, To_people hT, To_strangers hT, To_streets hT, To_wrong hT, To_place hT, To_kind hT, To_from hT, To_to hT, To_every hT, Tow_places hT, Tow_term hT, Tow_people hT, Tow_strangers hT, Tow_streets hT, Tow_wrong hT, To_is hT, Toe_place hT, Toe_kind hT, Toe_from hT, Toe_to hT, Toe_every hT, Tou_place hT, Tou_kind hT, Tou_from hT, Tou_to hT, Tou_every hT, HR_town h, W_I h hw, W_1 h hw, W_2 h hw, W_3 h hw, W_4 h hw, W_5 h hw, K_h, K_c, K_m, K_o, K_R, K_w, K_far, K_whom, K_words, Kw_h, Kw_c, Kw_m, Kw_far, Kw_whom, Kw_words, Kw_w, K_r0 d1, K_r1 d1, K_r2 d1, K_r3 d1, K_r4 d1, K_r5 d1, K_r6 d1, Kw_r0 d1, Kw_r1 d1, Kw_r2 d1, Kw_r3 d1, Kw_r4 d1, Kw_r5 d1, Kw_r6 d1, some_bind', nI_1, nI_add, pk_mul]
    unfold couS
    rcases hch with hch | ⟨j, hj, hch⟩
    · rw [if_pos hch, if_pos hch, bX0_countAsked_47]
    · have hne : ¬ nI j = -1 := fun q => nI_pos (n := j) (by omega) (by rw [q]; decide)
      rw [hch, if_neg hne, if_neg hne, nI_clamp (by omega)]
      simp (disch := omega) only [St_hour hB, St_chain hB, St_come hB, St_open hB, St_place hB, St_kind hB, St_asked hB, St_total hB, St_chains hB, St_at hB, St_before hB, Stw_hour hB, Stw_chain hB, Stw_come hB, Stw_open hB, St_is hB, Ste_place hB, Ste_kind hB, Ste_asked hB, Ste_total hB, Ste_chains hB, Ste_at hB, Ste_before hB, Stu_place hB, Stu_kind hB, Stu_asked hB, Stu_total hB, Stu_chains hB, Stu_at hB, Stu_before hB, Ck_ways hC, Ck_whom hC, Ck_words hC, Ck_wrong hC, Ckw_town hC, Ckw_rule hC, Ckw_wrong hC, Ck_is hC, Cke_whom hC, Cke_words hC, Cku_whom hC, Cku_words hC, To_places hT, To_term hT, To_people hT, To_strangers hT, To_streets hT, To_wrong hT, To_place hT, To_kind hT, To_from hT, To_to hT, To_every hT, Tow_places hT, Tow_term hT, Tow_people hT, Tow_strangers hT, Tow_streets hT, Tow_wrong hT, To_is hT, Toe_place hT, Toe_kind hT, Toe_from hT, Toe_to hT, Toe_every hT, Tou_place hT, Tou_kind hT, Tou_from hT, Tou_to hT, Tou_every hT, HR_town h, W_I h hw, W_1 h hw, W_2 h hw, W_3 h hw, W_4 h hw, W_5 h hw, K_h, K_c, K_m, K_o, K_R, K_w, K_far, K_whom, K_words, Kw_h, Kw_c, Kw_m, Kw_far, Kw_whom, Kw_words, Kw_w, K_r0 d1, K_r1 d1, K_r2 d1, K_r3 d1, K_r4 d1, K_r5 d1, K_r6 d1, Kw_r0 d1, Kw_r1 d1, Kw_r2 d1, Kw_r3 d1, Kw_r4 d1, Kw_r5 d1, Kw_r6 d1, some_bind', nI_1, nI_add, pk_mul]
      rw [bX0_countAsked_47]
      rfl
  unfold cV
  rw [h1]
  rfl
/-- whereto: nobody asked, one that sends wrong, or as told -/
def whtS (l : Int64) (ms : Int64) (far : Nat → Int32) (wrong : Int32) (to here ch : Int32) : Int32 := if ch = -1 then leastF (nb l here) here 8 0 else if iShr wrong ch &&& 1 = 1 then greatF (nb l here) here 8 else stepS ms far here to
theorem i_where (d : Nat) (h : HR sh x b c t) (hw : gTo x t = w) (g : Nat) (hg : g < 5) (s : SV) (v : CV) : cI (ZZ L xs) (d + 3) mX0_whereTo [.ref c, .ref b, .int (nI g)] (HP sh (KK x b c s v)) = some (HP sh (KK x b c s v), whtS s.2.1 v.1 v.2.1 (x.1 c 5) (w.2.2 3 g) (s.2.2 5 g) (v.2.2.1 g)) := by
  obtain ⟨hB, hC, hT, hct, d1, d2, d3⟩ := id h
  have h1 : CL (ZZ L xs) (d + 3) mX0_whereTo [.ref c, .ref b, .int (nI g)] (HP sh (KK x b c s v)) = some (HP sh (KK x b c s v), some (.int (whtS s.2.1 v.1 v.2.1 (x.1 c 5) (w.2.2 3 g) (s.2.2 5 g) (v.2.2.1 g)))) := by
    show RS (ZZ L xs) (d + 3) mX0_whereTo 0 [some (.ref c), some (.ref b), some (.int (nI g)), none, none] [] _ = _
    rw [bX0_whereTo_0 (hv1 := rfl)]
    have hk : (KK x b c s v).1 c 5 = x.1 c 5 := K_I _ _ _ _ (by omega)
    simp (disch := omega) only [St_hour hB, St_chain hB, St_come hB, St_open hB, St_place hB, St_kind hB, St_asked hB, St_total hB, St_chains hB, St_at hB, St_before hB, Stw_hour hB, Stw_chain hB, Stw_come hB, Stw_open hB, St_is hB, Ste_place hB, Ste_kind hB, Ste_asked hB, Ste_total hB, Ste_chains hB, Ste_at hB, Ste_before hB, Stu_place hB, Stu_kind hB, Stu_asked hB, Stu_total hB, Stu_chains hB, Stu_at hB, Stu_before hB, Ck_ways hC, Ck_whom hC, Ck_words hC, Ck_wrong hC, Ckw_town hC, Ckw_rule hC, Ckw_wrong hC, Ck_is hC, Cke_whom hC, Cke_words hC, Cku_whom hC, Cku_words hC, To_places hT, To_term hT, To_people hT, To_strangers hT, To_streets hT, To_wrong hT, To_place hT, To_kind hT, To_from hT, To_to hT, To_every hT, Tow_places hT, Tow_term hT, Tow_people hT, Tow_strangers hT, Tow_streets hT, Tow_wrong hT, To_is hT, Toe_place hT, Toe_kind hT, Toe_from hT, Toe_to hT, Toe_every hT, Tou_place hT, Tou_kind hT, Tou_from hT, Tou_to hT, Tou_every hT, HR_town h, W_I h hw, W_1 h hw, W_2 h hw, W_3 h hw, W_4 h hw, W_5 h hw, K_h, K_c, K_m, K_o, K_R, K_w, K_far, K_whom, K_words, Kw_h, Kw_c, Kw_m, Kw_far, Kw_whom, Kw_words, Kw_w, K_r0 d1, K_r1 d1, K_r2 d1, K_r3 d1, K_r4 d1, K_r5 d1, K_r6 d1, Kw_r0 d1, Kw_r1 d1, Kw_r2 d1, Kw_r3 d1, Kw_r4 d1, Kw_r5 d1, Kw_r6 d1, some_bind', nI_1, nI_add, pk_mul, i_nb, i_least, i_great, iO_HP hC.2.2.2.1, i_step d hC.2.2.2, hk]
    unfold whtS
    by_cases h1 : v.2.2.1 g = -1
    · rw [if_neg (fun q => q h1), if_pos h1]
    · rw [if_pos h1, if_neg h1]
      by_cases h2 : iShr (x.1 c 5) (v.2.2.1 g) &&& 1 = 1
      · rw [if_neg (fun q => q h2), if_pos h2]
      · rw [if_pos h2, if_neg h2]
  unfold cI
  rw [h1]
  rfl
end HOUR4
