/-! rule: the class -/
section RX7
variable {L : Nat} {xs : Nat → Int32} {W : WD}
def Dru (r o : Nat) : Prop := o = 1 ∨ o = 195 ∨ r ≤ o ∧ o < r + 7
theorem x_readR (d : Nat) {sh : List Sh} {y : ST} {r : Nat} (hx : XI L xs sh y W) (hv : VW W) (hRu : isRu sh r) (hr2 : r = 197 ∨ 307 ≤ r) : ∃ y' rr, cI (ZZ L xs) (d + 38) mX5_read [.ref 195, .ref r] (HP sh y) = some (HP sh y', rr) ∧ Off (Dru r) y y' ∧ ((∃ e, rRd W.1 13 0 (rn isB W.1 0) 0 [] = .inl e ∧ rr = 0 ∧ y'.1 1 4 = nI e ∧ (0 < e ∧ e < 10000)) ∨ ∃ cl, rRd W.1 13 0 (rn isB W.1 0) 0 [] = .inr cl ∧ rr = 1 ∧ RuD L xs sh y' r (rDn cl)) := by
  have hT : isTa sh 1 := hx.1.1.2.1
  have hRR : isRR sh 195 := hx.1.2.1.2.1
  have hC : CXr sh r := ⟨hT, hRR, hRu, hr2⟩
  have o1 : Off (fun o => o = 195) y (sR y 195 1 (.ref r)) := Off_sR (D := fun o => o = 195) (Off_refl _ _) rfl _ _
  have h1 : (sR y 195 1 (.ref r)).2.2.1 195 1 = .ref r := rfl
  have hx1 : XTa (sR y 195 1 (.ref r)) W.1 := hx.2.1
  generalize hy1 : sR y 195 1 (.ref r) = y1 at *
  obtain ⟨y2, hy2⟩ : ∃ y2, y2 = sI (sI (sI (sI y1 r 0 0) r 3 0) r 6 0) r 7 0 := ⟨_, rfl⟩
  have o2 : Off (fun o => o = r) y1 y2 := by
    rw [hy2]
    exact Off_sI (D := fun o => o = r) (Off_sI (D := fun o => o = r) (Off_sI (D := fun o => o = r) (Off_sI (D := fun o => o = r) (Off_refl _ _) rfl _ _) rfl _ _) rfl _ _) rfl _ _
  have i2 : y2.1 r 0 = 0 ∧ y2.1 r 3 = 0 ∧ y2.1 r 6 = 0 ∧ y2.1 r 7 = 0 := by
    rw [hy2]
    refine ⟨?_, ?_, ?_, ?_⟩
    · show (if r = r ∧ 0 = 7 then _ else if r = r ∧ 0 = 6 then _ else if r = r ∧ 0 = 3 then _ else if r = r ∧ 0 = 0 then (0 : Int32) else _) = 0
      rw [if_neg (by omega), if_neg (by omega), if_neg (by omega), if_pos ⟨rfl, rfl⟩]
    · show (if r = r ∧ 3 = 7 then _ else if r = r ∧ 3 = 6 then _ else if r = r ∧ 3 = 3 then (0 : Int32) else _) = 0
      rw [if_neg (by omega), if_neg (by omega), if_pos ⟨rfl, rfl⟩]
    · show (if r = r ∧ 6 = 7 then _ else if r = r ∧ 6 = 6 then (0 : Int32) else _) = 0
      rw [if_neg (by omega), if_pos ⟨rfl, rfl⟩]
    · show (if r = r ∧ 7 = 7 then (0 : Int32) else _) = 0
      rw [if_pos ⟨rfl, rfl⟩]
  have hcl : cV (ZZ L xs) (d + 37) mX4_clear [.ref r] (HP sh y1) = some (HP sh y2) := by
    refine cV_of ?_
    show RS (ZZ L xs) (d + 37) mX4_clear 0 [some (.ref r)] [] _ = _
    rw [bX4_clear_0, Ruw_values hRu, some_bind', Ruw_sums hRu, some_bind', Ruw_facts hRu, some_bind', Ruw_steps hRu, some_bind', hy2]
  obtain ⟨y3, a1, a2, a3⟩ := v_openT (L := L) (xs := xs) (d + 34) hT hv.1 (XTa_off o2 (by omega) (by omega) hx1)
  have hp3 : PX y3 W.1 (rn isB W.1 0) r 0 0 0 0 := by
    refine ⟨a3, ?_, ?_, fun k hk => absurd hk (Nat.not_lt_zero k)⟩
    · rw [(a2 195 (by decide)).2.2.1, (o2 195 (by omega)).2.2.1]
      exact h1
    · unfold RSt
      rw [(a2 r (by omega)).1]
      exact ⟨⟨i2.1, i2.2.1, i2.2.2.1, i2.2.2.2⟩, by decide, by decide, by decide, by decide⟩
  obtain ⟨y4, rr, b1, b2⟩ := x_readL (L := L) (xs := xs) hC hv.1 d 13 0 (rn isB W.1 0) 0 0 0 0 [] y3 (some (.ref r)) none none none rfl (by decide) hp3 (by decide) (Nat.le_refl _) (Nat.zero_le _) (fun sh z a d N S _ _ _ _ _ _ _ _ _ _ h => ⟨fun val hv => (by cases hv), fun _ => ⟨h, rfl⟩⟩)
  have o3 : Off (Dru r) y y3 := Off_trans (Off_trans (Off_mono o1 (fun o q => Or.inr (Or.inl q))) (Off_mono o2 (fun o q => by unfold Dru; omega))) (Off_mono a2 (fun o q => Or.inl q))
  have oD : ∀ o, Drl r o → Dru r o := fun o q => q.elim Or.inl (fun z => Or.inr (Or.inr z))
  have hcall : cI (ZZ L xs) (d + 38) mX5_read [.ref 195, .ref r] (HP sh y) = some (HP sh y4, rr) := by
    refine cI_of ?_
    show RS (ZZ L xs) (d + 38) mX5_read 0 [some (.ref 195), some (.ref r), none, none, none, none, none] [] _ = _
    rw [bX5_read_0 (hv1 := rfl), RRw_rule hRR, some_bind', hy1, rr_rule hC h1, some_bind', Ru_is hRu, some_bind', hcl, some_bind', RR_tape hRR, some_bind', Ta_is hT, some_bind', a1, some_bind']
    exact b1
  rcases b2 with ⟨e, e1, e2, e3⟩ | ⟨cl, e1, e2, e3, v', sm', fa', st', e4, e5⟩
  · exact ⟨y4, rr, hcall, Off_trans o3 (Off_mono e3.1 oD), Or.inl ⟨e, e1, e2, e3.2.1, e3.2.2.1⟩⟩
  · exact ⟨y4, rr, hcall, Off_trans o3 (Off_mono e3 oD), Or.inr ⟨cl, e1, e2, RuD_of hRu e4 e5⟩⟩
theorem Ru_disj {sh : List Sh} {a b o : Nat} (ha : isRu sh a) (hb : isRu sh b) (hne : a ≠ b) (h1 : a ≤ o) (h2 : o < a + 7) : ¬ (b ≤ o ∧ o < b + 7) := fun h => by
  have := (Own_uni (Own_Ru ha h1 h2) (Own_Ru hb h.1 h.2)).1
  omega
theorem To_no_Ru {sh : List Sh} {t r o : Nat} (ht : isTo sh t) (hr : isRu sh r) (h1 : t ≤ o) (h2 : o < t + 6) : ¬ (r ≤ o ∧ o < r + 7) := fun h => by
  have := (Own_uni (Own_To ht h1 h2) (Own_Ru hr h.1 h.2)).2
  omega
theorem XI_rule {sh : List Sh} {x y : ST} {r : Nat} (hx : XI L xs sh x W) (hRu : isRu sh r) (hr2 : r = 197 ∨ 307 ≤ r) (hnot : ∀ i, i < W.2.2.2.1 → x.2.2.2.2.2 196 i ≠ some r) (ho : Off (Dru r) x y) (h1 : y.1 1 1 = 0) : XI L xs sh y ((0, W.1.2), W.2) := by
  obtain ⟨a1, a2, a3, a4, a5, ⟨a6, a6'⟩, a7, a8, r', a9, a10, a11, a12⟩ := hx
  have e204 := (ho 204 (by unfold Dru; omega)).2.2.2.2.2
  have e196 := (ho 196 (by unfold Dru; omega)).2.2.2.2.2
  have hto : ∀ t o, isTo sh t → (t = 4 ∨ 307 ≤ t) → t ≤ o → o < t + 6 → ¬ Dru r o := fun t o ht h4 q1 q2 hd => by
    have := To_no_Ru ht hRu q1 q2
    unfold Dru at hd
    omega
  refine ⟨a1, ⟨h1, fun i hi => absurd hi (Nat.not_lt_zero i)⟩, ?_, XTu_off ho (by unfold Dru; omega) a4, XSc_off ho (fun o q => by unfold Dru; omega) hto a5, ⟨fun k hk => ⟨fun hg => ?_, fun c hg => ?_⟩, fun j k q q' hj hk hjk q1 q2 => ?_⟩, ?_, fun i hi => ?_, r', ?_, a10, a11, fun i hi => ?_⟩
  · rw [gCk_off ho (fun o q1 q2 => by unfold Dru; omega)]
    exact a3
  · rw [e204]
    exact (a6 k hk).1 hg
  · obtain ⟨q, q1, q2, q3⟩ := (a6 k hk).2 c hg
    refine ⟨q, by rw [e204]; exact q1, q2, XSc_off ho (fun o q4 hd => ?_) hto q3⟩
    have hno := fun (w1 : r ≤ o) (w2 : o < r + 7) => Sc_no_Ru q3.1 hRu w1 w2
    unfold Dru at hd
    rcases hd with hd | hd | hd
    · omega
    · omega
    · exact hno hd.1 hd.2 q4
  · rw [e204] at q1 q2
    exact a6' j k q q' hj hk hjk q1 q2
  · rw [(ho 0 (by unfold Dru; omega)).1]
    exact a7
  · obtain ⟨q, q1, q2, q3⟩ := a8 i hi
    refine ⟨q, by rw [e196]; exact q1, q2, RuD_off ho (fun o w1 w2 hd => ?_) q3⟩
    have hne : q ≠ r := fun z => hnot i hi (by rw [q1, z])
    have := Ru_disj q3.1 hRu hne w1 w2
    unfold Dru at hd
    omega
  · rw [(ho 0 (by unfold Dru; omega)).2.2.1]
    exact a9
  · rw [e196]
    exact a12 i hi
def addR (R : Nat × (Nat → (Nat → Int32) → Int64)) (f : (Nat → Int32) → Int64) : Nat × (Nat → (Nat → Int32) → Int64) := (R.1 + 1, fun i => if i = R.1 then f else R.2 i)
theorem isRu_new (sh : List Sh) : isRu (sh ++ shRu sh.length) sh.length := ⟨Ext_at 0 rfl, Ext_at 1 rfl, Ext_at 2 rfl, Ext_at 3 rfl, Ext_at 4 rfl, Ext_at 5 rfl, Ext_at 6 rfl⟩
theorem updR_at (f : Nat → Option Nat) (i : Nat) (v : Option Nat) : updR f i v i = v := if_pos rfl
theorem updR_ne (f : Nat → Option Nat) {i j : Nat} (v : Option Nat) (h : j ≠ i) : updR f i v j = f j := if_neg h
/-- a rule kept, a new one made -/
theorem XI_kept {sh : List Sh} {y z : ST} {r : Nat} {f : (Nat → Int32) → Int64} (hx : XI L xs sh y W) (h6 : W.2.2.2.1 < 6) (hRu : RuD L xs sh y r f) (hr2 : r = 197 ∨ 307 ≤ r) (ho : Off (fun o => o = 0 ∨ o = 196 ∨ sh.length ≤ o) y z) (h04 : z.1 0 4 = nI (W.2.2.2.1 + 1)) (hz0 : ∀ k, k ≠ 4 → z.1 0 k = y.1 0 k) (h05 : z.2.2.1 0 5 = .ref sh.length) (h196 : z.2.2.2.2.2 196 = updR (y.2.2.2.2.2 196) W.2.2.2.1 (some r)) : XI L xs (sh ++ shRu sh.length) z (W.1, W.2.1, W.2.2.1, addR W.2.2.2 f) := by
  have hl := isXS_len hx.1
  obtain ⟨w, w1, w2, w3⟩ := Off_split (A := fun o => o = 0 ∨ o = 196) (B := fun o => sh.length ≤ o) (Off_mono ho (fun o q => by omega))
  have hext := Ext_app sh (shRu sh.length)
  obtain ⟨a1, a2, a3, a4, a5, a6, a7, a8, r', a9, a10, a11, a12⟩ := hx
  have hn : ∀ o, ¬ (o = 0 ∨ o = 196 ∨ sh.length ≤ o) → ¬ (o = 0 ∨ o = 196) := fun o q => by omega
  -- all but the rules
  have hb : XSc sh w 3 W.2.1 := XSc_off w1 (fun o q => by omega) (fun t o _ ht q1 q2 => by omega) a5
  have hi : XIm sh w W.2.2.1 := XIm_off w1 (by omega) (fun o q1 q2 => by omega) (fun o q => by omega) a6
  have e196 : z.2.2.2.2.2 196 = updR (y.2.2.2.2.2 196) W.2.2.2.1 (some r) := h196
  have e204 := (w2 204 (by omega)).2.2.2.2.2
  have hrl : r < sh.length := len_of hRu.1.1
  refine ⟨isXS_ext hext a1, XTa_off w2 (by omega) (by omega) (XTa_off w1 (by omega) (by omega) a2), ?_, XTu_off w2 (by omega) (XTu_off w1 (by omega) a4), XSc_ext hext w2 hb, ⟨fun k hk => ⟨fun hg => ?_, fun c hg => ?_⟩, fun j k q q' hj hk hjk q1 q2 => ?_⟩, h04, fun i hi2 => ?_, sh.length, h05, isRu_new sh, Or.inr hl, fun i hi2 => ?_⟩
  · rw [gCk_off w2 (fun o q1 q2 => by omega), gCk_off w1 (fun o q1 q2 => by omega)]
    exact a3
  · rw [e204]
    exact (hi.1 k hk).1 hg
  · obtain ⟨q, q1, q2, q3⟩ := (hi.1 k hk).2 c hg
    exact ⟨q, by rw [e204]; exact q1, q2, XSc_ext hext w2 q3⟩
  · rw [e204] at q1 q2
    exact hi.2 j k q q' hj hk hjk q1 q2
  · have hi2 : i < W.2.2.2.1 + 1 := hi2
    have keep : ∀ {q : Nat} {g : (Nat → Int32) → Int64}, RuD L xs sh y q g → (q = 197 ∨ 307 ≤ q) → RuD L xs (sh ++ shRu sh.length) z q g := fun {q g} hq hq2 => by
      have hql := len_of hq.1.2.2.2.2.2.2
      exact RuD_ext hext (RuD_off ho (fun o u1 u2 => by omega) hq)
    rw [e196]
    by_cases e : i = W.2.2.2.1
    · refine ⟨r, by rw [e, updR_at], hr2, ?_⟩
      show RuD L xs _ z r (if i = W.2.2.2.1 then f else W.2.2.2.2 i)
      rw [if_pos e]
      exact keep hRu hr2
    · obtain ⟨q, q1, q2, q3⟩ := a8 i (by omega)
      refine ⟨q, by rw [updR_ne _ _ e]; exact q1, q2, ?_⟩
      show RuD L xs _ z q (if i = W.2.2.2.1 then f else W.2.2.2.2 i)
      rw [if_neg e]
      exact keep q3 q2
  · have hi2 : i < W.2.2.2.1 + 1 := hi2
    rw [e196]
    by_cases e : i = W.2.2.2.1
    · rw [e, updR_at]
      intro q
      cases q
      omega
    · rw [updR_ne _ _ e]
      obtain ⟨q, q1, q2, q3⟩ := a8 i (by omega)
      rw [q1]
      intro z
      cases z
      have := len_of q3.1.1
      omega
theorem X_rule (d : Nat) {sh : List Sh} {y : ST} (hx : XI L xs sh y W) (hv : VW W) (h6 : W.2.2.2.1 < 6) : (∃ e, rRd W.1 13 0 (rn isB W.1 0) 0 [] = .inl e ∧ (0 < e ∧ e < 10000) ∧ ∃ y', cI (ZZ L xs) (d + 60) mX12_rule [.ref 0] (HP sh y) = some (HP sh y', -2 - nI e) ∧ XI L xs sh y' ((0, W.1.2), W.2) ∧ OffM y y') ∨ ∃ cl, rRd W.1 13 0 (rn isB W.1 0) 0 [] = .inr cl ∧ ∃ y', cI (ZZ L xs) (d + 60) mX12_rule [.ref 0] (HP sh y) = some (HP (sh ++ shRu sh.length) y', nI W.2.2.2.1) ∧ XI L xs (sh ++ shRu sh.length) y' ((0, W.1.2), W.2.1, W.2.2.1, addR W.2.2.2 (rDn cl)) ∧ OffM y y' := by
  have hl := isXS_len hx.1
  have hW : isWM sh 0 := hx.1.1.1
  have hT : isTa sh 1 := hx.1.1.2.1
  have hcnt : y.1 0 4 = nI W.2.2.2.1 := hx.2.2.2.2.2.2.1
  obtain ⟨r, a9, a10, a11, a12⟩ := hx.2.2.2.2.2.2.2.2
  obtain ⟨y1, rr, p1, p2, p3⟩ := x_readR (L := L) (xs := xs) (d + 21) hx hv a10 a11
  have hbl : ∀ {z : ST}, z.2.2.1 0 5 = .ref r → fR (HP sh z) (.ref 0) 12 5 = some (.ref r) := fun {z} h => by
    have := WM_blankRule hW z (by rw [h]; rfl)
    rw [this, h]
  have b0 : CL (ZZ L xs) (d + 60) mX12_rule [.ref 0] (HP sh y) = _ := bX12_rule_0 (d + 59) 0 (HP sh y)
  rw [WM_ruleCount hW, some_bind', hcnt, if_pos (show nI W.2.2.2.1 < 6 from nI_lt (b := 6) h6 (by decide)), WM_ruleReader hW, some_bind', hbl a9, some_bind', RR_is hx.1.2.1.2.1, some_bind', p1, some_bind', WM_tape hW, some_bind', Taw_length hT, some_bind'] at b0
  have o2 : Off (Dru r) y (sI y1 1 1 0) := Off_sI p2 (Or.inl rfl) _ _
  have hx2 : XI L xs sh (sI y1 1 1 0) ((0, W.1.2), W.2) := XI_rule hx a10 a11 a12 o2 rfl
  have oM : OffM y (sI y1 1 1 0) := Off_mono o2 (fun o q => by unfold Dru at q; omega)
  rcases p3 with ⟨e, e1, e2, e3, e4⟩ | ⟨cl, e1, e2, e3⟩
  · refine Or.inl ⟨e, e1, e4, sI y1 1 1 0, cI_of ?_, hx2, oM⟩
    rw [b0, if_neg (fun z => z e2), WM_tape hW, some_bind', Ta_fault hT, some_bind', show (sI y1 1 1 0).1 1 4 = nI e from e3]
  · have hru2 : RuD L xs sh (sI y1 1 1 0) r (rDn cl) := RuD_off (D := fun o => o = 1) (Off_sI (D := fun o => o = 1) (Off_refl _ _) rfl _ _) (fun o q1 q2 => by omega) e3
    generalize hy2 : sI y1 1 1 0 = y2 at *
    have h05 : y2.2.2.1 0 5 = .ref r := by
      rw [(o2 0 (by unfold Dru; omega)).2.2.1]
      exact a9
    have h04 : y2.1 0 4 = nI W.2.2.2.1 := by
      rw [(o2 0 (by unfold Dru; omega)).1]
      exact hcnt
    obtain ⟨y3, hy3⟩ : ∃ y3, y3 = sAR y2 196 (updR (y2.2.2.2.2.2 196) W.2.2.2.1 (some r)) := ⟨_, rfl⟩
    have hw := wAR (x := y2) (t := 4) (by omega) hx.1.2.1.2.2.1 h6 (by decide) (v := r) a10.1
    rw [← hy3] at hw
    have o3 : Off (fun o => o = 196) y2 y3 := by
      rw [hy3]
      exact Off_sAR (D := fun o => o = 196) (Off_refl _ _) rfl _
    have off0 := Off_bl y3 sh.length (fun _ _ => 0) (fun _ _ => .null) (fun _ _ => none)
    have hap := HP_blk (sh := sh) (e := shRu sh.length) off0 (blk_Ru (R := fun _ _ => .null) (A := fun _ _ => none) (Nat.le_refl _) (fun _ => rfl))
    generalize hy4 : bl y3 sh.length (fun _ _ => 0) (fun _ _ => .null) (fun _ _ => none) = y4 at *
    have hext := Ext_app sh (shRu sh.length)
    have hW' : isWM (sh ++ shRu sh.length) 0 := (isXS_ext hext hx.1).1.1
    obtain ⟨y5, hy5⟩ : ∃ y5, y5 = sI (sR y4 0 5 (.ref sh.length)) 0 4 (nI (W.2.2.2.1 + 1)) := ⟨_, rfl⟩
    have o5 : Off (fun o => o = 0) y4 y5 := by
      rw [hy5]
      exact Off_sI (D := fun o => o = 0) (Off_sR (D := fun o => o = 0) (Off_refl _ _) rfl _ _) rfl _ _
    have o25 : Off (fun o => o = 0 ∨ o = 196 ∨ sh.length ≤ o) y2 y5 := Off_trans (Off_trans (Off_mono o3 (fun o q => by omega)) (Off_mono off0 (fun o q => by omega))) (Off_mono o5 (fun o q => by omega))
    have i4 : ∀ k, y4.1 0 k = y2.1 0 k := fun k => by rw [(off0 0 (by omega)).1, (o3 0 (by omega)).1]
    have hkept := XI_kept hx2 h6 hru2 a11 o25 (by rw [hy5]; rfl) (fun k hk => by
      rw [hy5]
      show (if 0 = 0 ∧ k = 4 then _ else y4.1 0 k) = _
      rw [if_neg (fun z => hk z.2), i4]) (by rw [hy5]; rfl) (by rw [(o5 196 (by decide)).2.2.2.2.2, (off0 196 (by omega)).2.2.2.2.2, hy3, sAR_at])
    refine Or.inr ⟨cl, e1, y5, cI_of ?_, hkept, Off_trans oM (Off_mono o25 (fun o q => by omega))⟩
    have hk := kv_Rule (L := L) (xs := xs) (d + 58) (HP sh y3)
    rw [HP_len] at hk
    rw [b0, if_pos (show ¬ rr = 0 by rw [e2]; decide), WM_rules hW, some_bind', WM_ruleCount hW, some_bind', h04, hbl h05, some_bind', hw, some_bind', HP_len]
    show ((cV (ZZ L xs) (d + 59) mX4_init [.ref sh.length] (HP sh y3 ++ [dRu])).bind _) = _
    rw [hk, some_bind', hap, WMw_blankRule hW', some_bind', WM_ruleCount hW', some_bind', show (sR y4 0 5 (.ref sh.length)).1 0 4 = nI W.2.2.2.1 from (i4 4).trans h04, nI_1, WMw_ruleCount hW', some_bind', ← hy5, WM_ruleCount hW', some_bind', show y5.1 0 4 = nI (W.2.2.2.1 + 1) by rw [hy5]; rfl, nI_pred]
end RX7
