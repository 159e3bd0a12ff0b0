/-! rests -/
theorem nI_sub_lt {a b c : Nat} (ha : a < 2 ^ 30) (hb : b < 2 ^ 30) (hc : c < 2 ^ 30) : nI a - nI c < nI b - nI c ↔ nI a < nI b := by
  rw [Int32.lt_iff_toInt_lt, Int32.lt_iff_toInt_lt, nI_subI ha hc, nI_subI hb hc, nI_toInt (by omega), nI_toInt (by omega)]
  omega
section RESTS
variable {L : Nat} {xs : Nat → Int32} {W : WD}
theorem QT_off {sh : List Sh} {b : Nat} {R : Option ((Nat → Int32) → Int64)} {wr : Int32} {z z' : ST} {s : SV} {D : Nat → Prop} (h : QT L xs sh W b R wr z s) (ho : Off D z z') (hD : ∀ o, D o → 205 ≤ o ∧ o < 259 ∧ o ≠ 214 ∧ ¬ (b ≤ o ∧ o < b + 8)) : QT L xs sh W b R wr z' s := by
  obtain ⟨h1, h2, t, t1, t2, t3, t4⟩ := h
  have e : gCk z' 183 = gCk z 183 := gCk_off ho (fun o q1 q2 q => by have := hD o q; omega)
  refine ⟨XI_q (Off_mono ho (fun o q => by have := hD o q; unfold Dq; omega)) (by rw [e]; exact h1.2.2.1) h1, SQ_trans (gSt_off ho (fun o q1 q2 q => by have := hD o q; omega)) h2, t, t1, t2, ?_, Wnd_off ho (fun q => by have := hD _ q; omega) (fun o q1 q2 q => by have := hD o q; omega) (fun o q1 q => by have := hD o q; omega) t4⟩
  rw [gTo_off ho (t := t) (fun o q1 q2 q => by have := hD o q; omega)]
  exact t3
/-- two persons moved, and n hours -/
def resS (W : WD) (p q n i j : Nat) : SV := woR W n (stR (stR W.2.1.2.1 0 (upd (W.2.1.2.1.2.2 0) p (nI i))) 0 (upd ((stR W.2.1.2.1 0 (upd (W.2.1.2.1.2.2 0) p (nI i))).2.2 0) q (nI j)))
def resB (W : WD) (p q n i j : Nat) : Nat → Nat → Int32
  | 0, _ => 1
  | f + 1, k => if (resS W p q n i j).2.2 3 p < (resS W p q n k j).2.2 3 p then 0 else if (resS W p q n i k).2.2 3 q ≤ (resS W p q n i j).2.2 3 q then resB W p q n i j f (k + 1) else 0
def resG (W : WD) (p q n i j : Nat) (a : Int32 × Int32 × Int32) : Int32 × Int32 × Int32 := if resB W p q n i j W.2.1.1.2.1 0 = 0 then a else (a.1 + 1, if a.1 = 0 then nI i else a.2.1, if a.1 = 0 then nI j else a.2.2)
def resO (W : WD) (p q n i : Nat) (a : Int32 × Int32 × Int32) : Int32 × Int32 × Int32 := lp (resG W p q n i) W.2.1.1.2.1 0 a
def resA (c : Int32) (a : Int32 × Int32 × Int32) : Int32 := if c = 0 then a.1 else if c = 1 then a.2.1 else a.2.2
theorem resS_b (hv : VW W) {p q n : Nat} (hn : n ≤ 60) (i j : Nat) {r : Nat} (hr : r < 6) : ∃ k : Nat, k ≤ 6000 ∧ (resS W p q n i j).2.2 3 r = nI k := (VB_wo hv (s := stR (stR W.2.1.2.1 0 (upd (W.2.1.2.1.2.2 0) p (nI i))) 0 (upd ((stR W.2.1.2.1 0 (upd (W.2.1.2.1.2.2 0) p (nI i))).2.2 0) q (nI j))) (VB_cong (VB_now hv) rfl rfl) hn).2.1 r hr
theorem res_le (hv : VW W) {r : Nat} (hr : r < 6) {a b : Int32} (ha : ∃ k : Nat, k ≤ 6000 ∧ a = nI k) (hb : ∃ k : Nat, k ≤ 6000 ∧ b = nI k) : a - W.2.1.2.1.2.2 3 r ≤ b - W.2.1.2.1.2.2 3 r ↔ a ≤ b := by
  obtain ⟨i, i1, rfl⟩ := ha
  obtain ⟨j, j1, rfl⟩ := hb
  obtain ⟨k, k1, k2⟩ := (VB_now hv).2.1 r hr
  rw [k2]
  exact nI_sub_le (by omega) (by omega) (by omega)
theorem res_lt (hv : VW W) {r : Nat} (hr : r < 6) {a b : Int32} (ha : ∃ k : Nat, k ≤ 6000 ∧ a = nI k) (hb : ∃ k : Nat, k ≤ 6000 ∧ b = nI k) : a - W.2.1.2.1.2.2 3 r < b - W.2.1.2.1.2.2 3 r ↔ a < b := by
  obtain ⟨i, i1, rfl⟩ := ha
  obtain ⟨j, j1, rfl⟩ := hb
  obtain ⟨k, k1, k2⟩ := (VB_now hv).2.1 r hr
  rw [k2]
  exact nI_sub_lt (by omega) (by omega) (by omega)
/-- the gains laid, up to number e -/
def ResX (W : WD) (p q n e : Nat) (z : ST) : Prop := ∀ i j, j < W.2.1.1.2.1 → i * 8 + j < e → z.2.2.2.1 215 (i * 8 + j) = (resS W p q n i j).2.2 3 p - W.2.1.2.1.2.2 3 p ∧ z.2.2.2.1 216 (i * 8 + j) = (resS W p q n i j).2.2 3 q - W.2.1.2.1.2.2 3 q
def ResM (W : WD) (p q n e : Nat) (m : MM) : Prop := ∀ i j, j < W.2.1.1.2.1 → i * 8 + j < e → m.2.1 41 (i * 8 + j) = (resS W p q n i j).2.2 3 p ∧ m.2.1 42 (i * 8 + j) = (resS W p q n i j).2.2 3 q
def Dr (o : Nat) : Prop := Dt 206 o ∨ o = 215 ∨ o = 216
theorem v_gains {sh : List Sh} {z : ST} {s : SV} (d : Nat) (hv : VW W) {p q n : Nat} (hp : p < W.2.1.1.2.2.1) (hq : q < W.2.1.1.2.2.1) (hn : n < 2 ^ 31) (h : QT L xs sh W 206 (RF W W.2.1.2.2.2.1.1) (W.2.1.1.1.1 5) z s) : ∃ (z' : ST) (s' : SV), cV (ZZ L xs) (d + 7) mX2_fillGains [.ref 205, .int (nI p), .int (nI q), .int (nI n)] (HP sh z) = some (HP sh z') ∧ Off Dr z z' ∧ QT L xs sh W 206 (RF W W.2.1.2.2.2.1.1) (W.2.1.1.1.1 5) z' s' ∧ ResX W p q n (W.2.1.1.2.1 * 8) z' := by
  have h6 : W.2.1.1.2.2.1 ≤ 6 := hv.2.1.1.1.1.2.1
  have h8 : W.2.1.1.2.1 ≤ 8 := hv.2.1.1.1.2.2.2.2.1.1
  have hb : trq 206 := Or.inl rfl
  have hx := h.1
  have hS : isSc sh 3 := hx.1.1.2.2.1
  have hW : isWM sh 0 := hx.1.1.1
  have hC : isCk sh 183 := hx.1.1.2.2.2
  have hO : isOl sh 205 := hx.1.2.2.1
  have hB : isSt sh 206 := hO.2.1
  have hN : isSt sh 10 := hS.2.2.2.2.1
  have inner : ∀ (f i j : Nat), f + j = W.2.1.1.2.1 → i < W.2.1.1.2.1 → ∀ (z : ST) (s : SV) (u6 : Option Value), QT L xs sh W 206 (RF W W.2.1.2.2.2.1.1) (W.2.1.1.1.1 5) z s → ResX W p q n (i * 8 + j) z → ∃ (z' : ST) (s' : SV) (u5 : Option Value), RS (ZZ L xs) (d + 7) mX2_fillGains 21 [some (.ref 205), some (.int (nI p)), some (.int (nI q)), some (.int (nI n)), some (.int (nI i)), some (.int (nI j)), u6] [] (HP sh z) = RS (ZZ L xs) (d + 7) mX2_fillGains 3 [some (.ref 205), some (.int (nI p)), some (.int (nI q)), some (.int (nI n)), some (.int (nI (i + 1))), u5, none] [] (HP sh z') ∧ Off Dr z z' ∧ QT L xs sh W 206 (RF W W.2.1.2.2.2.1.1) (W.2.1.1.1.1 5) z' s' ∧ ResX W p q n ((i + 1) * 8) z' := by
    intro f
    induction f with
    | zero =>
      intro i j hj hi z s u6 h hr
      obtain ⟨t0, t1, t2, -⟩ := Q_places h.1 hv
      refine ⟨z, s, some (.int (nI j)), ?_, Off_refl _ _, h, fun i' j' h1 h2 => hr i' j' h1 (by omega)⟩
      rw [bX2_fillGains_21, Ol_now hO, some_bind', t1, some_bind', t2, some_bind', if_pos (nI_le (by omega) (by omega)), nI_1]
    | succ f ih =>
      intro i j hj hi z s u6 h hr
      obtain ⟨t0, t1, t2, -⟩ := Q_places h.1 hv
      obtain ⟨v, v1, v2, v3⟩ := Q_now (L := L) (xs := xs) (d + 5) hb h
      obtain ⟨o1, o2⟩ := Q_set hb v3 (j := 0) (by decide) p (nI i)
      obtain ⟨o3, o4⟩ := Q_set hb o2 (j := 0) (by decide) q (nI j)
      obtain ⟨w, w1, w2, w3⟩ := Q_run (L := L) (xs := xs) (d + 1) hv hb o4 n hn
      have w3 : QT L xs sh W 206 (RF W W.2.1.2.2.2.1.1) (W.2.1.1.1.1 5) w (resS W p q n i j) := w3
      have e1 : ∀ r, r < 6 → w.2.2.2.1 210 r = (resS W p q n i j).2.2 3 r := fun r hr => Q_row w3 (j := 3) (by decide) (show r < 6 from hr)
      have e2 : ∀ r, r < 6 → w.2.2.2.1 14 r = W.2.1.2.1.2.2 3 r := fun r hr => Xst w3.1 (j := 3) (by decide) (show r < 6 from hr)
      have off1 : Off (Dt 206) z w := Off_trans (Off_trans (Off_trans (Off_mono v2 (fun o q => Or.inl q)) (Off_mono o1 (fun o q => Or.inl q))) (Off_mono o3 (fun o q => Or.inl q))) w2
      generalize hg1 : (resS W p q n i j).2.2 3 p - W.2.1.2.1.2.2 3 p = g1
      generalize hg2 : (resS W p q n i j).2.2 3 q - W.2.1.2.1.2.2 3 q = g2
      have offa : Off (fun o => o = 215 ∨ o = 216) w (sA w 215 (upd (w.2.2.2.1 215) (i * 8 + j) g1)) := Off_sA (Off_refl _ _) (Or.inl rfl) _
      have e3 : ∀ r, r < 6 → (sA w 215 (upd (w.2.2.2.1 215) (i * 8 + j) g1)).2.2.2.1 210 r = (resS W p q n i j).2.2 3 r := fun r hr => (congrFun (sA_ne w _ (by decide)) r).trans (e1 r hr)
      have e4 : ∀ r, r < 6 → (sA w 215 (upd (w.2.2.2.1 215) (i * 8 + j) g1)).2.2.2.1 14 r = W.2.1.2.1.2.2 3 r := fun r hr => (congrFun (sA_ne w _ (by decide)) r).trans (e2 r hr)
      have e5 : (sA w 215 (upd (w.2.2.2.1 215) (i * 8 + j) g1)).2.2.2.1 215 = upd (w.2.2.2.1 215) (i * 8 + j) g1 := sA_at _ _ _
      have e6 : (sA w 215 (upd (w.2.2.2.1 215) (i * 8 + j) g1)).2.2.2.1 216 = w.2.2.2.1 216 := sA_ne w _ (by decide)
      generalize ha : sA w 215 (upd (w.2.2.2.1 215) (i * 8 + j) g1) = a at *
      have offb : Off (fun o => o = 215 ∨ o = 216) w (sA a 216 (upd (a.2.2.2.1 216) (i * 8 + j) g2)) := Off_sA offa (Or.inr rfl) _
      have e7 : (sA a 216 (upd (a.2.2.2.1 216) (i * 8 + j) g2)).2.2.2.1 215 = upd (w.2.2.2.1 215) (i * 8 + j) g1 := (sA_ne a _ (by decide)).trans e5
      have e8 : (sA a 216 (upd (a.2.2.2.1 216) (i * 8 + j) g2)).2.2.2.1 216 = upd (w.2.2.2.1 216) (i * 8 + j) g2 := by rw [sA_at, e6]
      generalize hc : sA a 216 (upd (a.2.2.2.1 216) (i * 8 + j) g2) = c at *
      have hqc := QT_off w3 offb (fun o q => by omega)
      have hr2 : ResX W p q n (i * 8 + (j + 1)) c := fun i' j' q1 q2 => by
        rw [e7, e8]
        by_cases hk : i' * 8 + j' = i * 8 + j
        · have : i' = i := by omega
          subst this
          have : j' = j := by omega
          subst this
          rw [upd_at, upd_at]
          exact ⟨hg1.symm, hg2.symm⟩
        · rw [upd_ne _ _ hk, upd_ne _ _ hk]
          have h15 : w.2.2.2.1 215 = z.2.2.2.1 215 := (off1 _ (fun q => by unfold Dt at q; omega)).2.2.2.1
          have h16 : w.2.2.2.1 216 = z.2.2.2.1 216 := (off1 _ (fun q => by unfold Dt at q; omega)).2.2.2.1
          rw [h15, h16]
          exact hr i' j' q1 (by omega)
      obtain ⟨z', s', u5, p1, p2, p3, p4⟩ := ih i (j + 1) (by omega) hi c _ (some (.int (nI (i * 8 + j)))) hqc hr2
      refine ⟨z', s', u5, ?_, Off_trans (Off_trans (Off_mono off1 (fun o q => Or.inl q)) (Off_mono offb (fun o q => Or.inr q))) p2, p3, p4⟩
      rw [bX2_fillGains_21, Ol_now hO, some_bind', t1, some_bind', t2, some_bind', if_neg (nI_ge (by omega) (by omega)), nI_m8, nI_add, nI_1]
      simp (disch := omega) only [Ol_now hO, Ol_clock hO, Ol_trial hO, Ol_turns hO, Ol_gainOfOne hO, Ol_gainOfOther hO, Ol_one hO, Ol_other hO, Ol_turnCount hO, Ol_firstMove hO, Ol_x hO, Olw_one hO, Olw_other hO, Olw_turnCount hO, Olw_firstMove hO, Olw_x hO, Ol_is hO, Ole_gainOfOne hO, Ole_gainOfOther hO, Olu_gainOfOne hO, Olu_gainOfOther hO, Sc_state hS, Sc_past hS, Sc_force hS, Sc_x hS, Sc_notes hS, Sc_noteHour hS, Sc_noteStranger hS, Sc_notePerson hS, Scw_town hS, Scw_force hS, Scw_x hS, Scw_notes hS, Sc_is hS, Sce_noteHour hS, Sce_noteStranger hS, Sce_notePerson hS, Scu_noteHour hS, Scu_noteStranger hS, Scu_notePerson hS, WM_tape hW, WM_townReader hW, WM_ruleReader hW, WM_rules hW, WM_ruleCount hW, WM_now hW, WM_images hW, WM_clock hW, WM_outlook hW, WM_history hW, WMw_ruleCount hW, WMw_blankRule hW, WM_is hW, St_hour hB, St_chain hB, St_come hB, St_open hB, St_place hB, St_kind hB, St_asked hB, St_total hB, St_chains hB, St_at hB, St_before hB, Stw_hour hB, Stw_chain hB, Stw_come hB, Stw_open hB, St_is hB, Ste_place hB, Ste_kind hB, Ste_asked hB, Ste_total hB, Ste_chains hB, Ste_at hB, Ste_before hB, Stu_place hB, Stu_kind hB, Stu_asked hB, Stu_total hB, Stu_chains hB, Stu_at hB, Stu_before hB, St_hour hN, St_chain hN, St_come hN, St_open hN, St_place hN, St_kind hN, St_asked hN, St_total hN, St_chains hN, St_at hN, St_before hN, Stw_hour hN, Stw_chain hN, Stw_come hN, Stw_open hN, St_is hN, Ste_place hN, Ste_kind hN, Ste_asked hN, Ste_total hN, Ste_chains hN, Ste_at hN, Ste_before hN, Stu_place hN, Stu_kind hN, Stu_asked hN, Stu_total hN, Stu_chains hN, Stu_at hN, Stu_before hN, Ck_is hC, some_bind', v1]
      rw [show (206 + 1 : Nat) = 206 + 1 + 0 from rfl] at *
      rw [w1, some_bind']
      simp (disch := omega) only [Ol_now hO, Ol_clock hO, Ol_trial hO, Ol_turns hO, Ol_gainOfOne hO, Ol_gainOfOther hO, Ol_one hO, Ol_other hO, Ol_turnCount hO, Ol_firstMove hO, Ol_x hO, Olw_one hO, Olw_other hO, Olw_turnCount hO, Olw_firstMove hO, Olw_x hO, Ol_is hO, Ole_gainOfOne hO, Ole_gainOfOther hO, Olu_gainOfOne hO, Olu_gainOfOther hO, Sc_state hS, Sc_past hS, Sc_force hS, Sc_x hS, Sc_notes hS, Sc_noteHour hS, Sc_noteStranger hS, Sc_notePerson hS, Scw_town hS, Scw_force hS, Scw_x hS, Scw_notes hS, Sc_is hS, Sce_noteHour hS, Sce_noteStranger hS, Sce_notePerson hS, Scu_noteHour hS, Scu_noteStranger hS, Scu_notePerson hS, WM_tape hW, WM_townReader hW, WM_ruleReader hW, WM_rules hW, WM_ruleCount hW, WM_now hW, WM_images hW, WM_clock hW, WM_outlook hW, WM_history hW, WMw_ruleCount hW, WMw_blankRule hW, WM_is hW, St_hour hB, St_chain hB, St_come hB, St_open hB, St_place hB, St_kind hB, St_asked hB, St_total hB, St_chains hB, St_at hB, St_before hB, Stw_hour hB, Stw_chain hB, Stw_come hB, Stw_open hB, St_is hB, Ste_place hB, Ste_kind hB, Ste_asked hB, Ste_total hB, Ste_chains hB, Ste_at hB, Ste_before hB, Stu_place hB, Stu_kind hB, Stu_asked hB, Stu_total hB, Stu_chains hB, Stu_at hB, Stu_before hB, St_hour hN, St_chain hN, St_come hN, St_open hN, St_place hN, St_kind hN, St_asked hN, St_total hN, St_chains hN, St_at hN, St_before hN, Stw_hour hN, Stw_chain hN, Stw_come hN, Stw_open hN, St_is hN, Ste_place hN, Ste_kind hN, Ste_asked hN, Ste_total hN, Ste_chains hN, Ste_at hN, Ste_before hN, Stu_place hN, Stu_kind hN, Stu_asked hN, Stu_total hN, Stu_chains hN, Stu_at hN, Stu_before hN, Ck_is hC, some_bind', e1 p (by omega), e2 p (by omega), hg1, ha, e3 q (by omega), e4 q (by omega), hg2, hc]
      exact p1
  have outer : ∀ (f i : Nat), f + i = W.2.1.1.2.1 → ∀ (z : ST) (s : SV) (u5 u6 : Option Value), QT L xs sh W 206 (RF W W.2.1.2.2.2.1.1) (W.2.1.1.1.1 5) z s → ResX W p q n (i * 8) z → ∃ (z' : ST) (s' : SV), RS (ZZ L xs) (d + 7) mX2_fillGains 3 [some (.ref 205), some (.int (nI p)), some (.int (nI q)), some (.int (nI n)), some (.int (nI i)), u5, u6] [] (HP sh z) = some (HP sh z', none) ∧ Off Dr z z' ∧ QT L xs sh W 206 (RF W W.2.1.2.2.2.1.1) (W.2.1.1.1.1 5) z' s' ∧ ResX W p q n (W.2.1.1.2.1 * 8) z' := by
    intro f
    induction f with
    | zero =>
      intro i hi z s u5 u6 h hr
      obtain ⟨t0, t1, t2, -⟩ := Q_places h.1 hv
      refine ⟨z, s, ?_, Off_refl _ _, h, by rw [show W.2.1.1.2.1 = i by omega]; exact hr⟩
      rw [bX2_fillGains_3, Ol_now hO, some_bind', t1, some_bind', t2, some_bind', if_pos (nI_le (by omega) (by omega))]
    | succ f ih =>
      intro i hi z s u5 u6 h hr
      obtain ⟨t0, t1, t2, -⟩ := Q_places h.1 hv
      obtain ⟨z', s', v5, p1, p2, p3, p4⟩ := inner W.2.1.1.2.1 i 0 (by omega) (by omega) z s none h hr
      obtain ⟨z2, s2, q1, q2, q3, q4⟩ := ih (i + 1) (by omega) z' s' v5 none p3 p4
      refine ⟨z2, s2, ?_, Off_trans p2 q2, q3, q4⟩
      rw [bX2_fillGains_3, Ol_now hO, some_bind', t1, some_bind', t2, some_bind', if_neg (nI_ge (by omega) (by omega))]
      exact p1.trans q1
  obtain ⟨z', s', p1, p2, p3, p4⟩ := outer W.2.1.1.2.1 0 (by omega) z s none none h (fun i j _ h2 => absurd h2 (by omega))
  refine ⟨z', s', cV_of ?_, p2, p3, p4⟩
  · show RS (ZZ L xs) (d + 7) mX2_fillGains 0 [some (.ref 205), some (.int (nI p)), some (.int (nI q)), some (.int (nI n)), none, none, none] [] _ = _
    rw [bX2_fillGains_0]
    exact p1
theorem v_gainsM {sh : List Sh} {x : ST} {m : MM} (d : Nat) [NeZero d] (hM : isMo sh) (hv : VW W) (hi : MI L xs m W) {p q n : Nat} (hp : p < W.2.1.1.2.2.1) (hq : q < W.2.1.1.2.2.1) (hn : n < 2 ^ 31) : ∃ m', cV (ZZ L xs) (d + 9) mX13_laysPlaces [.ref 259, .int (nI p), .int (nI q), .int (nI n)] (HP sh (pM x m)) = some (HP sh (pM x m')) ∧ MJ m m' ∧ ResM W p q n (W.2.1.1.2.1 * 8) m' := by
  have h6 : W.2.1.1.2.2.1 ≤ 6 := hv.2.1.1.1.1.2.1
  have h8 : W.2.1.1.2.1 ≤ 8 := hv.2.1.1.1.2.2.2.2.1.1
  have hVT := hv.2.1.1.1.2.2.2.1 (pl_of_np hv hp)
  obtain ⟨m1, k1, k2, k3⟩ := Q_keep (L := L) (xs := xs) (x := x) (d + 5) hM hv hi
  have inner : ∀ (f i j : Nat), f + j = W.2.1.1.2.1 → i < W.2.1.1.2.1 → ∀ (m1 : MM), MJ m m1 → QM L xs sh x W m (RF W W.2.1.2.2.2.1.1) (W.2.1.1.1.1 5) m1 W.2.1.2.1 → ResM W p q n (i * 8 + j) m1 → ∃ (m2 : MM) (u5 : Option Value), RS (ZZ L xs) (d + 9) mX13_laysPlaces 21 [some (.ref 259), some (.int (nI p)), some (.int (nI q)), some (.int (nI n)), some (.int (nI i)), some (.int (nI j))] [] (HP sh (pM x m1)) = RS (ZZ L xs) (d + 9) mX13_laysPlaces 7 [some (.ref 259), some (.int (nI p)), some (.int (nI q)), some (.int (nI n)), some (.int (nI (i + 1))), u5] [] (HP sh (pM x m2)) ∧ MJ m m2 ∧ QM L xs sh x W m (RF W W.2.1.2.2.2.1.1) (W.2.1.1.1.1 5) m2 W.2.1.2.1 ∧ ResM W p q n ((i + 1) * 8) m2 := by
    intro f
    induction f with
    | zero =>
      intro i j hj hi2 m1 hJ h hr
      refine ⟨m1, some (.int (nI j)), ?_, hJ, h, fun i' j' h1 h2 => hr i' j' h1 (by omega)⟩
      rw [bX13_laysPlaces_21, M_scalar hM, some_bind', eI_l0, Me_scalar hM (by decide), some_bind', h.2.1.1, if_pos (nI_le (by omega) (by omega)), nI_1]
    | succ f ih =>
      intro i j hj hi2 m1 hJ h hr
      have h1 := QM_at h (q := p) (p := i) (by omega)
      have h2 := QM_at h1 (q := q) (p := j) (by omega)
      obtain ⟨g, g1, g2, g3⟩ := Q_goFor (L := L) (xs := xs) (x := x) d hM hVT h2 n hn
      have g3 : QM L xs sh x W m (RF W W.2.1.2.2.2.1.1) (W.2.1.1.1.1 5) g (resS W p q n i j) := g3
      have e1 : g.2.1 4 p = (resS W p q n i j).2.2 3 p := Md_all g3.2.2.2.1 hp
      have e2 : g.2.1 4 q = (resS W p q n i j).2.2 3 q := Md_all g3.2.2.2.1 hq
      generalize hg1 : (resS W p q n i j).2.2 3 p = g1v at *
      generalize hg2 : (resS W p q n i j).2.2 3 q = g2v at *
      have e3 : (mA g 41 (i * 8 + j) g1v).2.1 4 q = g2v := (congrFun (mA_ne g _ _ (by decide)) q).trans e2
      have hK : KJ m (mA (mA g 41 (i * 8 + j) g1v) 42 (i * 8 + j) g2v) := KJ_A (KJ_A g3.1 (Or.inr ⟨rfl, by decide⟩) _ _) (Or.inr ⟨rfl, by decide⟩) _ _
      obtain ⟨l, l1, l2, l3, l4⟩ := Q_lay (L := L) (xs := xs) (x := x) (d + 5) hM hv hi hK
      have hr2 : ResM W p q n (i * 8 + (j + 1)) l := fun i' j' q1 q2 => by
        rw [l4 41 (by decide), l4 42 (by decide), mA_eq, mA_ne _ _ _ (show (41 : Nat) ≠ 42 by decide), mA_eq, mA_ne _ _ _ (show (42 : Nat) ≠ 41 by decide)]
        by_cases hk : i' * 8 + j' = i * 8 + j
        · have : i' = i := by omega
          subst this
          have : j' = j := by omega
          subst this
          rw [upd_at, upd_at]
          exact ⟨hg1.symm, hg2.symm⟩
        · rw [upd_ne _ _ hk, upd_ne _ _ hk]
          have h15 : g.2.1 41 = m1.2.1 41 := (g2.2.1 41 (by decide) (by decide)).trans rfl
          have h16 : g.2.1 42 = m1.2.1 42 := (g2.2.1 42 (by decide) (by decide)).trans rfl
          rw [h15, h16]
          exact hr i' j' q1 (by omega)
      obtain ⟨m2, u5, p1, p2, p3, p4⟩ := ih i (j + 1) (by omega) hi2 l l2 l3 hr2
      refine ⟨m2, u5, ?_, p2, p3, p4⟩
      rw [bX13_laysPlaces_21, M_scalar hM, some_bind', eI_l0, Me_scalar hM (by decide), some_bind', h.2.1.1, if_neg (nI_ge (by omega) (by omega)), nI_8m, nI_add, nI_1, show 8 * i + j = i * 8 + j by omega, M_at hM, some_bind', Mu_at hM (by omega), some_bind', M_at hM, some_bind', Mu_at hM (by omega), some_bind', M_is hM, some_bind', g1, some_bind', M_firstHas hM, some_bind', M_askedAll hM, some_bind', Me_askedAll hM (by omega), some_bind', e1, Mu_firstHas hM (by omega), some_bind', M_secondHas hM, some_bind', M_askedAll hM, some_bind', Me_askedAll hM (by omega), some_bind', e3, Mu_secondHas hM (by omega), some_bind', M_is hM, some_bind', l1, some_bind']
      exact p1
  have outer : ∀ (f i : Nat), f + i = W.2.1.1.2.1 → ∀ (m1 : MM) (u5 : Option Value), MJ m m1 → QM L xs sh x W m (RF W W.2.1.2.2.2.1.1) (W.2.1.1.1.1 5) m1 W.2.1.2.1 → ResM W p q n (i * 8) m1 → ∃ m2, RS (ZZ L xs) (d + 9) mX13_laysPlaces 7 [some (.ref 259), some (.int (nI p)), some (.int (nI q)), some (.int (nI n)), some (.int (nI i)), u5] [] (HP sh (pM x m1)) = some (HP sh (pM x m2), none) ∧ MJ m m2 ∧ ResM W p q n (W.2.1.1.2.1 * 8) m2 := by
    intro f
    induction f with
    | zero =>
      intro i hi2 m1 u5 hJ h hr
      refine ⟨m1, ?_, hJ, by rw [show W.2.1.1.2.1 = i by omega]; exact hr⟩
      rw [bX13_laysPlaces_7, M_scalar hM, some_bind', eI_l0, Me_scalar hM (by decide), some_bind', h.2.1.1, if_pos (nI_le (by omega) (by omega))]
    | succ f ih =>
      intro i hi2 m1 u5 hJ h hr
      obtain ⟨m2, v5, p1, p2, p3, p4⟩ := inner W.2.1.1.2.1 i 0 (by omega) (by omega) m1 hJ h hr
      obtain ⟨m3, q1, q2, q3⟩ := ih (i + 1) (by omega) m2 v5 p2 p3 p4
      refine ⟨m3, ?_, q2, q3⟩
      rw [bX13_laysPlaces_7, M_scalar hM, some_bind', eI_l0, Me_scalar hM (by decide), some_bind', h.2.1.1, if_neg (nI_ge (by omega) (by omega))]
      exact p1.trans q1
  obtain ⟨m2, p1, p2, p3⟩ := outer W.2.1.1.2.1 0 (by omega) m1 none k2 k3 (fun i j _ h2 => absurd h2 (by omega))
  refine ⟨m2, cV_of ?_, p2, p3⟩
  show RS (ZZ L xs) (d + 9) mX13_laysPlaces 0 [some (.ref 259), some (.int (nI p)), some (.int (nI q)), some (.int (nI n)), none, none] [] _ = _
  rw [bX13_laysPlaces_0, M_is hM, some_bind', k1, some_bind']
  exact p1
theorem i_rest {sh : List Sh} {z : ST} {s : SV} (d : Nat) (hv : VW W) {p q n : Nat} (hp : p < W.2.1.1.2.2.1) (hq : q < W.2.1.1.2.2.1) (hn : n ≤ 60) (h : QT L xs sh W 206 (RF W W.2.1.2.2.2.1.1) (W.2.1.1.1.1 5) z s) (hr : ResX W p q n (W.2.1.1.2.1 * 8) z) {i j : Nat} (hi : i < W.2.1.1.2.1) (hj : j < W.2.1.1.2.1) : cI (ZZ L xs) (d + 1) mX2_rest [.ref 205, .int (nI i), .int (nI j)] (HP sh z) = some (HP sh z, resB W p q n i j W.2.1.1.2.1 0) := by
  have h6 : W.2.1.1.2.2.1 ≤ 6 := hv.2.1.1.1.1.2.1
  have h8 : W.2.1.1.2.1 ≤ 8 := hv.2.1.1.1.2.2.2.2.1.1
  have hO : isOl sh 205 := h.1.1.2.2.1
  obtain ⟨t0, t1, t2, -⟩ := Q_places h.1 hv
  have loop : ∀ (f k : Nat), f + k = W.2.1.1.2.1 → RS (ZZ L xs) (d + 1) mX2_rest 10 [some (.ref 205), some (.int (nI i)), some (.int (nI j)), some (.int (nI (i * 8 + j))), some (.int (nI k))] [] (HP sh z) = some (HP sh z, some (.int (resB W p q n i j f k))) := by
    intro f
    induction f with
    | zero =>
      intro k hk
      rw [bX2_rest_10, Ol_now hO, some_bind', t1, some_bind', t2, some_bind', if_pos (nI_le (by omega) (by omega)), if_pos (by decide)]
      rfl
    | succ f ih =>
      intro k hk
      obtain ⟨a1, a2⟩ := hr i j hj (by omega)
      obtain ⟨a3, -⟩ := hr k j hj (by omega)
      obtain ⟨-, a4⟩ := hr i k (by omega) (by omega)
      rw [bX2_rest_10, Ol_now hO, some_bind', t1, some_bind', t2, some_bind', if_neg (nI_ge (by omega) (by omega)), nI_m8, nI_m8, nI_add, nI_add, nI_1]
      simp (disch := omega) only [Ol_now hO, Ol_clock hO, Ol_trial hO, Ol_turns hO, Ol_gainOfOne hO, Ol_gainOfOther hO, Ol_one hO, Ol_other hO, Ol_turnCount hO, Ol_firstMove hO, Ol_x hO, Olw_one hO, Olw_other hO, Olw_turnCount hO, Olw_firstMove hO, Olw_x hO, Ol_is hO, Ole_gainOfOne hO, Ole_gainOfOther hO, Olu_gainOfOne hO, Olu_gainOfOther hO, some_bind', a1, a2, a3, a4]
      have c1 := res_lt hv (r := p) (by omega) (resS_b hv (p := p) (q := q) hn i j (r := p) (by omega)) (resS_b hv (p := p) (q := q) hn k j (r := p) (by omega))
      have c2 := res_le hv (r := q) (by omega) (resS_b hv (p := p) (q := q) hn i k (r := q) (by omega)) (resS_b hv (p := p) (q := q) hn i j (r := q) (by omega))
      unfold resB
      by_cases e1 : (resS W p q n i j).2.2 3 p < (resS W p q n k j).2.2 3 p
      · rw [if_pos (c1.mpr e1), if_pos e1, bX2_rest_67, if_pos (by decide)]
      · rw [if_neg (fun z => e1 (c1.mp z)), if_neg e1]
        by_cases e2 : (resS W p q n i k).2.2 3 q ≤ (resS W p q n i j).2.2 3 q
        · rw [if_pos (c2.mpr e2), if_pos e2]
          exact ih (k + 1) (by omega)
        · rw [if_neg (fun z => e2 (c2.mp z)), if_neg e2, bX2_rest_67, if_pos (by decide)]
  refine cI_of ?_
  show RS (ZZ L xs) (d + 1) mX2_rest 0 [some (.ref 205), some (.int (nI i)), some (.int (nI j)), none, none] [] _ = _
  rw [bX2_rest_0, nI_m8, nI_add]
  exact loop W.2.1.1.2.1 0 (by omega)
theorem i_restM {sh : List Sh} {x : ST} {m : MM} (d : Nat) (hM : isMo sh) (hv : VW W) (hpl : m.2.1 0 0 = nI W.2.1.1.2.1) {p q n : Nat} (hr : ResM W p q n (W.2.1.1.2.1 * 8) m) {i j : Nat} (hi : i < W.2.1.1.2.1) (hj : j < W.2.1.1.2.1) : cI (ZZ L xs) (d + 1) mX13_isRest [.ref 259, .int (nI i), .int (nI j)] (HP sh (pM x m)) = some (HP sh (pM x m), resB W p q n i j W.2.1.1.2.1 0) := by
  have h8 : W.2.1.1.2.1 ≤ 8 := hv.2.1.1.1.2.2.2.2.1.1
  have loop : ∀ (f k : Nat), f + k = W.2.1.1.2.1 → RS (ZZ L xs) (d + 1) mX13_isRest 2 [some (.ref 259), some (.int (nI i)), some (.int (nI j)), some (.int (nI k))] [] (HP sh (pM x m)) = some (HP sh (pM x m), some (.int (resB W p q n i j f k))) := by
    intro f
    induction f with
    | zero =>
      intro k hk
      rw [bX13_isRest_2, M_scalar hM, some_bind', eI_l0, Me_scalar hM (by decide), some_bind', hpl, if_pos (nI_le (by omega) (by omega)), if_pos (by decide)]
      rfl
    | succ f ih =>
      intro k hk
      obtain ⟨a1, a2⟩ := hr i j hj (by omega)
      obtain ⟨a3, -⟩ := hr k j hj (by omega)
      obtain ⟨-, a4⟩ := hr i k (by omega) (by omega)
      rw [bX13_isRest_2, M_scalar hM, some_bind', eI_l0, Me_scalar hM (by decide), some_bind', hpl, if_neg (nI_ge (by omega) (by omega)), nI_8m, nI_8m, nI_add, nI_add, nI_add, nI_1, show 8 * i + j = i * 8 + j by omega, show 8 * k + j = k * 8 + j by omega, show 8 * i + k = i * 8 + k by omega]
      simp (disch := omega) only [M_firstHas hM, Me_firstHas hM, M_secondHas hM, Me_secondHas hM, some_bind', a1, a2, a3, a4]
      unfold resB
      by_cases e1 : (resS W p q n i j).2.2 3 p < (resS W p q n k j).2.2 3 p
      · rw [if_pos e1, if_pos e1, bX13_isRest_62, if_pos (by decide)]
      · rw [if_neg e1, if_neg e1]
        by_cases e2 : (resS W p q n i k).2.2 3 q ≤ (resS W p q n i j).2.2 3 q
        · rw [if_pos e2, if_pos e2]
          exact ih (k + 1) (by omega)
        · rw [if_neg e2, if_neg e2, bX13_isRest_62, if_pos (by decide)]
  refine cI_of ?_
  show RS (ZZ L xs) (d + 1) mX13_isRest 0 [some (.ref 259), some (.int (nI i)), some (.int (nI j)), none] [] _ = _
  rw [bX13_isRest_0]
  exact loop W.2.1.1.2.1 0 (by omega)
theorem one_z {a : Int32} : a + 1 = 1 ↔ a = 0 := by
  constructor
  · intro h
    have : a + 1 - 1 = 1 - 1 := by rw [h]
    rwa [Int32.add_sub_cancel] at this
  · intro h
    rw [h]
    rfl
theorem Sp_rests (hv : VW W) (a b c e : Int32) : Step L xs W mX12_rests mX13_rests [.int a, .int b, .int c, .int e] := by
  have h5 : W.2.1.1.2.2.2 ≤ 5 := hv.2.1.1.1.1.2.2.2
  have h6 : W.2.1.1.2.2.1 ≤ 6 := hv.2.1.1.1.1.2.1
  have h8 : W.2.1.1.2.1 ≤ 8 := hv.2.1.1.1.2.2.2.2.1.1
  have hb : trq 206 := Or.inl rfl
  have X0 : ∀ (sh : List Sh) (y : ST) (d : Nat), XI L xs sh y W → RS (ZZ L xs) (d + 60) mX12_rests 0 [some (.ref 0), some (.int a), some (.int b), some (.int c), some (.int e), none] [] (HP sh y) = RS (ZZ L xs) (d + 60) mX12_rests 26 [some (.ref 0), some (.int a), some (.int b), some (.int c), some (.int e), none] [.int (if iN W.2.1.1.2.2.1 a = true ∧ iN W.2.1.1.2.2.1 b = true ∧ ¬ a = b then 1 else 0)] (HP sh y) := fun sh y d hx => by
    rw [bX12_rests_0, WM_is hx.1.1.1, some_bind', i_isPerson _ hx hv, some_bind']
    by_cases g1 : iN W.2.1.1.2.2.1 a = true
    · rw [if_neg (z1 g1), WM_is hx.1.1.1, some_bind', i_isPerson _ hx hv, some_bind']
      by_cases g2 : iN W.2.1.1.2.2.1 b = true
      · rw [if_neg (z1 g2)]
        by_cases g3 : a = b
        · rw [if_pos g3, bX12_rests_25, if_neg (fun z => z.2.2 g3)]
        · rw [if_neg g3, if_pos ⟨g1, g2, g3⟩]
      · rw [if_pos (z0 g2), bX12_rests_25, if_neg (fun z => g2 z.2.1)]
    · rw [if_pos (z0 g1), bX12_rests_25, if_neg (fun z => g1 z.1)]
  by_cases g0 : iN W.2.1.1.2.2.1 a = true ∧ iN W.2.1.1.2.2.1 b = true ∧ ¬ a = b
  rotate_left
  · refine ⟨W, -1, Xsame fun sh y d hx => ?_, Msame hv fun sh x m d hM hi => ?_⟩
    · show RS (ZZ L xs) (d + 60) mX12_rests 0 [some (.ref 0), some (.int a), some (.int b), some (.int c), some (.int e), none] [] _ = _
      rw [X0 sh y d hx, if_neg g0, bX12_rests_26, if_pos rfl, bX12_rests_53]
    · show RS (ZZ L xs) (d + 60) mX13_rests 0 [some (.ref 259), some (.int a), some (.int b), some (.int c), some (.int e), none, none, none, none, none] [] _ = _
      rw [bX13_rests_0, M_is hM, some_bind', i_personM _ hM hi hv, some_bind']
      by_cases g1 : iN W.2.1.1.2.2.1 a = true
      · rw [if_neg (z1 g1), M_is hM, some_bind', i_personM _ hM hi hv, some_bind']
        by_cases g2 : iN W.2.1.1.2.2.1 b = true
        · rw [if_neg (z1 g2)]
          by_cases g3 : a = b
          · rw [if_pos g3, bX13_rests_46]
          · exact absurd ⟨g1, g2, g3⟩ g0
        · rw [if_pos (z0 g2), bX13_rests_46]
      · rw [if_pos (z0 g1), bX13_rests_46]
  have M0 : ∀ (sh : List Sh) (x : ST) (m : MM) (d : Nat), isMo sh → MI L xs m W → RS (ZZ L xs) (d + 60) mX13_rests 0 [some (.ref 259), some (.int a), some (.int b), some (.int c), some (.int e), none, none, none, none, none] [] (HP sh (pM x m)) = if z01 (wiB 1 20 c) = 0 then some (HP sh (pM x m), some (.int (-1))) else if ¬ z01 (wiB 0 2 e) = 0 then (cV (ZZ L xs) (d + 59) mX13_laysPlaces [.ref 259, .int a, .int b, .int c] (HP sh (pM x m))).bind fun p52 => RS (ZZ L xs) (d + 60) mX13_rests 69 [some (.ref 259), some (.int a), some (.int b), some (.int c), some (.int e), some (.int 0), some (.int (-2)), some (.int (-2)), some (.int 0), none] [] p52 else some (HP sh (pM x m), some (.int (-1))) := fun sh x m d hM hi => by
    rw [bX13_rests_0, M_is hM, some_bind', i_personM _ hM hi hv, some_bind', if_neg (z1 g0.1), M_is hM, some_bind', i_personM _ hM hi hv, some_bind', if_neg (z1 g0.2.1), if_neg g0.2.2, i_inM _ (show (1 : Int64) = (1 : Int32).toInt64 from rfl) (show (20 : Int64) = (20 : Int32).toInt64 from rfl), some_bind', i_inM _ (show (0 : Int64) = (0 : Int32).toInt64 from rfl) (show (2 : Int64) = (2 : Int32).toInt64 from rfl), some_bind', M_is hM, some_bind', bX13_rests_46]
  by_cases g4 : wiB 1 20 c = true
  rotate_left
  · refine ⟨W, -1, Xsame fun sh y d hx => ?_, Msame hv fun sh x m d hM hi => ?_⟩
    · show RS (ZZ L xs) (d + 60) mX12_rests 0 [some (.ref 0), some (.int a), some (.int b), some (.int c), some (.int e), none] [] _ = _
      rw [X0 sh y d hx, if_pos g0, bX12_rests_26, if_neg (by decide), i_within, some_bind', if_pos (z0 g4), bX12_rests_53]
    · show RS (ZZ L xs) (d + 60) mX13_rests 0 [some (.ref 259), some (.int a), some (.int b), some (.int c), some (.int e), none, none, none, none, none] [] _ = _
      rw [M0 sh x m d hM hi, if_pos (z0 g4)]
  by_cases g5 : wiB 0 2 e = true
  rotate_left
  · refine ⟨W, -1, Xsame fun sh y d hx => ?_, Msame hv fun sh x m d hM hi => ?_⟩
    · show RS (ZZ L xs) (d + 60) mX12_rests 0 [some (.ref 0), some (.int a), some (.int b), some (.int c), some (.int e), none] [] _ = _
      rw [X0 sh y d hx, if_pos g0, bX12_rests_26, if_neg (by decide), i_within, some_bind', if_neg (z1 g4), i_within, some_bind', if_neg (fun z => z (z0 g5)), bX12_rests_53]
    · show RS (ZZ L xs) (d + 60) mX13_rests 0 [some (.ref 259), some (.int a), some (.int b), some (.int c), some (.int e), none, none, none, none, none] [] _ = _
      rw [M0 sh x m d hM hi, if_neg (z1 g4), if_neg (fun z => z (z0 g5))]
  obtain ⟨p, hp, rfl⟩ := iN_ex (by omega) g0.1
  obtain ⟨q, hq, rfl⟩ := iN_ex (by omega) g0.2.1
  obtain ⟨n, ln, hn, rfl⟩ := wiB_ex (lo := 1) (hi := 20) rfl rfl (by decide) (by decide) g4
  refine ⟨W, resA e (lp (resO W p q n) W.2.1.1.2.1 0 (0, -2, -2)), Xask fun sh y d hx => ?_, Mask hv fun sh x m d hM hi => ?_⟩
  · have hW : isWM sh 0 := hx.1.1.1
    have hO : isOl sh 205 := hx.1.2.2.1
    obtain ⟨u, u1, u2, u3⟩ := Q_wind (L := L) (xs := xs) (d + 57) hv hx 206
    obtain ⟨z, s, v1, v2, v3, v4⟩ := v_gains (L := L) (xs := xs) (d + 51) hv hp hq (show n < 2 ^ 31 by omega) u3
    obtain ⟨t0, t1, t2, -⟩ := Q_places v3.1 hv
    have inner : ∀ (f i j : Nat), f + j = W.2.1.1.2.1 → i < W.2.1.1.2.1 → ∀ (r : Int32 × Int32 × Int32) (w1 w2 w3 : Option Value), ∃ (u9 : Option Value), RS (ZZ L xs) (d + 59) mX2_stableTwos 39 [some (.ref 205), w1, w2, w3, some (.int e), some (.int r.1), some (.int r.2.1), some (.int r.2.2), some (.int (nI i)), some (.int (nI j))] [] (HP sh z) = RS (ZZ L xs) (d + 59) mX2_stableTwos 21 [some (.ref 205), none, none, none, some (.int e), some (.int (lp (resG W p q n i) f j r).1), some (.int (lp (resG W p q n i) f j r).2.1), some (.int (lp (resG W p q n i) f j r).2.2), some (.int (nI (i + 1))), u9] [] (HP sh z) := by
      intro f
      induction f with
      | zero =>
        intro i j hj hi r w1 w2 w3
        refine ⟨some (.int (nI j)), ?_⟩
        rw [bX2_stableTwos_39, Ol_now hO, some_bind', t1, some_bind', t2, some_bind', if_pos (nI_le (by omega) (by omega)), nI_1]
        rfl
      | succ f ih =>
        intro i j hj hi r w1 w2 w3
        rw [bX2_stableTwos_39, Ol_now hO, some_bind', t1, some_bind', t2, some_bind', if_neg (nI_ge (by omega) (by omega)), Ol_is hO, some_bind', i_rest _ hv hp hq (show n ≤ 60 by omega) v3 v4 hi (show j < W.2.1.1.2.1 by omega), some_bind']
        by_cases e0 : resB W p q n i j W.2.1.1.2.1 0 = 0
        · obtain ⟨u9, q1⟩ := ih i (j + 1) (by omega) hi r none none none
          refine ⟨u9, ?_⟩
          rw [if_pos e0, bX2_stableTwos_98, nI_1, q1, show lp (resG W p q n i) (f + 1) j r = lp (resG W p q n i) f (j + 1) r from congrArg (lp (resG W p q n i) f (j + 1)) (if_pos e0)]
        · rw [if_neg e0]
          by_cases e1 : r.1 = 0
          · obtain ⟨u9, q1⟩ := ih i (j + 1) (by omega) hi (r.1 + 1, nI i, nI j) none none none
            refine ⟨u9, ?_⟩
            rw [if_neg (fun z => z (one_z.mpr e1)), bX2_stableTwos_81, if_neg (fun z => z (one_z.mpr e1)), bX2_stableTwos_96, bX2_stableTwos_98, nI_1, q1, show lp (resG W p q n i) (f + 1) j r = lp (resG W p q n i) f (j + 1) (r.1 + 1, nI i, nI j) from congrArg (lp (resG W p q n i) f (j + 1)) (by unfold resG; rw [if_neg e0, if_pos e1, if_pos e1])]
          · obtain ⟨u9, q1⟩ := ih i (j + 1) (by omega) hi (r.1 + 1, r.2.1, r.2.2) none none none
            refine ⟨u9, ?_⟩
            rw [if_pos (fun z => e1 (one_z.mp z)), bX2_stableTwos_81, if_pos (fun z => e1 (one_z.mp z)), bX2_stableTwos_96, bX2_stableTwos_98, nI_1, q1, show lp (resG W p q n i) (f + 1) j r = lp (resG W p q n i) f (j + 1) (r.1 + 1, r.2.1, r.2.2) from congrArg (lp (resG W p q n i) f (j + 1)) (by unfold resG; rw [if_neg e0, if_neg e1, if_neg e1])]
    have outer : ∀ (f i : Nat), f + i = W.2.1.1.2.1 → ∀ (r : Int32 × Int32 × Int32) (w1 w2 w3 w9 : Option Value), RS (ZZ L xs) (d + 59) mX2_stableTwos 21 [some (.ref 205), w1, w2, w3, some (.int e), some (.int r.1), some (.int r.2.1), some (.int r.2.2), some (.int (nI i)), w9] [] (HP sh z) = some (HP sh z, some (.int (resA e (lp (resO W p q n) f i r)))) := by
      intro f
      induction f with
      | zero =>
        intro i hi r w1 w2 w3 w9
        rw [bX2_stableTwos_21, Ol_now hO, some_bind', t1, some_bind', t2, some_bind', if_pos (nI_le (by omega) (by omega))]
        unfold resA
        by_cases c0 : e = 0
        · rw [if_neg (fun z => z c0), if_pos c0]
          rfl
        · rw [if_pos c0, if_neg c0]
          by_cases c1 : e = 1
          · rw [if_neg (fun z => z c1), if_pos c1, bX2_stableTwos_131]
            rfl
          · rw [if_pos c1, if_neg c1, bX2_stableTwos_131]
            rfl
      | succ f ih =>
        intro i hi r w1 w2 w3 w9
        obtain ⟨u9, q1⟩ := inner W.2.1.1.2.1 i 0 (by omega) (by omega) r none none none
        rw [bX2_stableTwos_21, Ol_now hO, some_bind', t1, some_bind', t2, some_bind', if_neg (nI_ge (by omega) (by omega))]
        exact q1.trans (ih (i + 1) (by omega) (lp (resG W p q n i) W.2.1.1.2.1 0 r) none none none u9)
    have hoff : Off Dq y z := Off_trans (Off_mono u2 (fun o q => by unfold Dq; omega)) (Off_mono v2 (fun o q => by unfold Dr Dt at q; unfold Dq; omega))
    have haf : cI (ZZ L xs) (d + 59) mX2_stableTwos [.ref 205, .int (nI p), .int (nI q), .int (nI n), .int e] (HP sh u) = some (HP sh z, resA e (lp (resO W p q n) W.2.1.1.2.1 0 (0, -2, -2))) := by
      refine cI_of ?_
      show RS (ZZ L xs) (d + 59) mX2_stableTwos 0 [some (.ref 205), some (.int (nI p)), some (.int (nI q)), some (.int (nI n)), some (.int e), none, none, none, none, none] [] _ = _
      rw [bX2_stableTwos_0, Ol_is hO, some_bind', v1, some_bind']
      exact outer W.2.1.1.2.1 0 (by omega) (0, -2, -2) _ _ _ none
    refine ⟨z, ?_, v3.1, hoff⟩
    show RS (ZZ L xs) (d + 60) mX12_rests 0 [some (.ref 0), some (.int (nI p)), some (.int (nI q)), some (.int (nI n)), some (.int e), none] [] _ = _
    rw [X0 sh y d hx, if_pos g0, bX12_rests_26, if_neg (by decide), i_within, some_bind', if_neg (z1 g4), i_within, some_bind', if_pos (z1 g5), WM_is hW, some_bind', u1, some_bind', WM_outlook hW, some_bind', Ol_is hO, some_bind', haf, some_bind']
  · obtain ⟨m1, k1, k2, k3⟩ := v_gainsM (L := L) (xs := xs) (x := x) (d + 50) hM hv hi hp hq (show n < 2 ^ 31 by omega)
    have hpl : m1.2.1 0 0 = nI W.2.1.1.2.1 := (k2.2 0 0 (by decide)).trans hi.2.1.1.1.1
    have inner : ∀ (f i j : Nat), f + j = W.2.1.1.2.1 → i < W.2.1.1.2.1 → ∀ (r : Int32 × Int32 × Int32) (w1 w2 w3 : Option Value), ∃ (u9 : Option Value), RS (ZZ L xs) (d + 60) mX13_rests 83 [some (.ref 259), w1, w2, w3, some (.int e), some (.int r.1), some (.int r.2.1), some (.int r.2.2), some (.int (nI i)), some (.int (nI j))] [] (HP sh (pM x m1)) = RS (ZZ L xs) (d + 60) mX13_rests 69 [some (.ref 259), none, none, none, some (.int e), some (.int (lp (resG W p q n i) f j r).1), some (.int (lp (resG W p q n i) f j r).2.1), some (.int (lp (resG W p q n i) f j r).2.2), some (.int (nI (i + 1))), u9] [] (HP sh (pM x m1)) := by
      intro f
      induction f with
      | zero =>
        intro i j hj hi2 r w1 w2 w3
        refine ⟨some (.int (nI j)), ?_⟩
        rw [bX13_rests_83, M_scalar hM, some_bind', eI_l0, Me_scalar hM (by decide), some_bind', hpl, if_pos (nI_le (by omega) (by omega)), nI_1]
        rfl
      | succ f ih =>
        intro i j hj hi2 r w1 w2 w3
        rw [bX13_rests_83, M_scalar hM, some_bind', eI_l0, Me_scalar hM (by decide), some_bind', hpl, if_neg (nI_ge (by omega) (by omega)), M_is hM, some_bind', i_restM _ hM hv hpl k3 hi2 (show j < W.2.1.1.2.1 by omega), some_bind']
        by_cases e0 : resB W p q n i j W.2.1.1.2.1 0 = 0
        · obtain ⟨u9, q1⟩ := ih i (j + 1) (by omega) hi2 r none none none
          refine ⟨u9, ?_⟩
          rw [if_pos e0, bX13_rests_136, nI_1, q1, show lp (resG W p q n i) (f + 1) j r = lp (resG W p q n i) f (j + 1) r from congrArg (lp (resG W p q n i) f (j + 1)) (if_pos e0)]
        · rw [if_neg e0]
          by_cases e1 : r.1 = 0
          · obtain ⟨u9, q1⟩ := ih i (j + 1) (by omega) hi2 (r.1 + 1, nI i, nI j) none none none
            refine ⟨u9, ?_⟩
            rw [if_neg (fun z => z e1), bX13_rests_117, if_neg (fun z => z e1), bX13_rests_131, bX13_rests_136, nI_1, q1, show lp (resG W p q n i) (f + 1) j r = lp (resG W p q n i) f (j + 1) (r.1 + 1, nI i, nI j) from congrArg (lp (resG W p q n i) f (j + 1)) (by unfold resG; rw [if_neg e0, if_pos e1, if_pos e1])]
          · obtain ⟨u9, q1⟩ := ih i (j + 1) (by omega) hi2 (r.1 + 1, r.2.1, r.2.2) none none none
            refine ⟨u9, ?_⟩
            rw [if_pos e1, bX13_rests_117, if_pos e1, bX13_rests_131, bX13_rests_136, nI_1, q1, show lp (resG W p q n i) (f + 1) j r = lp (resG W p q n i) f (j + 1) (r.1 + 1, r.2.1, r.2.2) from congrArg (lp (resG W p q n i) f (j + 1)) (by unfold resG; rw [if_neg e0, if_neg e1, if_neg e1])]
    have outer : ∀ (f i : Nat), f + i = W.2.1.1.2.1 → ∀ (r : Int32 × Int32 × Int32) (w1 w2 w3 w9 : Option Value), RS (ZZ L xs) (d + 60) mX13_rests 69 [some (.ref 259), w1, w2, w3, some (.int e), some (.int r.1), some (.int r.2.1), some (.int r.2.2), some (.int (nI i)), w9] [] (HP sh (pM x m1)) = some (HP sh (pM x m1), some (.int (resA e (lp (resO W p q n) f i r)))) := by
      intro f
      induction f with
      | zero =>
        intro i hi2 r w1 w2 w3 w9
        rw [bX13_rests_69, M_scalar hM, some_bind', eI_l0, Me_scalar hM (by decide), some_bind', hpl, if_pos (nI_le (by omega) (by omega))]
        unfold resA
        by_cases c0 : e = 0
        · rw [if_neg (fun z => z c0), if_pos c0, bX13_rests_171]
          rfl
        · rw [if_pos c0, if_neg c0]
          by_cases c1 : e = 1
          · rw [if_neg (fun z => z c1), if_pos c1, bX13_rests_171]
            rfl
          · rw [if_pos c1, if_neg c1, bX13_rests_171]
            rfl
      | succ f ih =>
        intro i hi2 r w1 w2 w3 w9
        obtain ⟨u9, q1⟩ := inner W.2.1.1.2.1 i 0 (by omega) (by omega) r none none none
        rw [bX13_rests_69, M_scalar hM, some_bind', eI_l0, Me_scalar hM (by decide), some_bind', hpl, if_neg (nI_ge (by omega) (by omega))]
        exact q1.trans (ih (i + 1) (by omega) (lp (resG W p q n i) W.2.1.1.2.1 0 r) none none none u9)
    refine ⟨m1, ?_, k2⟩
    show RS (ZZ L xs) (d + 60) mX13_rests 0 [some (.ref 259), some (.int (nI p)), some (.int (nI q)), some (.int (nI n)), some (.int e), none, none, none, none, none] [] _ = _
    rw [M0 sh x m d hM hi, if_neg (z1 g4), if_pos (z1 g5), k1, some_bind']
    exact outer W.2.1.1.2.1 0 (by omega) (0, -2, -2) _ _ _ none
end RESTS
