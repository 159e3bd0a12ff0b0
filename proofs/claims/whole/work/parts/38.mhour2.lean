/-! the model's hour in step with the state -/
def RLv (np ns j k : Nat) : Prop := if j ≤ 4 then k < np else if j = 5 then k < ns else k / 6 < ns ∧ k % 6 < np
def Mdy (m : MM) (np ns : Nat) (s : SV) : Prop := m.2.1 0 4 = s.1.1 ∧ m.2.1 0 5 = s.1.2.1 ∧ m.2.1 0 6 = s.1.2.2 ∧ ∀ j, j < 7 → ∀ k, RLv np ns j k → m.2.1 (1 + j) k = s.2.2 j k
def MF (m m' : MM) : Prop := m'.1 = m.1 ∧ (∀ a, 8 ≤ a → a ≠ 37 → m'.2.1 a = m.2.1 a) ∧ ∀ k, k < 4 ∨ 7 ≤ k → m'.2.1 0 k = m.2.1 0 k
theorem MF_refl (m : MM) : MF m m := ⟨rfl, fun _ _ _ => rfl, fun _ _ => rfl⟩
theorem MF_trans {a b c : MM} (h1 : MF a b) (h2 : MF b c) : MF a c := ⟨h2.1.trans h1.1, fun k hk hn => (h2.2.1 k hk hn).trans (h1.2.1 k hk hn), fun k hk => (h2.2.2 k hk).trans (h1.2.2 k hk)⟩
theorem MF_A {m m' : MM} (h : MF m m') {a : Nat} (ha : a < 8 ∧ 0 < a ∨ a = 37) (k : Nat) (v : Int32) : MF m (mA m' a k v) := by
  refine ⟨h.1, fun b hb hn => ?_, fun j hj => ?_⟩
  · rw [mA_ne _ _ _ (by omega)]
    exact h.2.1 b hb hn
  · rw [mA_ne _ _ _ (by omega)]
    exact h.2.2 j hj
theorem MF_0 {m m' : MM} (h : MF m m') {k : Nat} (hk : 4 ≤ k ∧ k < 7) (v : Int32) : MF m (mA m' 0 k v) := by
  refine ⟨h.1, fun b hb hn => ?_, fun j hj => ?_⟩
  · rw [mA_ne _ _ _ (by omega)]
    exact h.2.1 b hb hn
  · rw [mA_eq, upd_ne _ _ (by omega)]
    exact h.2.2 j hj
theorem MF_J {m m' : MM} (h : MF m m') (J : Nat → Nat → Int64) : MF m (m'.1, m'.2.1, J) := h
theorem Mdy_r {m : MM} {np ns : Nat} {s : SV} (h : Mdy m np ns s) (a : Nat) (j : Nat) (ha : a = 1 + j) (hj : j < 7) (k : Nat) (v : Int32) : Mdy (mA m a k v) np ns (stR s j (upd (s.2.2 j) k v)) := by
  subst ha
  obtain ⟨h1, h2, h3, h4⟩ := h
  refine ⟨?_, ?_, ?_, fun i hi q hq => ?_⟩
  · rw [mA_ne _ _ _ (by omega)]; exact h1
  · rw [mA_ne _ _ _ (by omega)]; exact h2
  · rw [mA_ne _ _ _ (by omega)]; exact h3
  · show (mA m (1 + j) k v).2.1 (1 + i) q = (if i = j then upd (s.2.2 j) k v else s.2.2 i) q
    by_cases e : i = j
    · subst e
      rw [mA_eq, if_pos rfl]
      by_cases hqk : q = k
      · subst hqk
        rw [upd_at, upd_at]
      · rw [upd_ne _ _ hqk, upd_ne _ _ hqk]
        exact h4 i hi q hq
    · rw [mA_ne _ _ _ (by omega), if_neg e]
      exact h4 i hi q hq
theorem Mdy_h {m : MM} {np ns : Nat} {s : SV} (h : Mdy m np ns s) (v : Int32) : Mdy (mA m 0 4 v) np ns (stH s v) := by
  obtain ⟨h1, h2, h3, h4⟩ := h
  refine ⟨?_, ?_, ?_, fun i hi q hq => ?_⟩
  · rw [mA_eq, upd_at]; rfl
  · rw [mA_eq, upd_ne _ _ (by omega)]; exact h2
  · rw [mA_eq, upd_ne _ _ (by omega)]; exact h3
  · rw [mA_ne _ _ _ (by omega)]; exact h4 i hi q hq
theorem Mdy_c {m : MM} {np ns : Nat} {s : SV} (h : Mdy m np ns s) (v : Int32) : Mdy (mA m 0 5 v) np ns (stCh s v) := by
  obtain ⟨h1, h2, h3, h4⟩ := h
  refine ⟨?_, ?_, ?_, fun i hi q hq => ?_⟩
  · rw [mA_eq, upd_ne _ _ (by omega)]; exact h1
  · rw [mA_eq, upd_at]; rfl
  · rw [mA_eq, upd_ne _ _ (by omega)]; exact h3
  · rw [mA_ne _ _ _ (by omega)]; exact h4 i hi q hq
theorem Mdy_m {m : MM} {np ns : Nat} {s : SV} (h : Mdy m np ns s) (v : Int32) : Mdy (mA m 0 6 v) np ns (stCo s v) := by
  obtain ⟨h1, h2, h3, h4⟩ := h
  refine ⟨?_, ?_, ?_, fun i hi q hq => ?_⟩
  · rw [mA_eq, upd_ne _ _ (by omega)]; exact h1
  · rw [mA_eq, upd_ne _ _ (by omega)]; exact h2
  · rw [mA_eq, upd_at]; rfl
  · rw [mA_ne _ _ _ (by omega)]; exact h4 i hi q hq
theorem Mdy_o {m : MM} {np ns : Nat} {s : SV} (h : Mdy m np ns s) {a : Nat} (ha : 8 ≤ a) (k : Nat) (v : Int32) : Mdy (mA m a k v) np ns s := by
  obtain ⟨h1, h2, h3, h4⟩ := h
  refine ⟨?_, ?_, ?_, fun i hi q hq => ?_⟩
  · rw [mA_ne _ _ _ (by omega)]; exact h1
  · rw [mA_ne _ _ _ (by omega)]; exact h2
  · rw [mA_ne _ _ _ (by omega)]; exact h3
  · rw [mA_ne _ _ _ (by omega)]; exact h4 i hi q hq
theorem Md_at {m : MM} {np ns : Nat} {s : SV} (h : Mdy m np ns s) {p : Nat} (hp : p < np) : m.2.1 1 p = s.2.2 0 p := h.2.2.2 0 (by decide) p hp
theorem Md_kind {m : MM} {np ns : Nat} {s : SV} (h : Mdy m np ns s) {p : Nat} (hp : p < np) : m.2.1 2 p = s.2.2 1 p := h.2.2.2 1 (by decide) p hp
theorem Md_asks {m : MM} {np ns : Nat} {s : SV} (h : Mdy m np ns s) {p : Nat} (hp : p < np) : m.2.1 3 p = s.2.2 2 p := h.2.2.2 2 (by decide) p hp
theorem Md_all {m : MM} {np ns : Nat} {s : SV} (h : Mdy m np ns s) {p : Nat} (hp : p < np) : m.2.1 4 p = s.2.2 3 p := h.2.2.2 3 (by decide) p hp
theorem Md_chains {m : MM} {np ns : Nat} {s : SV} (h : Mdy m np ns s) {p : Nat} (hp : p < np) : m.2.1 5 p = s.2.2 4 p := h.2.2.2 4 (by decide) p hp
theorem Md_where {m : MM} {np ns : Nat} {s : SV} (h : Mdy m np ns s) {p : Nat} (hp : p < ns) : m.2.1 6 p = s.2.2 5 p := h.2.2.2 5 (by decide) p hp
theorem Md_knows {m : MM} {np ns : Nat} {s : SV} (h : Mdy m np ns s) {g p : Nat} (hg : g < ns) (hp : p < np) (hp6 : np ≤ 6) : m.2.1 7 (g * 6 + p) = s.2.2 6 (g * 6 + p) := h.2.2.2 6 (by decide) _ (by
  show (g * 6 + p) / 6 < ns ∧ (g * 6 + p) % 6 < np
  omega)
theorem MSt_fr {m m' : MM} (h : MF m m') {w : TW} {pl np ns : Nat} {wr : Int32} (hs : MSt m w pl np ns wr) : MSt m' w pl np ns wr := by
  obtain ⟨h1, h2, h3, h4, h5, h6⟩ := hs
  refine ⟨?_, ?_, ?_, ?_, fun p hp => ?_, fun g hg => ⟨?_, ?_, ?_⟩⟩
  · rw [h.2.2 0 (by omega)]; exact h1
  · rw [h.2.2 1 (by omega)]; exact h2
  · rw [h.2.2 2 (by omega)]; exact h3
  · rw [h.2.2 3 (by omega)]; exact h4
  · rw [h.2.1 9 (by omega) (by omega)]; exact h5 p hp
  · rw [h.2.1 10 (by omega) (by omega)]; exact (h6 g hg).1
  · rw [h.2.1 11 (by omega) (by omega)]; exact (h6 g hg).2.1
  · rw [h.2.1 12 (by omega) (by omega)]; exact (h6 g hg).2.2
theorem MOp_fr {m m' : MM} (h : MF m m') {l : Int64} (hs : MOp m l) : MOp m' l := fun i hi => by rw [h.2.1 8 (by omega) (by omega)]; exact hs i hi
theorem cntF_q {A B : Nat → Int32} (a : Int32) : ∀ (f k : Nat) (n : Int32), (∀ p, k ≤ p → p < f + k → A p = B p) → cntF A a f k n = cntF B a f k n
  | 0, _, _, _ => rfl
  | f + 1, k, n, h => by
    unfold cntF
    rw [h k (Nat.le_refl _) (by omega)]
    exact cntF_q a f (k + 1) _ (fun p h1 h2 => h p (by omega) (by omega))
/-- the rule in force, in the model -/
def RuFr (m m' : MM) : Prop := m'.2.1 0 9 = m.2.1 0 9 ∧ ∀ a, 28 ≤ a → a ≤ 33 → m'.2.1 a = m.2.1 a
def RuM (L : Nat) (xs : Nat → Int32) (sh : List Sh) (x : ST) (m : MM) (R : Option ((Nat → Int32) → Int64)) : Prop := match R with
  | none => m.2.1 0 9 = -1
  | some f => ¬ m.2.1 0 9 = -1 ∧ ∀ d, 0 < d → ∀ m', RuFr m m' → ∀ wd : Nat → Int32, (∀ k, k < 12 → m'.2.2 35 k = (wd k).toInt64) → ∃ J, cJ (ZZ L xs) (d + 3) mX13_wanted [.ref 259] (HP sh (pM x m')) = some (HP sh (pM x (m'.1, m'.2.1, J)), f wd)
theorem MF_Ru {m m' : MM} (h : MF m m') : RuFr m m' := ⟨h.2.2 9 (by omega), fun a h1 h2 => h.2.1 a (by omega) (by omega)⟩
theorem RuM_fr {L : Nat} {xs : Nat → Int32} {sh : List Sh} {x : ST} {m m' : MM} {R : Option ((Nat → Int32) → Int64)} (h : RuFr m m') (hR : RuM L xs sh x m R) : RuM L xs sh x m' R := by
  cases R with
  | none => exact h.1.trans hR
  | some f => exact ⟨fun q => hR.1 (h.1.symm.trans q), fun d hd m2 h2 => hR.2 d hd m2 ⟨h2.1.trans h.1, fun a q1 q2 => (h2.2 a q1 q2).trans (h.2 a q1 q2)⟩⟩
def likS (R : Option ((Nat → Int32) → Int64)) (W : Nat → Int64) (p : Nat) : Int64 := if R = none then 1 + W p else W p
theorem stepF_no (A : Nat → Int32) (near frm to dist : Int32) : ∀ (f p : Nat), f + p ≤ 32 → (∀ j, p ≤ j → j < f + p → ¬ (bt near j = true ∧ farS A (nI j) to = dist - 1)) → stepF A near frm to dist f p = frm
  | 0, _, _, _ => rfl
  | f + 1, p, hl, h => by
    unfold stepF
    rw [if_neg (fun q => h p (Nat.le_refl _) (by omega) ⟨(bt_shr (by omega)).mp q.1, q.2⟩)]
    exact stepF_no A near frm to dist f (p + 1) (by omega) (fun j h1 h2 => h j (by omega) (by omega))
section MHOUR2
variable {L : Nat} {xs : Nat → Int32} {sh : List Sh} {x : ST} {m : MM}
theorem i_firstM (d : Nat) (hM : isMo sh) (pl : Nat) (hpl : m.2.1 0 0 = nI pl) (l : Int64) (hO : MOp m l) (hV : VO pl l) {a b : Nat} (ha : a < 8) (hb : b < 8) : cI (ZZ L xs) (d + 3) mX13_firstOn [.ref 259, .int (nI a), .int (nI b)] (HP sh (pM x m)) = some (HP sh (pM x m), stepS l (dst l) (nI a) (nI b)) := by
  have hp8 : pl ≤ 8 := hV.1
  have hfar : ∀ j, j < 8 → farS (dst l) (nI j) (nI b) = 99 ∨ ∃ n, n < 8 ∧ farS (dst l) (nI j) (nI b) = nI n := by
    intro j hj
    rcases dst_far l hj hb with ⟨n, hn, e, -⟩ | ⟨e, -⟩
    · exact Or.inr ⟨n, hn, e⟩
    · exact Or.inl e
  have h : CL (ZZ L xs) (d + 3) mX13_firstOn [.ref 259, .int (nI a), .int (nI b)] (HP sh (pM x m)) = some (HP sh (pM x m), some (.int (stepS l (dst l) (nI a) (nI b)))) := by
    show RS (ZZ L xs) (d + 3) mX13_firstOn 0 [some (.ref 259), some (.int (nI a)), some (.int (nI b)), none, none] [] _ = _
    rw [bX13_firstOn_0, M_is hM, some_bind', i_farM d hM pl hpl l hO hV ha hb, some_bind']
    unfold stepS
    have hfa := hfar a ha
    generalize farS (dst l) (nI a) (nI b) = v at hfa
    rcases hfa with rfl | ⟨n, hn, rfl⟩
    · rw [if_pos rfl, bX13_firstOn_10]
      have e0 : eI (HP sh (pM x m)) (.ref 260) 0 = some (nI pl) := by rw [← hpl]; exact Me_scalar hM (j := 0) (by decide)
      simp only [M_scalar hM, some_bind', e0]
      by_cases hz : nI pl ≤ 0
      · rw [if_pos hz, bX13_firstOn_67]
      · rw [if_neg hz, if_neg (by decide), if_pos (by decide), bX13_firstOn_67]
    · have h99 : ∀ n, n < 8 → ¬ nI n = 99 := by
        intro n hn
        have : ∀ n : Fin 8, ¬ nI n.val = 99 := by decide +kernel
        exact this ⟨n, hn⟩
      have hm1 : ∀ n, n < 8 → ¬ nI n = -1 := fun n hn q => nI_pos (n := n) (by omega) (by rw [q]; decide)
      rw [if_neg (h99 n hn)]
      have e0 : eI (HP sh (pM x m)) (.ref 260) 0 = some (nI pl) := by rw [← hpl]; exact Me_scalar hM (j := 0) (by decide)
      have h99' : ¬ (99 : Int32) ≤ nI n := nI_ge (a := n) (b := 99) (by omega) (by decide)
      by_cases hn0 : n = 0
      · subst hn0
        rw [stepF_no _ _ _ _ _ _ _ (by decide) (fun j _ hj q => by
          have q2 : farS (dst l) (nI j) (nI b) = -1 := q.2
          rcases hfar j (by omega) with e | ⟨n, hn, e⟩
          · rw [e] at q2
            exact absurd q2 (by decide)
          · rw [e] at q2
            exact hm1 n hn q2)]
        rw [bX13_firstOn_10]
        simp only [M_scalar hM, some_bind', e0]
        by_cases hz : nI pl ≤ 0
        · rw [if_pos hz, bX13_firstOn_67]
        · rw [if_neg hz, if_pos (by decide), bX13_firstOn_67]
      · have hnle : ¬ nI n ≤ 0 := nI_nle (by omega) (by omega)
        have loop : ∀ (f k : Nat), f + k = pl → RS (ZZ L xs) (d + 3) mX13_firstOn 10 [some (.ref 259), some (.int (nI a)), some (.int (nI b)), some (.int (nI n)), some (.int (nI k))] [] (HP sh (pM x m)) = some (HP sh (pM x m), some (.int (stepF (dst l) (nb l (nI a)) (nI a) (nI b) (nI n) (8 - pl + f) k))) := by
          intro f
          induction f with
          | zero =>
            intro k hk
            rw [bX13_firstOn_10]
            simp only [M_scalar hM, some_bind', e0]
            rw [if_pos (nI_le (by omega) (by omega)), bX13_firstOn_67, stepF_no _ _ _ _ _ _ _ (by omega) (fun j h1 h2 q => by
              have := q.1
              rw [nb_off hV ha (by omega) (by omega)] at this
              cases this)]
          | succ f ih =>
            intro k hk
            rw [bX13_firstOn_10]
            simp (disch := omega) only [M_scalar hM, M_open hM, Me_open hM, M_is hM, some_bind', e0, i_has]
            rw [if_neg (nI_ge (by omega) (by omega)), if_neg hnle, if_neg h99', hO a ha, show 8 - pl + (f + 1) = 8 - pl + f + 1 from rfl]
            unfold stepF
            by_cases hbt : bt (nb l (nI a)) k = true
            · rw [if_neg (fun q => b01_0.mp q hbt), i_farM d hM pl hpl l hO hV (by omega) hb, some_bind']
              by_cases hq : farS (dst l) (nI k) (nI b) = nI n - 1
              · rw [if_neg (fun q => q hq), if_pos ⟨(bt_shr (by omega)).mpr hbt, hq⟩]
              · rw [if_pos hq, if_neg (fun q => hq q.2), bX13_firstOn_61, nI_1]
                exact ih (k + 1) (by omega)
            · rw [if_pos (b01_0.mpr hbt), if_neg (fun q => hbt ((bt_shr (by omega)).mp q.1)), bX13_firstOn_61, nI_1]
              exact ih (k + 1) (by omega)
        have := loop pl 0 rfl
        rw [show 8 - pl + pl = 8 by omega] at this
        exact this
  unfold cI
  rw [h]
  rfl
theorem i_manyM (d : Nat) (hM : isMo sh) (np : Nat) (hn : m.2.1 0 2 = nI np) (hn6 : np ≤ 6) (a : Int32) : cI (ZZ L xs) (d + 1) mX13_howManyAt [.ref 259, .int a] (HP sh (pM x m)) = some (HP sh (pM x m), cntF (m.2.1 1) a np 0 0) := by
  have e2 : eI (HP sh (pM x m)) (.ref 260) 2 = some (nI np) := by rw [← hn]; exact Me_scalar hM (j := 2) (by decide)
  have loop : ∀ (f k : Nat), f + k = np → ∀ (n : Int32), RS (ZZ L xs) (d + 1) mX13_howManyAt 4 [some (.ref 259), some (.int a), some (.int n), some (.int (nI k))] [] (HP sh (pM x m)) = some (HP sh (pM x m), some (.int (cntF (m.2.1 1) a f k n))) := by
    intro f
    induction f with
    | zero =>
      intro k hk n
      rw [bX13_howManyAt_4]
      simp only [M_scalar hM, some_bind', e2]
      rw [if_pos (nI_le (by omega) (by omega))]
      rfl
    | succ f ih =>
      intro k hk n
      rw [bX13_howManyAt_4]
      simp (disch := omega) only [M_scalar hM, M_at hM, Me_at hM, some_bind', e2]
      rw [if_neg (nI_ge (by omega) (by omega))]
      unfold cntF
      by_cases hq : m.2.1 1 k = a
      · rw [if_neg (fun q => q hq), if_pos hq, bX13_howManyAt_30, nI_1]
        exact ih (k + 1) (by omega) _
      · rw [if_pos hq, if_neg hq, bX13_howManyAt_30, nI_1]
        exact ih (k + 1) (by omega) _
  have h : CL (ZZ L xs) (d + 1) mX13_howManyAt [.ref 259, .int a] (HP sh (pM x m)) = some (HP sh (pM x m), some (.int (cntF (m.2.1 1) a np 0 0))) := by
    show RS (ZZ L xs) (d + 1) mX13_howManyAt 0 [some (.ref 259), some (.int a), none, none] [] _ = _
    rw [bX13_howManyAt_0]
    exact loop np 0 rfl 0
  unfold cI
  rw [h]
  rfl
end MHOUR2
