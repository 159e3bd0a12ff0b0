/-! look -/
section LOOK
variable {L : Nat} {xs : Nat → Int32} {W : WD}
theorem run_W (R : Option ((Nat → Int32) → Int64)) (w : TW) (np ns : Nat) (wr : Int32) : ∀ (n : Nat) (q : SV × (Nat → Int32)) (k : Nat), k < ns → (runA R w np ns wr (n + 1) q).2 k = hoW R w np ns wr (roS R w np ns wr n q.1) k
  | 0, q, k, hk => (hour_wh R w np ns wr q.1 q.2).2.2 k hk
  | n + 1, q, k, hk => by
    have h := run_W R w np ns wr n (hourA R w np ns wr q).1 k hk
    rw [(hour_wh R w np ns wr q.1 q.2).1] at h
    exact h
section
variable {sh : List Sh} {z : ST} {s : SV} {b : Nat} {R : Option ((Nat → Int32) → Int64)} {wr : Int32}
theorem Q_runW (d : Nat) (hv : VW W) (hb : trq b) (h : QT L xs sh W b R wr z s) (n : Nat) (hn : n + 1 < 2 ^ 31) : ∃ z', cV (ZZ L xs) (d + 5) mX0_run [.ref 183, .ref b, .int (nI (n + 1))] (HP sh z) = some (HP sh z') ∧ Off (Dt b) z z' ∧ QT L xs sh W b R wr z' (roS R W.2.1.1.1 W.2.1.1.2.2.1 W.2.1.1.2.2.2 wr (n + 1) s) ∧ ∀ k, k < W.2.1.1.2.2.2 → z'.2.2.2.1 186 k = hoW R W.2.1.1.1 W.2.1.1.2.2.1 W.2.1.1.2.2.2 wr (roS R W.2.1.1.1 W.2.1.1.2.2.1 W.2.1.1.2.2.2 wr n s) k := by
  obtain ⟨t, t1, t2, t3, t4⟩ := h.2.2
  have hB := isSt_trq h.1.1 hb
  have hC : isCk sh 183 := h.1.1.1.2.2.2
  have hR := RuOK_of hC (b := b) (by unfold trq at hb; omega) t4
  obtain ⟨v', a1, a2, a3⟩ := v_run (L := L) (xs := xs) d (trl_HR (trq_trl hb) hB hC t1 t2 t4) t3 hR hv.2.1.1.1.1 (n + 1) hn s (gCk z 183) h.1.2.2.1
  rw [t4.2.1] at a2 a3
  rw [run_wh] at a3
  rw [← HP_as (trq_trl hb) hB h.2.1] at a3
  have ho := Off_trl z b (roS R W.2.1.1.1 W.2.1.1.2.2.1 W.2.1.1.2.2.2 wr (n + 1) s) v'
  refine ⟨_, a3, ho, QT_of hb h ho ?_ (SQ_KK (by unfold trq at hb; omega) _ _), fun k hk => ?_⟩
  · rw [gCk_KK]
    exact a1
  · rw [show (KK z b 183 (roS R W.2.1.1.1 W.2.1.1.2.2.1 W.2.1.1.2.2.2 wr (n + 1) s) v').2.2.2.1 186 = v'.2.2.1 from K_whom _ _, a2]
    exact run_W R _ _ _ _ n _ k hk
end
/-- the answers of the rules that fit, at an hour -/
def lkG (W : WD) (h j : Nat) (a : Nat × (Nat → Nat → Int32)) : Nat × (Nat → Nat → Int32) := if ruV W j = 0 then a else (a.1 + 1, fun k g => if k = a.1 then noW W (RF W (ruN j)) (W.2.1.1.1.1 5) h g else a.2 k g)
def alC (A : Nat → Nat → Int32) (g i : Nat) (k : Nat) (n : Int32) : Int32 := if A i g = A k g then n + 1 else n
def alM (A : Nat → Nat → Int32) (c g : Nat) (i : Nat) (mx : Int32) : Int32 := if mx < lp (alC A g i) c 0 0 then lp (alC A g i) c 0 0 else mx
def alV (a : Nat × (Nat → Nat → Int32)) (g : Nat) : Int32 := lp (alM a.2 a.1 g) a.1 0 0
def lkB (a : Nat × (Nat → Nat → Int32)) (g : Nat) (b : Nat) : Nat := if alV a b ≤ alV a g then b else g
def lkA (W : WD) (e : Int32) (a : Nat × (Nat → Nat → Int32)) : Int32 := if a.1 = 0 ∨ W.2.1.1.2.2.2 = 0 then -2 else if e = 0 then nI (lp (lkB a) (W.2.1.1.2.2.2 - 1) 1 0) else alV a (lp (lkB a) (W.2.1.1.2.2.2 - 1) 1 0)
theorem lkG_le {h j : Nat} {a : Nat × (Nat → Nat → Int32)} (ha : a.1 ≤ j) : (lkG W h j a).1 ≤ j + 1 := by
  unfold lkG
  split
  · omega
  · show a.1 + 1 ≤ j + 1
    omega
def LkX (W : WD) (a : Nat × (Nat → Nat → Int32)) (z : ST) : Prop := ∀ k g, k < a.1 → g < W.2.1.1.2.2.2 → z.2.2.2.1 258 (g * 7 + k) = a.2 k g
def LkM (W : WD) (a : Nat × (Nat → Nat → Int32)) (m : MM) : Prop := ∀ k g, k < a.1 → g < W.2.1.1.2.2.2 → m.2.1 44 (5 * k + g) = a.2 k g
theorem lkB_lt {a : Nat × (Nat → Nat → Int32)} : ∀ (f g b : Nat), b < g → lp (lkB a) f g b < f + g
  | 0, g, b, h => by
    show b < 0 + g
    omega
  | f + 1, g, b, h => by
    have := lkB_lt (a := a) f (g + 1) (lkB a g b) (by unfold lkB; split <;> omega)
    show lp (lkB a) f (g + 1) (lkB a g b) < f + 1 + g
    omega
section
variable {sh : List Sh} {z : ST}
theorem i_alike (d : Nat) (hH : isHi sh 249) {a : Nat × (Nat → Nat → Int32)} (ha : a.1 ≤ 7) (h5 : W.2.1.1.2.2.2 ≤ 5) (hL : LkX W a z) {g : Nat} (hg : g < W.2.1.1.2.2.2) : cI (ZZ L xs) (d + 1) mX1_mostAlike [.ref 249, .int (nI (g * 7)), .int (nI a.1)] (HP sh z) = some (HP sh z, alV a g) := by
  have inner : ∀ (f k : Nat), f + k = a.1 → ∀ (i : Nat) (mx n : Int32), i < a.1 → ∃ u5 u6 : Option Value, RS (ZZ L xs) (d + 1) mX1_mostAlike 17 [some (.ref 249), some (.int (nI (g * 7))), some (.int (nI a.1)), some (.int mx), some (.int (nI i)), some (.int n), some (.int (nI k))] [] (HP sh z) = RS (ZZ L xs) (d + 1) mX1_mostAlike 5 [some (.ref 249), some (.int (nI (g * 7))), some (.int (nI a.1)), some (.int (if mx < lp (alC a.2 g i) f k n then lp (alC a.2 g i) f k n else mx)), some (.int (nI (i + 1))), u5, u6] [] (HP sh z) := by
    intro f
    induction f with
    | zero =>
      intro k hk i mx n hi
      refine ⟨some (.int n), some (.int (nI k)), ?_⟩
      rw [bX1_mostAlike_17, if_pos (nI_le (by omega) (by omega)), nI_1]
      rfl
    | succ f ih =>
      intro k hk i mx n hi
      have r1 := hL i g hi hg
      have r2 := hL k g (by omega) hg
      rw [bX1_mostAlike_17, if_neg (nI_ge (by omega) (by omega)), nI_add, nI_add]
      simp (disch := omega) only [Hi_now hH, Hi_clock hH, Hi_trial hH, Hi_answers hH, Hi_is hH, Hie_answers hH, Hiu_answers hH, some_bind', r1, r2]
      by_cases e : a.2 i g = a.2 k g
      · obtain ⟨u5, u6, p⟩ := ih (k + 1) (by omega) i mx (n + 1) hi
        refine ⟨u5, u6, ?_⟩
        rw [if_neg (fun z => z e), bX1_mostAlike_51, nI_1, p, show lp (alC a.2 g i) (f + 1) k n = lp (alC a.2 g i) f (k + 1) (n + 1) from congrArg (lp (alC a.2 g i) f (k + 1)) (if_pos e)]
      · obtain ⟨u5, u6, p⟩ := ih (k + 1) (by omega) i mx n hi
        refine ⟨u5, u6, ?_⟩
        rw [if_pos e, bX1_mostAlike_51, nI_1, Int32.add_zero, p, show lp (alC a.2 g i) (f + 1) k n = lp (alC a.2 g i) f (k + 1) n from congrArg (lp (alC a.2 g i) f (k + 1)) (if_neg e)]
  have outer : ∀ (f i : Nat), f + i = a.1 → ∀ (mx : Int32) (u5 u6 : Option Value), RS (ZZ L xs) (d + 1) mX1_mostAlike 5 [some (.ref 249), some (.int (nI (g * 7))), some (.int (nI a.1)), some (.int mx), some (.int (nI i)), u5, u6] [] (HP sh z) = some (HP sh z, some (.int (lp (alM a.2 a.1 g) f i mx))) := by
    intro f
    induction f with
    | zero =>
      intro i hi mx u5 u6
      rw [bX1_mostAlike_5, if_pos (nI_le (by omega) (by omega))]
      rfl
    | succ f ih =>
      intro i hi mx u5 u6
      obtain ⟨v5, v6, p⟩ := inner a.1 0 (by omega) i mx 0 (by omega)
      rw [bX1_mostAlike_5, if_neg (nI_ge (by omega) (by omega))]
      exact p.trans (ih (i + 1) (by omega) _ v5 v6)
  refine cI_of ?_
  show RS (ZZ L xs) (d + 1) mX1_mostAlike 0 [some (.ref 249), some (.int (nI (g * 7))), some (.int (nI a.1)), none, none, none, none] [] _ = _
  rw [bX1_mostAlike_0]
  exact outer a.1 0 (by omega) 0 none none
end
section
variable {sh : List Sh} {x : ST} {m : MM}
theorem i_alikeM (d : Nat) (hM : isMo sh) {a : Nat × (Nat → Nat → Int32)} (ha : a.1 ≤ 7) (h5 : W.2.1.1.2.2.2 ≤ 5) (hL : LkM W a m) {g : Nat} (hg : g < W.2.1.1.2.2.2) : cI (ZZ L xs) (d + 1) mX13_mostAlike [.ref 259, .int (nI g), .int (nI a.1)] (HP sh (pM x m)) = some (HP sh (pM x m), alV a g) := by
  have inner : ∀ (f k : Nat), f + k = a.1 → ∀ (i : Nat) (mx n : Int32), i < a.1 → RS (ZZ L xs) (d + 1) mX13_mostAlike 17 [some (.ref 259), some (.int (nI g)), some (.int (nI a.1)), some (.int mx), some (.int (nI i)), some (.int n), some (.int (nI k))] [] (HP sh (pM x m)) = RS (ZZ L xs) (d + 1) mX13_mostAlike 5 [some (.ref 259), some (.int (nI g)), some (.int (nI a.1)), some (.int (if mx < lp (alC a.2 g i) f k n then lp (alC a.2 g i) f k n else mx)), some (.int (nI (i + 1))), none, none] [] (HP sh (pM x m)) := by
    intro f
    induction f with
    | zero =>
      intro k hk i mx n hi
      show _ = RS (ZZ L xs) (d + 1) mX13_mostAlike 5 [some (.ref 259), some (.int (nI g)), some (.int (nI a.1)), some (.int (if mx < n then n else mx)), some (.int (nI (i + 1))), none, none] [] (HP sh (pM x m))
      rw [bX13_mostAlike_17, if_pos (nI_le (by omega) (by omega))]
      by_cases e : n ≤ mx
      · rw [if_pos e, if_neg (Int32.not_lt.mpr e), bX13_mostAlike_76, nI_1]
      · rw [if_neg e, if_pos (Int32.not_le.mp e), bX13_mostAlike_76, nI_1]
    | succ f ih =>
      intro k hk i mx n hi
      have r1 := hL i g hi hg
      have r2 := hL k g (by omega) hg
      rw [bX13_mostAlike_17, if_neg (nI_ge (by omega) (by omega)), nI_5m, nI_5m, nI_add, nI_add]
      simp (disch := omega) only [M_shows hM, Me_shows hM, some_bind', r1, r2]
      by_cases e : a.2 i g = a.2 k g
      · rw [if_neg (fun z => z e.symm), bX13_mostAlike_55, nI_1, ih (k + 1) (by omega) i mx (n + 1) hi, show lp (alC a.2 g i) (f + 1) k n = lp (alC a.2 g i) f (k + 1) (n + 1) from congrArg (lp (alC a.2 g i) f (k + 1)) (if_pos e)]
      · rw [if_pos (fun z => e z.symm), bX13_mostAlike_55, nI_1, Int32.add_zero, ih (k + 1) (by omega) i mx n hi, show lp (alC a.2 g i) (f + 1) k n = lp (alC a.2 g i) f (k + 1) n from congrArg (lp (alC a.2 g i) f (k + 1)) (if_neg e)]
  have outer : ∀ (f i : Nat), f + i = a.1 → ∀ (mx : Int32) (u5 u6 : Option Value), RS (ZZ L xs) (d + 1) mX13_mostAlike 5 [some (.ref 259), some (.int (nI g)), some (.int (nI a.1)), some (.int mx), some (.int (nI i)), u5, u6] [] (HP sh (pM x m)) = some (HP sh (pM x m), some (.int (lp (alM a.2 a.1 g) f i mx))) := by
    intro f
    induction f with
    | zero =>
      intro i hi mx u5 u6
      rw [bX13_mostAlike_5, if_pos (nI_le (by omega) (by omega))]
      rfl
    | succ f ih =>
      intro i hi mx u5 u6
      rw [bX13_mostAlike_5, if_neg (nI_ge (by omega) (by omega))]
      exact (inner a.1 0 (by omega) i mx 0 (by omega)).trans (ih (i + 1) (by omega) _ none none)
  refine cI_of ?_
  show RS (ZZ L xs) (d + 1) mX13_mostAlike 0 [some (.ref 259), some (.int (nI g)), some (.int (nI a.1)), none, none, none, none] [] _ = _
  rw [bX13_mostAlike_0]
  exact outer a.1 0 (by omega) 0 none none
end
end LOOK
