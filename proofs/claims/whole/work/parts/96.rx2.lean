/-! sums of the class's rule -/
def sg (j : Int32) (x : Int64) (q : Int64 × Int64 × Bool) : Int64 × Int64 × Bool := if j = 37 then (q.1, (if x = 0 then 0 else lRem q.2.1 x), q.2.2) else if j = 42 then (q.1, q.2.1 * x, q.2.2) else if j = 47 then (q.1, (if x = 0 then 0 else q.2.1 / x), q.2.2) else ((if q.2.2 = true then q.1 - q.2.1 else q.1 + q.2.1), x, decide (j = 45))
def rg (u : Nat → Int64) (J V : Nat → Int32) : Nat → Nat → (Int64 × Int64 × Bool) → Int64 × Int64 × Bool
  | 0, _, q => q
  | n + 1, i, q => rg u J V n (i + 1) (sg (J i) (xv u (V i)) q)
def fin3 (q : Int64 × Int64 × Bool) : Int64 := if q.2.2 = true then q.1 - q.2.1 else q.1 + q.2.1
theorem rg_cg {u : Nat → Int64} {J V J' V' : Nat → Int32} : ∀ (n i : Nat) (q : Int64 × Int64 × Bool), (∀ k, i ≤ k → k < i + n → J' k = J k ∧ V' k = V k) → rg u J' V' n i q = rg u J V n i q
  | 0, _, _, _ => rfl
  | n + 1, i, q, h => by
    show rg u J' V' n (i + 1) (sg (J' i) (xv u (V' i)) q) = rg u J V n (i + 1) (sg (J i) (xv u (V i)) q)
    rw [(h i (by omega) (by omega)).1, (h i (by omega) (by omega)).2]
    exact rg_cg n (i + 1) _ (fun k h1 h2 => h k (by omega) (by omega))
theorem rg_app {u : Nat → Int64} {J V : Nat → Int32} (m : Nat) : ∀ (n i : Nat) (q : Int64 × Int64 × Bool), rg u J V (n + m) i q = rg u J V m (i + n) (rg u J V n i q)
  | 0, i, q => by
    rw [Nat.zero_add, Nat.add_zero]
    rfl
  | n + 1, i, q => by
    rw [show n + 1 + m = (n + m) + 1 by omega, show i + (n + 1) = i + 1 + n by omega]
    exact rg_app m n (i + 1) _
def opS (b : Nat) : Bool := decide (b = 43 ∨ b = 45 ∨ b = 42 ∨ b = 47 ∨ b = 37)
def LHj (T : TP) (s : Nat) : Int32 := if opS (Bt T s) = true then nI (Bt T s) else -1
def LHs (T : TP) (s : Nat) : Nat := if opS (Bt T s) = true then nx' T s else s
theorem opS_iff {b : Nat} : opS b = true ↔ (b = 43 ∨ b = 45 ∨ b = 42 ∨ b = 47 ∨ b = 37) := by
  unfold opS
  exact decide_eq_true_iff
theorem sgA_ops {T : TP} {s : Nat} : sgA T s [43, 45, 42, 47, 37] = LHj T s := by
  unfold sgA LHj
  by_cases h : opS (Bt T s) = true
  · have h2 := opS_iff.mp h
    have hk : kd T s = 3 := by
      rcases h2 with q | q | q | q | q
      · exact (kd_sg q (by decide) (by decide) (by decide)).1
      · exact (kd_sg q (by decide) (by decide) (by decide)).1
      · exact (kd_sg q (by decide) (by decide) (by decide)).1
      · exact (kd_sg q (by decide) (by decide) (by decide)).1
      · exact (kd_sg q (by decide) (by decide) (by decide)).1
    rw [if_pos h, if_pos ⟨hk, by simp; omega⟩, if_neg (fun z => by have := jE_iff.mp z; omega)]
    exact Int32.add_zero _
  · rw [if_neg h, if_neg (fun z => h (opS_iff.mpr (by have := z.2; simp at this; omega)))]
theorem mulK_e {b k : Nat} (h : mulK b = k) (hk : k ≠ 0) (x : Int64) (q : Int64 × Int64 × Bool) : sg (nI b) x q = (q.1, bo k q.2.1 x, q.2.2) := by
  subst h
  obtain ⟨-, h2⟩ := mulK_b _ hk
  rcases h2 with rfl | rfl | rfl
  · rfl
  · rfl
  · rfl
section RX2
variable {L : Nat} {xs : Nat → Int32} {sh : List Sh} {T : TP} {r sm fa st : Nat}
/-- what a reader of sums leaves: the rows ahead, and the rows of sums -/
def KpR (y y' : ST) (r v sm : Nat) : Prop := Off (Drl r) y y' ∧ Agv y y' r v sm ∧ Agc y y' r 0 256 ∧ ∀ k, y'.2.2.2.1 (r + 3) k = y.2.2.2.1 (r + 3) k ∧ y'.2.2.2.1 (r + 4) k = y.2.2.2.1 (r + 4) k
theorem KpR_refl (y : ST) (r v sm : Nat) : KpR y y r v sm := ⟨Off_refl _ _, Agv_refl _ _ _ _, Agc_refl _ _ _ _, fun _ => ⟨rfl, rfl⟩⟩
theorem KpR_trans {x y z : ST} {r v v' sm : Nat} (h : KpR x y r v sm) (g : KpR y z r v' sm) (hv : v ≤ v') : KpR x z r v sm := ⟨Off_trans h.1 g.1, Agv_trans h.2.1 g.2.1 hv (Nat.le_refl _), Agc_trans h.2.2.1 g.2.2.1 (Nat.le_refl _) (Nat.le_refl _), fun k => ⟨(g.2.2.2 k).1.trans (h.2.2.2 k).1, (g.2.2.2 k).2.trans (h.2.2.2 k).2⟩⟩
theorem FTr_K {x y z : ST} {r v e : Nat} (h : Off (Drl r) x y) (g : FTr y z r e) : FTr x z r e := ⟨Off_trans h g.1, g.2⟩
theorem x_valL (d : Nat) (hC : CXr sh r) (hV : VTa T) {y : ST} {s v : Nat} (hp : PX y T s r v sm fa st) (hc : v + fa ≤ 60) (q : Int32) (j : Int32) (hj : j ≠ -1) {i : Nat} (hi : i < 400) : ∃ y', (∃ e, pV T s (v + fa) = .inl e ∧ RS (ZZ L xs) (d + 4) mX5_sum 5 [some (.ref 195), some (.int q), some (.int j), some (.int (nI i))] [] (HP sh y) = some (HP sh y', some (.int 0)) ∧ FTr y y' r e) ∨ ∃ en, pV T s (v + fa) = .inr en ∧ RS (ZZ L xs) (d + 4) mX5_sum 5 [some (.ref 195), some (.int q), some (.int j), some (.int (nI i))] [] (HP sh y) = RS (ZZ L xs) (d + 4) mX5_sum 5 [some (.ref 195), some (.int q), some (.int (LHj T (nx' T s))), some (.int (nI (i + 1)))] [] (HP sh y') ∧ PX y' T (LHs T (nx' T s)) r (v + 1) sm fa st ∧ KpR y y' r v sm ∧ y'.2.2.2.1 (r + 1) v = j ∧ ∀ u, xv u (y'.2.2.2.1 (r + 2) v) = evl u [en] := by
  have hr := CXr_r hC
  obtain ⟨hT, hRR, hRu, hr2⟩ := id hC
  obtain ⟨y1, rr, a1, a2⟩ := x_addV (L := L) (xs := xs) (d) hC hV hp hc j
  have b0 : RS (ZZ L xs) (d + 4) mX5_sum 5 [some (.ref 195), some (.int q), some (.int j), some (.int (nI i))] [] (HP sh y) = _ := bX5_sum_5 (d + 3) 195 q j (nI i) (HP sh y)
  rw [if_neg (show ¬ (400 : Int32) ≤ nI i from nI_ge (b := 400) hi (by decide)), if_neg hj, RR_is hRR, some_bind', a1, some_bind'] at b0
  rcases a2 with ⟨e, e1, e2, e3⟩ | ⟨en, e1, e2, e3, e4, e5, e6, e7, e8, e9⟩
  · refine ⟨y1, Or.inl ⟨e, e1, ?_, e3⟩⟩
    rw [b0, if_neg (fun z => z e2), if_pos (Or.inl rfl)]
  · have hsg := (i_signA (L := L) (xs := xs) (d + 2) hT hV (k := 4) (w := [43, 45, 42, 47, 37]) (by unfold isS; decide) (by decide) (by decide) e4.1).trans (by rw [sgA_ops])
    rw [if_pos (show ¬ rr = 0 by rw [e2]; decide), RR_tape hRR, some_bind', Ta_is hT, some_bind', hsg, some_bind'] at b0
    by_cases ho : opS (Bt T (nx' T s)) = true
    · obtain ⟨y2, c1, c2, c3, -⟩ := v_adv (L := L) (xs := xs) (d + 1) hT hV e4.1
      have hlt : nx' T s < T.1 := Bt_in (by have := opS_iff.mp ho; omega)
      have hlj : LHj T (nx' T s) = nI (Bt T (nx' T s)) := if_pos ho
      have hls : LHs T (nx' T s) = nx' T (nx' T s) := if_pos ho
      have ea : ∀ j, 1 ≤ j → y2.2.2.2.1 (r + j) = y1.2.2.2.1 (r + j) := fun j hj => (c2 (r + j) (by omega)).2.2.2.1
      refine ⟨y2, Or.inr ⟨en, e1, ?_, ?_, KpR_trans ⟨e3, e5, e6, e7⟩ ⟨Off_1r c2, Agv_off c2 hr _ _, Agc_off c2 hr _ _, fun k => ⟨by rw [ea 3 (by omega)], by rw [ea 4 (by omega)]⟩⟩ (Nat.le_refl _), by rw [ea 1 (by omega)]; exact e8, fun u => by rw [ea 2 (by omega)]; exact e9 u⟩⟩
      · rw [b0, if_neg (show ¬ LHj T (nx' T s) = -1 by rw [hlj]; exact fun z => nI_pos (n := Bt T (nx' T s)) (by have := opS_iff.mp ho; omega) (by rw [z]; decide)), RR_tape hRR, some_bind', Ta_is hT, some_bind', c1, some_bind', bX5_sum_49, nI_1]
      · rw [hls]
        exact PX_off e4 c2 hr c3
    · have hlj : LHj T (nx' T s) = -1 := if_neg ho
      have hls : LHs T (nx' T s) = nx' T s := if_neg ho
      refine ⟨y1, Or.inr ⟨en, e1, ?_, by rw [hls]; exact e4, ⟨e3, e5, e6, e7⟩, e8, e9⟩⟩
      rw [b0, if_pos hlj, bX5_sum_49, nI_1]
theorem x_tlp (d : Nat) (hC : CXr sh r) (hV : VTa T) (q : Int32) : ∀ (f s v i : Nat) (l : EL) (y : ST), v + fa ≤ 60 → 61 ≤ v + fa + f → i ≤ v + fa → WF l → PX y T (LHs T s) r v sm fa st → ∃ y', (∃ e, tlp T f s (v + fa) l = .inl e ∧ RS (ZZ L xs) (d + 4) mX5_sum 5 [some (.ref 195), some (.int q), some (.int (LHj T s)), some (.int (nI i))] [] (HP sh y) = some (HP sh y', some (.int 0)) ∧ FTr y y' r e) ∨ ∃ p v' i', tlp T f s (v + fa) l = .inr p ∧ mulK (Bt T p.1) = 0 ∧ v' + fa = p.2.1 ∧ v ≤ v' ∧ i' ≤ p.2.1 ∧ RS (ZZ L xs) (d + 4) mX5_sum 5 [some (.ref 195), some (.int q), some (.int (LHj T s)), some (.int (nI i))] [] (HP sh y) = RS (ZZ L xs) (d + 4) mX5_sum 5 [some (.ref 195), some (.int q), some (.int (LHj T p.1)), some (.int (nI i'))] [] (HP sh y') ∧ PX y' T (LHs T p.1) r v' sm fa st ∧ KpR y y' r v sm ∧ ∀ u t m, rg u (y'.2.2.2.1 (r + 1)) (y'.2.2.2.1 (r + 2)) (v' - v) v (t, evl u l, m) = (t, evl u p.2.2, m) := by
  intro f
  induction f with
  | zero => intro s v i l y h1 h2; omega
  | succ f ih =>
    intro s v i l y hc hf hi hl hp
    by_cases hm : mulK (Bt T s) = 0
    · have ht : tlp T (f + 1) s (v + fa) l = .inr (s, v + fa, l) := if_pos hm
      refine ⟨y, Or.inr ⟨(s, v + fa, l), v, i, ht, hm, rfl, Nat.le_refl _, hi, rfl, hp, KpR_refl _ _ _ _, fun u t m => ?_⟩⟩
      rw [Nat.sub_self]
      rfl
    · obtain ⟨k1, k2⟩ := mulK_b _ hm
      have ho : opS (Bt T s) = true := opS_iff.mpr (by omega)
      have hlj : LHj T s = nI (Bt T s) := if_pos ho
      have hls : LHs T s = nx' T s := if_pos ho
      rw [hls] at hp
      rw [hlj]
      have ht : tlp T (f + 1) s (v + fa) l = sB (pV T (nx' T s) (v + fa)) fun en => tlp T f (nx' T (nx' T s)) (v + fa + 1) (l ++ [en, (mulK (Bt T s), 0)]) := if_neg hm
      rw [ht]
      obtain ⟨y1, a⟩ := x_valL (L := L) (xs := xs) d hC hV hp hc q (nI (Bt T s)) (fun z => nI_pos (n := Bt T s) (by omega) (by rw [z]; decide)) (i := i) (by omega)
      rcases a with ⟨e, e1, e2, e3⟩ | ⟨en, e1, e2, e3, e4, e5, e6⟩
      · exact ⟨y1, Or.inl ⟨e, by rw [e1]; rfl, e2, e3⟩⟩
      · rw [e1]
        obtain ⟨-, g2, g3, -⟩ := pV_in e1
        have el : l ++ [en, (mulK (Bt T s), 0)] = l ++ [en] ++ [(mulK (Bt T s), 0)] := by simp
        have eadd : v + fa + 1 = v + 1 + fa := by omega
        show ∃ y', (∃ e, tlp T f (nx' T (nx' T s)) (v + fa + 1) (l ++ [en, (mulK (Bt T s), 0)]) = .inl e ∧ _) ∨ ∃ p v' i', tlp T f (nx' T (nx' T s)) (v + fa + 1) (l ++ [en, (mulK (Bt T s), 0)]) = .inr p ∧ _
        rw [el, eadd]
        obtain ⟨y2, b⟩ := ih (nx' T (nx' T s)) (v + 1) (i + 1) (l ++ [en] ++ [(mulK (Bt T s), 0)]) y1 (by omega) (by omega) (by omega) (WF_B hl g3 k1) e3
        rcases b with ⟨e, f1, f2, f3⟩ | ⟨p, v', i', f1, f2, f3, f4, f5, f6, f7, f8, f9⟩
        · exact ⟨y2, Or.inl ⟨e, f1, e2.trans f2, FTr_K (v := v) e4.1 f3⟩⟩
        · refine ⟨y2, Or.inr ⟨p, v', i', f1, f2, f3, by omega, f5, e2.trans f6, f7, KpR_trans e4 f8 (by omega), fun u t m => ?_⟩⟩
          rw [show v' - v = (v' - (v + 1)) + 1 by omega]
          show rg u _ _ (v' - (v + 1)) (v + 1) (sg (y2.2.2.2.1 (r + 1) v) (xv u (y2.2.2.2.1 (r + 2) v)) (t, evl u l, m)) = _
          rw [(f8.2.1.1 v (by omega)).1, (f8.2.1.1 v (by omega)).2, e5, e6, mulK_e rfl hm, ← evl_B hl g3 k1]
          exact f9 u t m
theorem x_pT (d : Nat) (hC : CXr sh r) (hV : VTa T) (q : Int32) {y : ST} {s v i : Nat} {b : Nat} (hb : b = 43 ∨ b = 45) (hc : v + fa ≤ 60) (hi : i ≤ v + fa) (hp : PX y T s r v sm fa st) : ∃ y', (∃ e, pT T s (v + fa) = .inl e ∧ RS (ZZ L xs) (d + 4) mX5_sum 5 [some (.ref 195), some (.int q), some (.int (nI b)), some (.int (nI i))] [] (HP sh y) = some (HP sh y', some (.int 0)) ∧ FTr y y' r e) ∨ ∃ p v' i', pT T s (v + fa) = .inr p ∧ mulK (Bt T p.1) = 0 ∧ v' + fa = p.2.1 ∧ v ≤ v' ∧ i' ≤ p.2.1 ∧ RS (ZZ L xs) (d + 4) mX5_sum 5 [some (.ref 195), some (.int q), some (.int (nI b)), some (.int (nI i))] [] (HP sh y) = RS (ZZ L xs) (d + 4) mX5_sum 5 [some (.ref 195), some (.int q), some (.int (LHj T p.1)), some (.int (nI i'))] [] (HP sh y') ∧ PX y' T (LHs T p.1) r v' sm fa st ∧ KpR y y' r v sm ∧ ∀ u q3, rg u (y'.2.2.2.1 (r + 1)) (y'.2.2.2.1 (r + 2)) (v' - v) v q3 = (fin3 q3, evl u p.2.2, decide (b = 45)) := by
  obtain ⟨y1, a⟩ := x_valL (L := L) (xs := xs) d hC hV hp hc q (nI b) (fun z => nI_pos (n := b) (by omega) (by rw [z]; decide)) (i := i) (by omega)
  unfold pT
  rcases a with ⟨e, e1, e2, e3⟩ | ⟨en, e1, e2, e3, e4, e5, e6⟩
  · exact ⟨y1, Or.inl ⟨e, by rw [e1]; rfl, e2, e3⟩⟩
  · rw [e1]
    obtain ⟨-, g2, g3, -⟩ := pV_in e1
    have eadd : v + fa + 1 = v + 1 + fa := by omega
    show ∃ y', (∃ e, tlp T 61 (nx' T s) (v + fa + 1) [en] = .inl e ∧ _) ∨ ∃ p v' i', tlp T 61 (nx' T s) (v + fa + 1) [en] = .inr p ∧ _
    rw [eadd]
    obtain ⟨y2, b'⟩ := x_tlp (L := L) (xs := xs) (sm := sm) (fa := fa) (st := st) d hC hV q 61 (nx' T s) (v + 1) (i + 1) [en] y1 (by omega) (by omega) (by omega) g3 e3
    rcases b' with ⟨e, f1, f2, f3⟩ | ⟨p, v', i', f1, f2, f3, f4, f5, f6, f7, f8, f9⟩
    · exact ⟨y2, Or.inl ⟨e, f1, e2.trans f2, FTr_K (v := v) e4.1 f3⟩⟩
    · refine ⟨y2, Or.inr ⟨p, v', i', f1, f2, f3, by omega, f5, e2.trans f6, f7, KpR_trans e4 f8 (by omega), fun u q3 => ?_⟩⟩
      rw [show v' - v = (v' - (v + 1)) + 1 by omega]
      show rg u _ _ (v' - (v + 1)) (v + 1) (sg (y2.2.2.2.1 (r + 1) v) (xv u (y2.2.2.2.1 (r + 2) v)) q3) = _
      have hsg : sg (nI b) (evl u [en]) q3 = (fin3 q3, evl u [en], decide (b = 45)) := by
        rcases hb with rfl | rfl
        · rfl
        · rfl
      rw [(f8.2.1.1 v (by omega)).1, (f8.2.1.1 v (by omega)).2, e5, e6, hsg]
      exact f9 u _ _
theorem x_slp (d : Nat) (hC : CXr sh r) (hV : VTa T) (q : Int32) : ∀ (f s v i : Nat) (l : EL) (y : ST), v + fa ≤ 60 → 61 ≤ v + fa + f → i ≤ v + fa → WF l → mulK (Bt T s) = 0 → PX y T (LHs T s) r v sm fa st → ∃ y', (∃ e, slp T f s (v + fa) l = .inl e ∧ RS (ZZ L xs) (d + 4) mX5_sum 5 [some (.ref 195), some (.int q), some (.int (LHj T s)), some (.int (nI i))] [] (HP sh y) = some (HP sh y', some (.int 0)) ∧ FTr y y' r e) ∨ ∃ p v' i', slp T f s (v + fa) l = .inr p ∧ opS (Bt T p.1) = false ∧ v' + fa = p.2.1 ∧ v ≤ v' ∧ i' ≤ p.2.1 ∧ RS (ZZ L xs) (d + 4) mX5_sum 5 [some (.ref 195), some (.int q), some (.int (LHj T s)), some (.int (nI i))] [] (HP sh y) = RS (ZZ L xs) (d + 4) mX5_sum 5 [some (.ref 195), some (.int q), some (.int (-1)), some (.int (nI i'))] [] (HP sh y') ∧ PX y' T p.1 r v' sm fa st ∧ KpR y y' r v sm ∧ ∀ u q3, fin3 q3 = evl u l → fin3 (rg u (y'.2.2.2.1 (r + 1)) (y'.2.2.2.1 (r + 2)) (v' - v) v q3) = evl u p.2.2 := by
  intro f
  induction f with
  | zero => intro s v i l y h1 h2; omega
  | succ f ih =>
    intro s v i l y hc hf hi hl hmul hp
    by_cases hm : addK (Bt T s) = 0
    · have ht : slp T (f + 1) s (v + fa) l = .inr (s, v + fa, l) := if_pos hm
      have ho : ¬ opS (Bt T s) = true := fun z => by
        have h5 := opS_iff.mp z
        unfold mulK at hmul
        unfold addK at hm
        rcases h5 with q | q | q | q | q <;> rw [q] at hm hmul <;> revert hm hmul <;> decide
      have hlj : LHj T s = -1 := if_neg ho
      have hls : LHs T s = s := if_neg ho
      rw [hls] at hp
      refine ⟨y, Or.inr ⟨(s, v + fa, l), v, i, ht, by cases h : opS (Bt T s) <;> simp_all, rfl, Nat.le_refl _, hi, by rw [hlj], hp, KpR_refl _ _ _ _, fun u q3 hq => ?_⟩⟩
      rw [Nat.sub_self]
      exact hq
    · obtain ⟨k1, k2⟩ := addK_b _ hm
      have ho : opS (Bt T s) = true := opS_iff.mpr (by omega)
      have hlj : LHj T s = nI (Bt T s) := if_pos ho
      have hls : LHs T s = nx' T s := if_pos ho
      rw [hls] at hp
      rw [hlj]
      have ht : slp T (f + 1) s (v + fa) l = sB (pT T (nx' T s) (v + fa)) fun q => slp T f q.1 q.2.1 (l ++ q.2.2 ++ [(addK (Bt T s), 0)]) := if_neg hm
      rw [ht]
      obtain ⟨y1, a⟩ := x_pT (L := L) (xs := xs) (i := i) d hC hV q (b := Bt T s) k2 hc hi hp
      rcases a with ⟨e, e1, e2, e3⟩ | ⟨p, v1, i1, e1, e2, e3, e4, e5, e6, e7, e8, e9⟩
      · exact ⟨y1, Or.inl ⟨e, by rw [e1]; rfl, e2, e3⟩⟩
      · rw [e1]
        obtain ⟨g1, g2, g3, g4, g5, g6⟩ := pT_in hc e1
        show ∃ y', (∃ e, slp T f p.1 p.2.1 (l ++ p.2.2 ++ [(addK (Bt T s), 0)]) = .inl e ∧ _) ∨ ∃ p' v' i', slp T f p.1 p.2.1 (l ++ p.2.2 ++ [(addK (Bt T s), 0)]) = .inr p' ∧ _
        rw [← e3]
        obtain ⟨y2, b⟩ := ih p.1 v1 i1 (l ++ p.2.2 ++ [(addK (Bt T s), 0)]) y1 (by omega) (by omega) (by omega) (WF_B hl g1 k1) e2 e7
        rcases b with ⟨e, f1, f2, f3⟩ | ⟨p', v', i', f1, f2, f3, f4, f5, f6, f7, f8, f9⟩
        · exact ⟨y2, Or.inl ⟨e, f1, e6.trans f2, FTr_K (v := v) e8.1 f3⟩⟩
        · refine ⟨y2, Or.inr ⟨p', v', i', f1, f2, f3, by omega, f5, e6.trans f6, f7, KpR_trans e8 f8 e4, fun u q3 hq => ?_⟩⟩
          rw [show v' - v = (v1 - v) + (v' - v1) by omega, rg_app, show v + (v1 - v) = v1 by omega]
          rw [rg_cg (J := y1.2.2.2.1 (r + 1)) (V := y1.2.2.2.1 (r + 2)) (v1 - v) v q3 (fun k h1 h2 => f8.2.1.1 k (by omega)), e9 u q3]
          refine f9 u _ ?_
          rw [evl_B hl g1 k1, ← hq]
          show (if decide (Bt T s = 45) = true then fin3 q3 - evl u p.2.2 else fin3 q3 + evl u p.2.2) = _
          rcases k2 with h | h
          · rw [h]
            rfl
          · rw [h]
            rfl
theorem x_sum (d : Nat) (hC : CXr sh r) (hV : VTa T) {y : ST} {s v n : Nat} (hn : n < sm) (hc : v + fa ≤ 60) (hp : PX y T s r v sm fa st) : ∃ y' rr, cI (ZZ L xs) (d + 4) mX5_sum [.ref 195, .int (nI n)] (HP sh y) = some (HP sh y', rr) ∧ ((∃ e, pS T s (v + fa) = .inl e ∧ rr = 0 ∧ FTr y y' r e) ∨ ∃ p v', pS T s (v + fa) = .inr p ∧ rr = 1 ∧ v' + fa = p.2.1 ∧ v ≤ v' ∧ PX y' T p.1 r v' sm fa st ∧ Off (Drl r) y y' ∧ Agv y y' r v n ∧ Agc y y' r 0 256 ∧ y'.2.2.2.1 (r + 3) n = y.2.2.2.1 (r + 3) n ∧ y'.2.2.2.1 (r + 4) n = nI v' ∧ ∀ u, fin3 (rg u (y'.2.2.2.1 (r + 1)) (y'.2.2.2.1 (r + 2)) (v' - v) v (0, 0, false)) = evl u p.2.2) := by
  have hr := CXr_r hC
  obtain ⟨hT, hRR, hRu, hr2⟩ := id hC
  have hsm := hp.2.2.1.2.2.1
  have b0 : CL (ZZ L xs) (d + 4) mX5_sum [.ref 195, .int (nI n)] (HP sh y) = RS (ZZ L xs) (d + 4) mX5_sum 5 [some (.ref 195), some (.int (nI n)), some (.int (nI 43)), some (.int (nI 0))] [] (HP sh y) := bX5_sum_0 (d + 3) 195 (nI n) (HP sh y)
  obtain ⟨y1, a⟩ := x_pT (L := L) (xs := xs) (i := 0) d hC hV (nI n) (b := 43) (Or.inl rfl) hc (Nat.zero_le _) hp
  unfold pS
  rcases a with ⟨e, e1, e2, e3⟩ | ⟨p, v1, i1, e1, e2, e3, e4, e5, e6, e7, e8, e9⟩
  · exact ⟨y1, 0, cI_of (b0.trans e2), Or.inl ⟨e, by rw [e1]; rfl, rfl, e3⟩⟩
  · rw [e1]
    obtain ⟨g1, g2, g3, g4, g5, g6⟩ := pT_in hc e1
    show ∃ y' rr, _ ∧ ((∃ e, slp T 61 p.1 p.2.1 p.2.2 = .inl e ∧ _) ∨ ∃ p' v', slp T 61 p.1 p.2.1 p.2.2 = .inr p' ∧ _)
    rw [← e3]
    obtain ⟨y2, b⟩ := x_slp (L := L) (xs := xs) (sm := sm) (fa := fa) (st := st) d hC hV (nI n) 61 p.1 v1 i1 p.2.2 y1 (by omega) (by omega) (by omega) g1 e2 e7
    rcases b with ⟨e, f1, f2, f3⟩ | ⟨p', v', i', f1, f2, f3, f4, f5, f6, f7, f8, f9⟩
    · exact ⟨y2, 0, cI_of (b0.trans (e6.trans f2)), Or.inl ⟨e, f1, rfl, FTr_K (v := v) e8.1 f3⟩⟩
    · obtain ⟨y3, hy3⟩ : ∃ y3, y3 = sA y2 (r + 4) (upd (y2.2.2.2.1 (r + 4)) n (nI v')) := ⟨_, rfl⟩
      have hK := KpR_trans e8 f8 e4
      have o3 : Off (fun o => r ≤ o ∧ o < r + 7) y2 y3 := by
        rw [hy3]
        exact Off_sA (D := fun o => r ≤ o ∧ o < r + 7) (Off_refl _ _) (by omega) _
      have e4' : y3.2.2.2.1 (r + 4) = upd (y2.2.2.2.1 (r + 4)) n (nI v') := by rw [hy3]; exact sA_at _ _ _
      have eo : ∀ a, a ≠ r + 4 → y3.2.2.2.1 a = y2.2.2.2.1 a := fun a ha => by rw [hy3]; exact sA_ne _ _ ha
      have hp3 : PX y3 T p'.1 r v' sm fa st := by
        refine ⟨TSt_off o3 (by omega) (by omega) f7.1, ?_, ?_, ?_⟩
        · rw [(o3 195 (by omega)).2.2.1]
          exact f7.2.1
        · rw [hy3]
          exact f7.2.2.1
        · unfold okV
          rw [eo _ (by omega)]
          exact f7.2.2.2
      have hv' : y2.1 r 0 = nI v' := f7.2.2.1.1.1
      have hend : cV (ZZ L xs) (d + 3) mX4_endSum [.ref r, .int (nI n)] (HP sh y2) = some (HP sh y3) := by
        refine cV_of ?_
        show RS (ZZ L xs) (d + 3) mX4_endSum 0 [some (.ref r), some (.int (nI n))] [] _ = _
        rw [bX4_endSum_0, if_neg (nI_pos (by omega)), if_neg (show ¬ (60 : Int32) ≤ nI n from nI_ge (b := 60) (by omega) (by decide)), Ru_sumTo hRu, some_bind', Ru_values hRu, some_bind', hv', Ruu_sumTo hRu _ (by omega), some_bind', bX4_endSum_20, hy3]
      refine ⟨y3, 1, cI_of ?_, Or.inr ⟨p', v', f1, rfl, f3, by omega, hp3, Off_trans hK.1 (Off_mono o3 (fun o q => Or.inr q)), ⟨fun k hk => ?_, fun k hk => ⟨?_, ?_⟩⟩, fun k h1 h2 => ?_, ?_, ?_, fun u => ?_⟩⟩
      · rw [b0, e6, f6, bX5_sum_5, if_neg (show ¬ (400 : Int32) ≤ nI i' from nI_ge (b := 400) (by have := f7.2.2.1.2; omega) (by decide)), if_pos rfl, bX5_sum_55, rr_rule hC f7.2.1, some_bind', Ru_is hRu, some_bind', hend, some_bind', if_pos (Or.inr rfl)]
      · rw [eo _ (by omega), eo _ (by omega)]
        exact hK.2.1.1 k hk
      · rw [eo _ (by omega)]
        exact (hK.2.2.2 k).1
      · rw [e4', upd_ne _ _ (by omega)]
        exact (hK.2.2.2 k).2
      · rw [eo _ (by omega), eo _ (by omega)]
        exact hK.2.2.1 k h1 h2
      · rw [eo _ (by omega)]
        exact (hK.2.2.2 n).1
      · rw [e4', upd_at]
      · rw [eo _ (by omega), eo _ (by omega), show v' - v = (v1 - v) + (v' - v1) by omega, rg_app, show v + (v1 - v) = v1 by omega]
        rw [rg_cg (J := y1.2.2.2.1 (r + 1)) (V := y1.2.2.2.1 (r + 2)) (v1 - v) v _ (fun k h1 h2 => f8.2.1.1 k (by omega)), e9 u]
        refine f9 u _ ?_
        show (0 : Int64) + 0 + evl u p.2.2 = _
        rw [Int64.add_zero, Int64.zero_add]
end RX2
