/-! the class's reader of rules: tests -/
theorem and01 {a b : Int64} (h : T01 a) (g : T01 b) : decide (a &&& b = 1) = (decide (a = 1) && decide (b = 1)) := by
  rcases h with rfl | rfl <;> rcases g with rfl | rfl <;> decide
theorem or01 {a b : Int64} (h : T01 a) (g : T01 b) : decide (a ||| b = 1) = (decide (a = 1) || decide (b = 1)) := by
  rcases h with rfl | rfl <;> rcases g with rfl | rfl <;> decide
theorem not01 {a : Int64} (h : T01 a) : decide (1 - a = 1) = !decide (a = 1) := by
  rcases h with rfl | rfl <;> decide
section RX5
variable {L : Nat} {xs : Nat → Int32} {sh : List Sh} {T : TP} {r : Nat}
def FactOK (L : Nat) (xs : Nat → Int32) (sh : List Sh) (T : TP) (r g : Nat) : Prop := ∀ (dp d s v sm fa st : Nat) (y : ST), dp + g = 10 → PX y T s r v sm fa st → v + fa ≤ 60 → sm ≤ v → 2 * st ≤ s → ∃ y' rr, cI (ZZ L xs) (d + 3 * g + 6) mX5_fact [.ref 195, .int (nI dp)] (HP sh y) = some (HP sh y', rr) ∧ ((∃ e, pFa T g s (v + fa) = .inl e ∧ rr = 0 ∧ FTr y y' r e) ∨ ∃ p, pFa T g s (v + fa) = .inr p ∧ rr = 1 ∧ FOk L xs T y y' r s v sm fa st p)
def TestOK (L : Nat) (xs : Nat → Int32) (sh : List Sh) (T : TP) (r g : Nat) : Prop := ∀ (dp d s v sm fa st : Nat) (y : ST), dp + g = 10 → PX y T s r v sm fa st → v + fa ≤ 60 → sm ≤ v → 2 * st ≤ s → ∃ y' rr, cI (ZZ L xs) (d + 3 * g + 7) mX5_test [.ref 195, .int (nI dp)] (HP sh y) = some (HP sh y', rr) ∧ ((∃ e, pE (pFa T g) T s (v + fa) = .inl e ∧ rr = 0 ∧ FTr y y' r e) ∨ ∃ p, pE (pFa T g) T s (v + fa) = .inr p ∧ rr = 1 ∧ FOk L xs T y y' r s v sm fa st p)
/-- what stands open in a test -/
def TI (L : Nat) (xs : Nat → Int32) (y : ST) (r o st0 st v sm : Nat) (orI : Int32) (ho ha : Bool) (A O C : (Nat → Int64) → Int64) : Prop := (ho = false → orI = -1 ∧ SegP L xs y r st0 st v sm (fun u => decide (chv ha A C u = 1))) ∧ (ho = true → orI = nI o ∧ st0 ≤ o ∧ o < st ∧ SegP L xs y r st0 o v sm (fun u => decide (O u = 1)) ∧ y.2.2.2.1 (r + 5) o = 3 ∧ SegP L xs y r (o + 1) st v sm (fun u => decide (chv ha A C u = 1)))
theorem x_close (d : Nat) (hC : CXr sh r) {y : ST} {s v sm fa st o st0 : Nat} {orI : Int32} {l : EL} {ho ha : Bool} {A O C : (Nat → Int64) → Int64} (hp : PX y T s r v sm fa st) (h0 : st0 ≤ st) (hE : E3 l ho ha A O C) (hI : TI L xs y r o st0 st v sm orI ho ha A O C) : ∃ y', cV (ZZ L xs) (d + 1) mX4_landHere [.ref r, .int orI] (HP sh y) = some (HP sh y') ∧ PX y' T s r v sm fa st ∧ Off (Drl r) y y' ∧ Agv y y' r v sm ∧ Agc y y' r 0 st0 ∧ SegP L xs y' r st0 st v sm (fun u => decide (fnv ho ha A O C u = 1)) := by
  cases ho with
  | false =>
    obtain ⟨a1, a2⟩ := hI.1 rfl
    rw [a1]
    exact ⟨y, v_land0 d y, hp, Off_refl _ _, Agv_refl _ _ _ _, Agc_refl _ _ _ _, a2⟩
  | true =>
    obtain ⟨a1, a2, a3, a4, a5, a6⟩ := hI.2 rfl
    have hst := hp.2.2.1.2.2.2.2
    obtain ⟨y1, b1, b2, b3, b4, b5, b6⟩ := v_land (L := L) (xs := xs) d hC hp (show o < 256 by omega)
    rw [a1]
    have hc : ∀ i j, (j ≤ o ∨ o < i) → Agc y y1 r i j := fun i j h k h1 h2 => ⟨(b5 k).1, (b5 k).2 (by omega)⟩
    refine ⟨y1, b1, b2, b3, b4, hc _ _ (Or.inl a2), ?_⟩
    have e : (fun u => decide (fnv true ha A O C u = 1)) = (fun u => decide (O u = 1) || decide (chv ha A C u = 1)) := funext fun u => or01 (hE.2.1 u).2.1 (chv_T (hE.2.1 u).1 (hE.2.1 u).2.2)
    rw [e]
    exact Seg_or (SegP_mono a4 b4 (hc _ _ (Or.inl (Nat.le_refl _))) (Nat.le_refl _) (Nat.le_refl _)) (SegP_mono a6 b4 (hc _ _ (Or.inr (Nat.lt_succ_self o))) (Nat.le_refl _) (Nat.le_refl _)) a2 a3 ((b5 o).1.trans a5) b6
/-- behind a fault a test ends -/
theorem x_endF (d : Nat) (hC : CXr sh r) {x y : ST} {e : Nat} (h : FTr x y r e) (i1 i2 i4 : Int32) (u5 u6 : Option Value) : ∃ y', RS (ZZ L xs) (d + 2) mX5_test 11 [some (.ref 195), some (.int i1), some (.int i2), some (.int 0), some (.int i4), u5, u6] [] (HP sh y) = some (HP sh y', some (.int 0)) ∧ FTr x y' r e := by
  obtain ⟨hT, hRR, hRu, hr2⟩ := id hC
  obtain ⟨y', q1, q2⟩ := v_landF (L := L) (xs := xs) d hC h i2
  refine ⟨y', ?_, q2⟩
  rw [bX5_test_11, if_pos rfl, bX5_test_114, rr_rule hC h.2.2.2.1, some_bind', Ru_is hRu, some_bind', q1, some_bind', if_pos (Or.inl rfl)]
theorem x_elp (hC : CXr sh r) (hV : VTa T) {g dp : Nat} (hg : dp + g = 10) (hF : FactOK L xs sh T r g) (d : Nat) : ∀ (f s v sm fa st i : Nat) (l : EL) (ho ha : Bool) (A O C : (Nat → Int64) → Int64) (orI : Int32) (o st0 : Nat) (y : ST) (u5 u6 : Option Value), v + fa ≤ 60 → 61 ≤ v + fa + f → i ≤ v + fa → PX y T s r v sm fa st → sm ≤ v → 2 * st ≤ s → st0 ≤ st → E3 l ho ha A O C → TI L xs y r o st0 st v sm orI ho ha A O C → ∃ y' rr, RS (ZZ L xs) (d + 3 * g + 7) mX5_test 11 [some (.ref 195), some (.int (nI dp)), some (.int orI), some (.int 1), some (.int (nI i)), u5, u6] [] (HP sh y) = some (HP sh y', some (.int rr)) ∧ ((∃ e, elp (pFa T g) T f s (v + fa) l ho ha = .inl e ∧ rr = 0 ∧ FTr y y' r e) ∨ ∃ p, elp (pFa T g) T f s (v + fa) l ho ha = .inr p ∧ rr = 1 ∧ ∃ v' sm' fa' st', PX y' T p.1 r v' sm' fa' st' ∧ v' + fa' = p.2.1 ∧ sm' ≤ v' ∧ (v ≤ v' ∧ sm ≤ sm' ∧ fa ≤ fa' ∧ st ≤ st') ∧ 2 * st' + s ≤ 2 * st + p.1 ∧ Off (Drl r) y y' ∧ Agv y y' r v sm ∧ Agc y y' r 0 st0 ∧ SegP L xs y' r st0 st' v' sm' (fun u => decide (evl u p.2.2 = 1))) := by
  have h400 := hV.1
  have hr := CXr_r hC
  obtain ⟨hT, hRR, hRu, hr2⟩ := id hC
  intro f
  induction f with
  | zero => intro s v sm fa st i l ho ha A O C orI o st0 y u5 u6 h1 h2; omega
  | succ f ih =>
    intro s v sm fa st i l ho ha A O C orI o st0 y u5 u6 hc hf hi hp hsv hst h0 hE hI
    have hsT := hp.1.2.1
    have hw := i_words (L := L) (xs := xs) (d + 3 * g + 5) hT hV (k := 10) (ws := [wAnd, wOr]) (by unfold isS; decide) (by decide) (by decide) (by decide) hp.1
    have hw : cI (ZZ L xs) (d + 3 * g + 6) mX8_wordAmong [.ref 1, .retAddr 11] (HP sh y) = some (HP sh y, if wdIs T s wAnd = true then 0 else if wdIs T s wOr = true then 1 else -1) := hw
    have b0 : RS (ZZ L xs) (d + 3 * g + 7) mX5_test 11 [some (.ref 195), some (.int (nI dp)), some (.int orI), some (.int 1), some (.int (nI i)), u5, u6] [] (HP sh y) = _ := bX5_test_11 (d + 3 * g + 6) 195 (nI dp) orI 1 (nI i) u5 u6 (HP sh y)
    rw [if_neg (by decide), if_neg (show ¬ (400 : Int32) ≤ nI i from nI_ge (b := 400) (by omega) (by decide)), RR_tape hRR, some_bind', Ta_is hT, some_bind', hw, some_bind'] at b0
    have hel : elp (pFa T g) T (f + 1) s (v + fa) l ho ha = if wdIs T s wAnd = true then sB (pFa T g (nx' T s) (v + fa)) fun q => elp (pFa T g) T f q.1 q.2.1 (l ++ fl ha 10 ++ q.2.2) ho true else if wdIs T s wOr = true then sB (pFa T g (nx' T s) (v + fa)) fun q => elp (pFa T g) T f q.1 q.2.1 (l ++ fl ha 10 ++ fl ho 11 ++ q.2.2) true false else .inr (s, v + fa, l ++ fl ha 10 ++ fl ho 11) := rfl
    rw [hel]
    by_cases hA : wdIs T s wAnd = true
    · have hlt := wd_lt (by decide) hA
      rw [if_pos hA]
      obtain ⟨y1, a1, a2, a3, -⟩ := v_adv (L := L) (xs := xs) (d + 3 * g + 4) hT hV hp.1
      have hp1 := PX_off hp a2 hr a3
      obtain ⟨y2, b1, b2, b3, b4, b5, b6, b7⟩ := i_addSt (L := L) (xs := xs) (d + 3 * g + 5) hC hp1 (by omega) 2 0
      obtain ⟨y3, r3, c1, c2⟩ := hF dp d (nx' T s) v sm fa (st + 1) y2 hg b2 hc hsv (by omega)
      rw [if_pos hA, if_pos (show ¬ (0 : Int32) = -1 by decide), RR_tape hRR, some_bind', Ta_is hT, some_bind', a1, some_bind', if_neg (fun z => z rfl), rr_rule hC hp1.2.1, some_bind', Ru_is hRu, some_bind', b1, some_bind', RR_is hRR, some_bind', c1, some_bind'] at b0
      have o2 : Off (Drl r) y y2 := Off_trans (Off_1r a2) b3
      rcases c2 with ⟨e, e1, e2, e3⟩ | ⟨p, e1, e2, v3, m3, f3, s3, g1, g2, g3, ⟨g4, g5, g6, g7⟩, g8, g9, g10, g11, g12⟩
      · obtain ⟨y4, q1, q2⟩ := v_landF (L := L) (xs := xs) (d + 3 * g + 5) hC e3 (nI st)
        obtain ⟨y5, w1, w2⟩ := x_endF (L := L) (xs := xs) (d + 3 * g + 5) hC q2 (nI dp) orI (nI i + 1) none none
        refine ⟨y5, 0, ?_, Or.inl ⟨e, by rw [e1]; rfl, rfl, FTr_K (v := v) o2 w2⟩⟩
        rw [b0, rr_rule hC e3.2.2.2.1, some_bind', Ru_is hRu, some_bind', q1, some_bind', bX5_test_108, e2]
        exact w1
      · obtain ⟨k1, k2, k3, k4, k5, k6⟩ := pFa_in g _ _ _ hc e1
        have h3 := g1.2.2.1.2.2.2.2
        obtain ⟨y4, q1, q2, q3, q4, q5, q6⟩ := v_land (L := L) (xs := xs) (d + 3 * g + 5) hC g1 (show st < 256 by omega)
        have hc4 : ∀ i j, (j ≤ st ∨ st < i) → Agc y3 y4 r i j := fun i j h k h1 h2 => ⟨(q5 k).1, (q5 k).2 (by omega)⟩
        have v12 : Agv y y2 r v sm := Agv_trans (Agv_off a2 hr v sm) b4 (Nat.le_refl _) (Nat.le_refl _)
        have v14 : Agv y y4 r v sm := Agv_trans v12 (Agv_trans g10 q4 g4 g5) (Nat.le_refl _) (Nat.le_refl _)
        have c14 : Agc y y4 r 0 st := Agc_trans (Agc_off a2 hr 0 st) (Agc_trans b5 (Agc_trans (j := st) (fun k h1 h2 => g11 k h1 (by omega)) (hc4 0 st (Or.inl (Nat.le_refl _))) (Nat.le_refl _) (Nat.le_refl _)) (Nat.le_refl _) (Nat.le_refl _)) (Nat.le_refl _) (Nat.le_refl _)
        have hS2 : y4.2.2.2.1 (r + 5) st = 2 := (q5 st).1.trans ((g11 st (Nat.zero_le _) (by omega)).1.trans b6)
        have hseg3 : SegP L xs y4 r (st + 1) s3 v3 m3 (fun u => decide (evl u p.2.2 = 1)) := SegP_mono g12 q4 (hc4 _ _ (Or.inr (Nat.lt_succ_self _))) (Nat.le_refl _) (Nat.le_refl _)
        have hch : ∀ x, x ≤ st → SegP L xs y r x st v sm (fun u => decide (chv ha A C u = 1)) → SegP L xs y4 r x s3 v3 m3 (fun u => decide (chv true (chv ha A C) (fun u => evl u p.2.2) u = 1)) := fun x hx hs => by
          have e : (fun u => decide (chv true (chv ha A C) (fun u => evl u p.2.2) u = 1)) = (fun u => decide (chv ha A C u = 1) && decide (evl u p.2.2 = 1)) := funext fun u => and01 (chv_T (hE.2.1 u).1 (hE.2.1 u).2.2) (k1.2.2 u)
          rw [e]
          exact Seg_and (SegP_mono hs v14 (fun k h1 h2 => c14 k (Nat.zero_le _) h2) g4 g5) hseg3 hx g7 hS2 q6
        have hI4 : TI L xs y4 r o st0 s3 v3 m3 orI ho true (chv ha A C) O (fun u => evl u p.2.2) := by
          refine ⟨fun z => ?_, fun z => ?_⟩
          · obtain ⟨i1, i2⟩ := hI.1 z
            exact ⟨i1, hch _ h0 i2⟩
          · obtain ⟨i1, i2, i3, i4, i5, i6⟩ := hI.2 z
            exact ⟨i1, i2, by omega, SegP_mono i4 v14 (fun k h1 h2 => c14 k (Nat.zero_le _) (by omega)) g4 g5, (c14 o (Nat.zero_le _) i3).1.trans i5, hch _ i3 i6⟩
        rw [e1]
        show ∃ y' rr, _ ∧ ((∃ e, elp (pFa T g) T f p.1 p.2.1 (l ++ fl ha 10 ++ p.2.2) ho true = .inl e ∧ _) ∨ ∃ p', elp (pFa T g) T f p.1 p.2.1 (l ++ fl ha 10 ++ p.2.2) ho true = .inr p' ∧ _)
        rw [← g2]
        obtain ⟨y5, r5, x1, x2⟩ := ih p.1 v3 m3 f3 s3 (i + 1) (l ++ fl ha 10 ++ p.2.2) ho true _ _ _ orI o st0 y4 none none (by omega) (by omega) (by omega) q2 g3 (by omega) (by omega) (E3_and hE k1) hI4
        have o4 : Off (Drl r) y y4 := Off_trans (Off_trans o2 g9) q3
        refine ⟨y5, r5, ?_, ?_⟩
        · rw [b0, rr_rule hC g1.2.1, some_bind', Ru_is hRu, some_bind', q1, some_bind', bX5_test_108, nI_1, e2]
          exact x1
        · rcases x2 with ⟨e, j1, j2, j3⟩ | ⟨p', j1, j2, v5, m5, f5, s5, l1, l2, l3, ⟨l4, l5, l6, l7⟩, l8, l9, l10, l11, l12⟩
          · exact Or.inl ⟨e, j1, j2, FTr_K (v := v) o4 j3⟩
          · exact Or.inr ⟨p', j1, j2, v5, m5, f5, s5, l1, l2, l3, ⟨by omega, by omega, by omega, by omega⟩, by omega, Off_trans o4 l9, Agv_trans v14 l10 g4 g5, Agc_trans (fun k h1 h2 => c14 k h1 (by omega)) l11 (Nat.le_refl _) (Nat.le_refl _), l12⟩
    · rw [if_neg hA]
      by_cases hO : wdIs T s wOr = true
      · have hlt := wd_lt (by decide) hO
        rw [if_pos hO]
        obtain ⟨y1, a1, a2, a3, -⟩ := v_adv (L := L) (xs := xs) (d + 3 * g + 4) hT hV hp.1
        have hp1 := PX_off hp a2 hr a3
        have v1 : Agv y y1 r v sm := Agv_off a2 hr v sm
        have c1 : ∀ i j, Agc y y1 r i j := fun i j => Agc_off a2 hr i j
        have hI1 : TI L xs y1 r o st0 st v sm orI ho ha A O C := ⟨fun z => ⟨(hI.1 z).1, SegP_mono (hI.1 z).2 v1 (c1 _ _) (Nat.le_refl _) (Nat.le_refl _)⟩, fun z => by
          obtain ⟨i1, i2, i3, i4, i5, i6⟩ := hI.2 z
          exact ⟨i1, i2, i3, SegP_mono i4 v1 (c1 _ _) (Nat.le_refl _) (Nat.le_refl _), ((c1 o (o + 1)) o (Nat.le_refl _) (Nat.lt_succ_self _)).1.trans i5, SegP_mono i6 v1 (c1 _ _) (Nat.le_refl _) (Nat.le_refl _)⟩⟩
        obtain ⟨y2, d1, d2, d3, d4, d5, d6⟩ := x_close (L := L) (xs := xs) (d + 3 * g + 5) hC hp1 h0 hE hI1
        obtain ⟨y3, b1, b2, b3, b4, b5, b6, b7⟩ := i_addSt (L := L) (xs := xs) (d + 3 * g + 5) hC d2 (by omega) 3 0
        obtain ⟨y4, r4, e0, c2⟩ := hF dp d (nx' T s) v sm fa (st + 1) y3 hg b2 hc hsv (by omega)
        rw [if_neg hA, if_pos hO, if_pos (show ¬ (1 : Int32) = -1 by decide), RR_tape hRR, some_bind', Ta_is hT, some_bind', a1, some_bind', if_pos (show ¬ (1 : Int32) = 0 by decide), rr_rule hC hp1.2.1, some_bind', Ru_is hRu, some_bind', d1, some_bind', rr_rule hC d2.2.1, some_bind', Ru_is hRu, some_bind', b1, some_bind', RR_is hRR, some_bind', e0, some_bind'] at b0
        have o3 : Off (Drl r) y y3 := Off_trans (Off_trans (Off_1r a2) d3) b3
        rcases c2 with ⟨e, e1, e2, e3⟩ | ⟨p, e1, e2, v3, m3, f3, s3, g1, g2, g3, ⟨g4, g5, g6, g7⟩, g8, g9, g10, g11, g12⟩
        · obtain ⟨y5, w1, w2⟩ := x_endF (L := L) (xs := xs) (d + 3 * g + 5) hC e3 (nI dp) (nI st) (nI i + 1) none none
          refine ⟨y5, 0, ?_, Or.inl ⟨e, by rw [e1]; rfl, rfl, FTr_K (v := v) o3 w2⟩⟩
          rw [b0, bX5_test_108, e2]
          exact w1
        · obtain ⟨k1, k2, k3, k4, k5, k6⟩ := pFa_in g _ _ _ hc e1
          have v13 : Agv y y3 r v sm := Agv_trans v1 (Agv_trans d4 b4 (Nat.le_refl _) (Nat.le_refl _)) (Nat.le_refl _) (Nat.le_refl _)
          have v14 : Agv y y4 r v sm := Agv_trans v13 g10 (Nat.le_refl _) (Nat.le_refl _)
          have c24 : Agc y2 y4 r 0 st := Agc_trans b5 (fun k h1 h2 => g11 k h1 (by omega)) (Nat.le_refl _) (Nat.le_refl _)
          have v24 : Agv y2 y4 r v sm := Agv_trans b4 g10 (Nat.le_refl _) (Nat.le_refl _)
          have c14 : Agc y y4 r 0 st0 := Agc_trans (c1 0 st0) (Agc_trans d5 (fun k h1 h2 => c24 k h1 (by omega)) (Nat.le_refl _) (Nat.le_refl _)) (Nat.le_refl _) (Nat.le_refl _)
          have hI4 : TI L xs y4 r st st0 s3 v3 m3 (nI st) true false A (fnv ho ha A O C) (fun u => evl u p.2.2) := by
            refine ⟨fun z => (by cases z), fun _ => ⟨rfl, h0, by omega, SegP_mono d6 v24 (fun k h1 h2 => c24 k (Nat.zero_le _) h2) g4 g5, (g11 st (Nat.zero_le _) (by omega)).1.trans b6, g12⟩⟩
          rw [e1]
          show ∃ y' rr, _ ∧ ((∃ e, elp (pFa T g) T f p.1 p.2.1 (l ++ fl ha 10 ++ fl ho 11 ++ p.2.2) true false = .inl e ∧ _) ∨ ∃ p', elp (pFa T g) T f p.1 p.2.1 (l ++ fl ha 10 ++ fl ho 11 ++ p.2.2) true false = .inr p' ∧ _)
          rw [← g2]
          obtain ⟨y5, r5, x1, x2⟩ := ih p.1 v3 m3 f3 s3 (i + 1) (l ++ fl ha 10 ++ fl ho 11 ++ p.2.2) true false _ _ _ (nI st) st st0 y4 none none (by omega) (by omega) (by omega) g1 g3 (by omega) (by omega) (E3_or hE k1) hI4
          have o4 : Off (Drl r) y y4 := Off_trans o3 g9
          refine ⟨y5, r5, ?_, ?_⟩
          · rw [b0, bX5_test_108, nI_1, e2]
            exact x1
          · rcases x2 with ⟨e, j1, j2, j3⟩ | ⟨p', j1, j2, v5, m5, f5, s5, l1, l2, l3, ⟨l4, l5, l6, l7⟩, l8, l9, l10, l11, l12⟩
            · exact Or.inl ⟨e, j1, j2, FTr_K (v := v) o4 j3⟩
            · exact Or.inr ⟨p', j1, j2, v5, m5, f5, s5, l1, l2, l3, ⟨by omega, by omega, by omega, by omega⟩, by omega, Off_trans o4 l9, Agv_trans v14 l10 g4 g5, Agc_trans c14 l11 (Nat.le_refl _) (Nat.le_refl _), l12⟩
      · rw [if_neg hO]
        obtain ⟨y2, d1, d2, d3, d4, d5, d6⟩ := x_close (L := L) (xs := xs) (d + 3 * g + 5) hC hp h0 hE hI
        refine ⟨y2, 1, ?_, Or.inr ⟨_, rfl, rfl, v, sm, fa, st, d2, rfl, hsv, ⟨Nat.le_refl _, Nat.le_refl _, Nat.le_refl _, Nat.le_refl _⟩, Nat.le_refl _, d3, d4, d5, ?_⟩⟩
        · rw [b0, if_neg hA, if_neg hO, if_neg (fun z => z rfl), bX5_test_114, rr_rule hC hp.2.1, some_bind', Ru_is hRu, some_bind', d1, some_bind', if_pos (Or.inr rfl)]
        · have e : (fun u => decide (evl u (l ++ fl ha 10 ++ fl ho 11) = 1)) = (fun u => decide (fnv ho ha A O C u = 1)) := funext fun u => by rw [(E3_end hE).2 u]
          show SegP L xs y2 r st0 st v sm (fun u => decide (evl u (l ++ fl ha 10 ++ fl ho 11) = 1))
          rw [e]
          exact d6
theorem x_test (hC : CXr sh r) (hV : VTa T) {g : Nat} (hF : FactOK L xs sh T r g) : TestOK L xs sh T r g := by
  intro dp d s v sm fa st y hg hp hc hsv hst
  have h400 := hV.1
  obtain ⟨hT, hRR, hRu, hr2⟩ := id hC
  obtain ⟨y1, r1, c1, c2⟩ := hF dp d s v sm fa st y hg hp hc hsv hst
  have b0 : CL (ZZ L xs) (d + 3 * g + 7) mX5_test [.ref 195, .int (nI dp)] (HP sh y) = _ := bX5_test_0 (d + 3 * g + 6) 195 (nI dp) (HP sh y)
  rw [RR_is hRR, some_bind', c1, some_bind'] at b0
  unfold pE
  rcases c2 with ⟨e, e1, e2, e3⟩ | ⟨p, e1, e2, v3, m3, f3, s3, g1, g2, g3, ⟨g4, g5, g6, g7⟩, g8, g9, g10, g11, g12⟩
  · obtain ⟨y5, w1, w2⟩ := x_endF (L := L) (xs := xs) (d + 3 * g + 5) hC e3 (nI dp) (-1) 0 none none
    refine ⟨y5, 0, cI_of ?_, Or.inl ⟨e, by rw [e1]; rfl, rfl, w2⟩⟩
    rw [b0, e2]
    exact w1
  · obtain ⟨k1, k2, k3, k4, k5, k6⟩ := pFa_in g _ _ _ hc e1
    rw [e1]
    show ∃ y' rr, _ ∧ ((∃ e, elp (pFa T g) T 61 p.1 p.2.1 p.2.2 false false = .inl e ∧ _) ∨ ∃ p', elp (pFa T g) T 61 p.1 p.2.1 p.2.2 false false = .inr p' ∧ _)
    rw [← g2]
    obtain ⟨y5, r5, x1, x2⟩ := x_elp (L := L) (xs := xs) hC hV hg hF d 61 p.1 v3 m3 f3 s3 0 p.2.2 false false _ _ _ (-1) 0 st y1 none none (by omega) (by omega) (Nat.zero_le _) g1 g3 (by omega) g7 (E3_beg k1) ⟨fun _ => ⟨rfl, g12⟩, fun z => by cases z⟩
    refine ⟨y5, r5, cI_of ?_, ?_⟩
    · rw [b0, e2]
      exact x1
    · rcases x2 with ⟨e, j1, j2, j3⟩ | ⟨p', j1, j2, v5, m5, f5, s5, l1, l2, l3, ⟨l4, l5, l6, l7⟩, l8, l9, l10, l11, l12⟩
      · exact Or.inl ⟨e, j1, j2, FTr_K (v := v) g9 j3⟩
      · exact Or.inr ⟨p', j1, j2, v5, m5, f5, s5, l1, l2, l3, ⟨by omega, by omega, by omega, by omega⟩, by omega, Off_trans g9 l9, Agv_trans g10 l10 g4 g5, Agc_trans g11 l11 (Nat.le_refl _) (Nat.le_refl _), l12⟩
theorem x_fact (hC : CXr sh r) (hV : VTa T) : ∀ g, FactOK L xs sh T r g := by
  have h400 := hV.1
  have hr := CXr_r hC
  obtain ⟨hT, hRR, hRu, hr2⟩ := id hC
  intro g
  induction g with
  | zero =>
    intro dp d s v sm fa st y hg hp hc hsv hst
    by_cases h1 : wdIs T s wNot = true ∨ Bt T s = 91
    · have hpf : pFa T 0 s (v + fa) = .inl (ft s 2) := if_pos h1
      obtain ⟨z, q1, q2, q3⟩ := i_refuse (L := L) (xs := xs) (d + 3) hT hp.1 2
      have q1 : cI (ZZ L xs) (d + 4) mX8_refuse [.ref 1, .int 2] (HP sh y) = some (HP sh z, 0) := q1
      have hin : cI (ZZ L xs) (d + 5) mX5_innerFact [.ref 195, .int (nI dp)] (HP sh y) = some (HP sh z, 0) := by
        refine cI_of ?_
        show RS (ZZ L xs) (d + 5) mX5_innerFact 0 [some (.ref 195), some (.int (nI dp)), none, none] [] _ = _
        rw [bX5_innerFact_0, if_neg (show ¬ nI dp < 10 from nI_nlt (b := 10) (by omega) (by omega)), RR_tape hRR, some_bind', Ta_is hT, some_bind', q1, some_bind', if_pos (Or.inl rfl)]
      have b26 : ∀ u2 u3 : Option Value, RS (ZZ L xs) (d + 6) mX5_fact 26 [some (.ref 195), some (.int (nI dp)), u2, u3] [] (HP sh y) = some (HP sh z, some (.int 0)) := fun u2 u3 => by
        rw [bX5_fact_26, RR_is hRR, some_bind', hin, some_bind', if_pos (Or.inl rfl)]
      refine ⟨z, 0, cI_of ?_, Or.inl ⟨ft s 2, hpf, rfl, Off_1r q2, q3.2.2.2.2.2, by have := hp.1.2.1; unfold ft; omega, RB_of hp q2 hr⟩⟩
      have hw := i_word1 (L := L) (xs := xs) (d + 4) hT hV (k := 6) (w := wNot) (by unfold isS; decide) (by decide) (by decide) (by decide) hp.1
      show RS (ZZ L xs) (d + 6) mX5_fact 0 [some (.ref 195), some (.int (nI dp)), none, none] [] _ = _
      rw [bX5_fact_0, RR_tape hRR, some_bind', Ta_is hT, some_bind', hw, some_bind']
      by_cases hn : wdIs T s wNot = true
      · rw [if_pos hn, if_pos (show ¬ (0 : Int32) = -1 by decide), b26]
      · obtain ⟨w1, g1, g2⟩ := i_sg91 (L := L) (xs := xs) (d + 4) hT hV (k := 7) (b := 91) (Or.inl rfl) (by unfold isS; decide) hp.1
        rw [if_neg hn, if_neg (fun z => z rfl), RR_tape hRR, some_bind', Ta_is hT, some_bind', g1, some_bind', if_neg (fun z => (g2.mp z) (h1.resolve_left hn)), b26]
    · have hpf : pFa T 0 s (v + fa) = pC T s (v + fa) := if_neg h1
      rw [hpf]
      exact x_cmpF d hC hV (nI dp) hp hc hsv hst (fun z => h1 (Or.inl z)) (fun z => h1 (Or.inr z))
  | succ g ih =>
    intro dp d s v sm fa st y hg hp hc hsv hst
    have hTe := x_test hC hV ih
    have hpf : pFa T (g + 1) s (v + fa) = if wdIs T s wNot = true then sB (pFa T g (nx' T s) (v + fa)) fun q => .inr (q.1, q.2.1, q.2.2 ++ [(9, 0)]) else if Bt T s = 91 then sB (pE (pFa T g) T (nx' T s) (v + fa)) fun q => if Bt T q.1 = 93 then .inr (nx' T q.1, q.2.1, q.2.2) else .inl (ft q.1 0) else pC T s (v + fa) := rfl
    rw [hpf]
    have ed : d + 3 * (g + 1) + 6 = (d + 3 * g + 8) + 1 := by omega
    rw [ed]
    have hdp : nI dp < 10 := nI_lt (b := 10) (by omega) (by decide)
    obtain ⟨y1, a1, a2, a3, -⟩ := v_adv (L := L) (xs := xs) (d + 3 * g + 5) hT hV hp.1
    have hp1 := PX_off hp a2 hr a3
    have hw := i_word1 (L := L) (xs := xs) (d + 3 * g + 7) hT hV (k := 6) (w := wNot) (by unfold isS; decide) (by decide) (by decide) (by decide) hp.1
    by_cases hn : wdIs T s wNot = true
    · have hlt := wd_lt (by decide) hn
      have hkd := (wdIs_en (by decide) hn).1
      have w5 : s + 3 ≤ nx' T s := by
        obtain ⟨q1, q2⟩ := wdIs_en (by decide) hn
        have := rn_le isB T (en T s)
        have w5 : wNot.length = 3 := rfl
        unfold nx'
        omega
      rw [if_pos hn]
      obtain ⟨y2, r2, c1, c2⟩ := ih (dp + 1) (d + 1) (nx' T s) v sm fa st y1 (by omega) hp1 hc hsv (by omega)
      have hin : ∀ (R : Option (PH × Option Value)), (RS (ZZ L xs) (d + 3 * g + 8) mX5_innerFact 0 [some (.ref 195), some (.int (nI dp)), none, none] [] (HP sh y) = R) → CL (ZZ L xs) (d + 3 * g + 8) mX5_innerFact [.ref 195, .int (nI dp)] (HP sh y) = R := fun R h => h
      have hb : RS (ZZ L xs) (d + 3 * g + 8) mX5_innerFact 0 [some (.ref 195), some (.int (nI dp)), none, none] [] (HP sh y) = (cI (ZZ L xs) (d + 3 * g + 7) mX5_fact [.ref 195, .int (nI (dp + 1))] (HP sh y1)).bind fun p47 => (fR p47.1 (.ref 195) 5 1).bind fun x52 => (iO p47.1 x52 4).bind fun b57 => (cI (ZZ L xs) (d + 3 * g + 7) mX4_addStep [.ref b57, .int 1, .int 0] p47.1).bind fun p57 => if (p47.2 : Int32) = 0 ∨ (p47.2 : Int32) = 1 then some (p57.1, some (.int p47.2)) else none := by
        rw [bX5_innerFact_0, if_pos hdp, RR_tape hRR, some_bind', Ta_kind hT, some_bind', hp.1.2.2.2.1, hkd, if_neg (fun z => z rfl), bX5_innerFact_31, RR_tape hRR, some_bind', Ta_is hT, some_bind', a1, some_bind', if_neg (by decide), RR_is hRR, some_bind', nI_1]
      have c1 : cI (ZZ L xs) (d + 3 * g + 7) mX5_fact [.ref 195, .int (nI (dp + 1))] (HP sh y1) = some (HP sh y2, r2) := by
        have e : d + 1 + 3 * g + 6 = d + 3 * g + 7 := by omega
        rw [← e]
        exact c1
      rw [c1, some_bind'] at hb
      have wrap : ∀ {z : ST} {w : Int32}, (w = 0 ∨ w = 1) → RS (ZZ L xs) (d + 3 * g + 8) mX5_innerFact 0 [some (.ref 195), some (.int (nI dp)), none, none] [] (HP sh y) = some (HP sh z, some (.int w)) → cI (ZZ L xs) (d + 3 * g + 8 + 1) mX5_fact [.ref 195, .int (nI dp)] (HP sh y) = some (HP sh z, w) := fun {z w} h01 h => by
        refine cI_of ?_
        show RS (ZZ L xs) (d + 3 * g + 8 + 1) mX5_fact 0 [some (.ref 195), some (.int (nI dp)), none, none] [] _ = _
        rw [bX5_fact_0, RR_tape hRR, some_bind', Ta_is hT, some_bind', hw, some_bind', if_pos hn, if_pos (show ¬ (0 : Int32) = -1 by decide), bX5_fact_26, RR_is hRR, some_bind', cI_of (hin _ h), some_bind', if_pos h01]
      rcases c2 with ⟨e, e1, e2, e3⟩ | ⟨p, e1, e2, v3, m3, f3, s3, g1, g2, g3, ⟨g4, g5, g6, g7⟩, g8, g9, g10, g11, g12⟩
      · obtain ⟨y3, w, q1, q2⟩ := i_stepF (L := L) (xs := xs) (d + 3 * g + 6) hC e3 1 0
        rw [rr_rule hC e3.2.2.2.1, some_bind', Ru_is hRu, some_bind', q1, some_bind', if_pos (Or.inl e2), e2] at hb
        exact ⟨y3, 0, wrap (Or.inl rfl) hb, Or.inl ⟨e, by rw [e1]; rfl, rfl, FTr_K (v := v) (Off_1r a2) q2⟩⟩
      · obtain ⟨k1, k2, k3, k4, k5, k6⟩ := pFa_in g _ _ _ hc e1
        obtain ⟨y3, b1, b2, b3, b4, b5, b6, b7⟩ := i_addSt (L := L) (xs := xs) (d + 3 * g + 6) hC g1 (by omega) 1 0
        rw [rr_rule hC g1.2.1, some_bind', Ru_is hRu, some_bind', b1, some_bind', if_pos (Or.inr e2), e2] at hb
        have hse : SegP L xs y3 r st s3 v3 m3 (fun u => decide (evl u p.2.2 = 1)) := SegP_mono g12 b4 (fun k h1 h2 => b5 k (Nat.zero_le _) h2) (Nat.le_refl _) (Nat.le_refl _)
        refine ⟨y3, 1, wrap (Or.inr rfl) hb, Or.inr ⟨(p.1, p.2.1, p.2.2 ++ [(9, 0)]), by rw [e1]; rfl, rfl, v3, m3, f3, s3 + 1, b2, g2, g3, ⟨g4, g5, g6, by omega⟩, by show 2 * (s3 + 1) + s ≤ 2 * st + p.1; omega, Off_trans (Off_trans (Off_1r a2) g9) b3, Agv_trans (Agv_off a2 hr v sm) (Agv_trans g10 b4 g4 g5) (Nat.le_refl _) (Nat.le_refl _), Agc_trans (Agc_off a2 hr 0 st) (Agc_trans g11 b5 (Nat.le_refl _) g7) (Nat.le_refl _) (Nat.le_refl _), ?_⟩⟩
        have e : (fun u => decide (evl u (p.2.2 ++ [(9, 0)]) = 1)) = (fun u => !decide (evl u p.2.2 = 1)) := funext fun u => by rw [evl_N k1.1, not01 (k1.2.2 u)]
        show SegP L xs y3 r st (s3 + 1) v3 m3 (fun u => decide (evl u (p.2.2 ++ [(9, 0)]) = 1))
        rw [e]
        exact Seg_not hse g7 b6
    · rw [if_neg hn]
      obtain ⟨w1, t1, t2⟩ := i_sg91 (L := L) (xs := xs) (d + 3 * g + 7) hT hV (k := 7) (b := 91) (Or.inl rfl) (by unfold isS; decide) hp.1
      by_cases hb9 : Bt T s = 91
      · rw [if_pos hb9]
        have hkd := (kd_sg hb9 (by decide) (by decide) (by decide)).1
        have hlt := nx_lt (Bt_s (T := T) (s := s) (by omega))
        obtain ⟨y2, r2, c1, c2⟩ := hTe (dp + 1) d (nx' T s) v sm fa st y1 (by omega) hp1 hc hsv (by omega)
        have hin : ∀ (R : Option (PH × Option Value)), (RS (ZZ L xs) (d + 3 * g + 8) mX5_innerFact 0 [some (.ref 195), some (.int (nI dp)), none, none] [] (HP sh y) = R) → CL (ZZ L xs) (d + 3 * g + 8) mX5_innerFact [.ref 195, .int (nI dp)] (HP sh y) = R := fun R h => h
        have hb : RS (ZZ L xs) (d + 3 * g + 8) mX5_innerFact 0 [some (.ref 195), some (.int (nI dp)), none, none] [] (HP sh y) = _ := bX5_innerFact_0 (d + 3 * g + 7) 195 (nI dp) (HP sh y)
        rw [if_pos hdp, RR_tape hRR, some_bind', Ta_kind hT, some_bind', hp.1.2.2.2.1, hkd, if_pos (by decide), bX5_innerFact_31, RR_tape hRR, some_bind', Ta_is hT, some_bind', a1, some_bind', if_pos rfl, RR_is hRR, some_bind', nI_1, c1, some_bind'] at hb
        have wrap : ∀ {z : ST} {w : Int32}, (w = 0 ∨ w = 1) → RS (ZZ L xs) (d + 3 * g + 8) mX5_innerFact 0 [some (.ref 195), some (.int (nI dp)), none, none] [] (HP sh y) = some (HP sh z, some (.int w)) → cI (ZZ L xs) (d + 3 * g + 8 + 1) mX5_fact [.ref 195, .int (nI dp)] (HP sh y) = some (HP sh z, w) := fun {z w} h01 h => by
          refine cI_of ?_
          show RS (ZZ L xs) (d + 3 * g + 8 + 1) mX5_fact 0 [some (.ref 195), some (.int (nI dp)), none, none] [] _ = _
          rw [bX5_fact_0, RR_tape hRR, some_bind', Ta_is hT, some_bind', hw, some_bind', if_neg hn, if_neg (fun z => z rfl), RR_tape hRR, some_bind', Ta_is hT, some_bind', t1, some_bind', if_neg (fun z => (t2.mp z) hb9), bX5_fact_26, RR_is hRR, some_bind', cI_of (hin _ h), some_bind', if_pos h01]
        rcases c2 with ⟨e, e1, e2, e3⟩ | ⟨p, e1, e2, v3, m3, f3, s3, g1, g2, g3, ⟨g4, g5, g6, g7⟩, g8, g9, g10, g11, g12⟩
        · rw [if_neg (fun z => z e2), if_pos (Or.inl rfl)] at hb
          exact ⟨y2, 0, wrap (Or.inl rfl) hb, Or.inl ⟨e, by rw [e1]; rfl, rfl, FTr_K (v := v) (Off_1r a2) e3⟩⟩
        · obtain ⟨w2, t3, t4⟩ := i_sg91 (L := L) (xs := xs) (d + 3 * g + 6) hT hV (k := 8) (b := 93) (Or.inr rfl) (by unfold isS; decide) g1.1
          rw [if_pos (show ¬ r2 = 0 by rw [e2]; decide), RR_tape hRR, some_bind', Ta_is hT, some_bind', t3, some_bind'] at hb
          rw [e1]
          show ∃ y' rr, _ ∧ ((∃ e, (if Bt T p.1 = 93 then .inr (nx' T p.1, p.2.1, p.2.2) else .inl (ft p.1 0)) = Sum.inl e ∧ _) ∨ ∃ p', (if Bt T p.1 = 93 then .inr (nx' T p.1, p.2.1, p.2.2) else .inl (ft p.1 0)) = Sum.inr p' ∧ _)
          by_cases h93 : Bt T p.1 = 93
          · rw [if_pos h93]
            have hlt2 := nx_lt (Bt_s (T := T) (s := p.1) (by omega))
            obtain ⟨y3, u1, u2, u3, -⟩ := v_adv (L := L) (xs := xs) (d + 3 * g + 5) hT hV g1.1
            rw [if_pos (fun z => (t4.mp z) h93), RR_tape hRR, some_bind', Ta_is hT, some_bind', u1, some_bind', if_pos (Or.inr rfl)] at hb
            refine ⟨y3, 1, wrap (Or.inr rfl) hb, Or.inr ⟨_, rfl, rfl, v3, m3, f3, s3, PX_off g1 u2 hr u3, g2, g3, ⟨g4, g5, g6, g7⟩, by show 2 * s3 + s ≤ 2 * st + nx' T p.1; omega, Off_trans (Off_trans (Off_1r a2) g9) (Off_1r u2), Agv_trans (Agv_off a2 hr v sm) (Agv_trans g10 (Agv_off u2 hr v3 m3) g4 g5) (Nat.le_refl _) (Nat.le_refl _), Agc_trans (Agc_off a2 hr 0 st) (Agc_trans g11 (Agc_off u2 hr 0 st) (Nat.le_refl _) (Nat.le_refl _)) (Nat.le_refl _) (Nat.le_refl _), SegP_mono g12 (Agv_off u2 hr _ _) (Agc_off u2 hr _ _) (Nat.le_refl _) (Nat.le_refl _)⟩⟩
          · rw [if_neg h93]
            obtain ⟨z, q1, q2, q3⟩ := i_refuse (L := L) (xs := xs) (d + 3 * g + 6) hT g1.1 0
            have q1 : cI (ZZ L xs) (d + 3 * g + 7) mX8_refuse [.ref 1, .int 0] (HP sh y2) = some (HP sh z, 0) := q1
            rw [if_neg (fun z => z (t4.mpr h93)), RR_tape hRR, some_bind', Ta_is hT, some_bind', q1, some_bind', if_pos (Or.inl rfl)] at hb
            exact ⟨z, 0, wrap (Or.inl rfl) hb, Or.inl ⟨_, rfl, rfl, Off_trans (Off_trans (Off_1r a2) g9) (Off_1r q2), q3.2.2.2.2.2, by have := g1.1.2.1; unfold ft; omega, RB_of g1 q2 hr⟩⟩
      · rw [if_neg hb9]
        have := x_cmpF (L := L) (xs := xs) (d + 3 * g + 3) hC hV (nI dp) hp hc hsv hst hn hb9
        have e : d + 3 * g + 3 + 6 = d + 3 * g + 8 + 1 := by omega
        rw [e] at this
        exact this
end RX5
