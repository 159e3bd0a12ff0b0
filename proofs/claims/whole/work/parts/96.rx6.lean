/-! the class's reader of rules, whole -/
def rdo (u : Nat → Int64) : List (EL × EL) → Option Int64
  | [] => none
  | q :: cl => if q.2.length = 0 ∨ evl u q.2 = 1 then some (evl u q.1) else rdo u cl
theorem rdl_o (u : Nat → Int64) : ∀ cl, rdl u cl = (rdo u cl).getD 0
  | [] => rfl
  | q :: cl => by
    show (if q.2.length = 0 ∨ evl u q.2 = 1 then evl u q.1 else rdl u cl) = (if q.2.length = 0 ∨ evl u q.2 = 1 then some (evl u q.1) else rdo u cl).getD 0
    by_cases h : q.2.length = 0 ∨ evl u q.2 = 1
    · rw [if_pos h, if_pos h]
      rfl
    · rw [if_neg h, if_neg h, rdl_o u cl]
theorem rdo_app (u : Nat → Int64) (q : EL × EL) : ∀ cl, rdo u (cl ++ [q]) = match rdo u cl with
    | some v => some v
    | none => if q.2.length = 0 ∨ evl u q.2 = 1 then some (evl u q.1) else none
  | [] => rfl
  | p :: cl => by
    show (if p.2.length = 0 ∨ evl u p.2 = 1 then some (evl u p.1) else rdo u (cl ++ [q])) = match (if p.2.length = 0 ∨ evl u p.2 = 1 then some (evl u p.1) else rdo u cl) with
      | some v => some v
      | none => if q.2.length = 0 ∨ evl u q.2 = 1 then some (evl u q.1) else none
    by_cases h : p.2.length = 0 ∨ evl u p.2 = 1
    · rw [if_pos h, if_pos h]
    · rw [if_neg h, if_neg h, rdo_app u q cl]
section RX6
variable {L : Nat} {xs : Nat → Int32} {sh : List Sh} {T : TP} {r : Nat}
/-- the code of clauses -/
def CodeP (L : Nat) (xs : Nat → Int32) (y : ST) (r st v sm : Nat) (cl : List (EL × EL)) : Prop := ∀ (sh : List Sh) (z : ST) (a d N S : Nat), isRu sh r → sh[a]? = some (.inl (0, 12)) → z.1 r 7 = nI N → st ≤ N → N ≤ 256 → z.1 r 3 = nI S → sm ≤ S → S ≤ 60 → Agv y z r v sm → Agc y z r 0 st → ∀ h, (∀ val, rdo (uW (z.2.2.2.1 a)) cl = some val → Rw L xs sh z r a d 0 h = some (HP sh z, some (.long val))) ∧ (rdo (uW (z.2.2.2.1 a)) cl = none → ∃ h', Rw L xs sh z r a d 0 h = Rw L xs sh z r a d st h')
theorem CodeP_mono {y y' : ST} {st v sm v' sm' : Nat} {cl : List (EL × EL)} (h : CodeP L xs y r st v sm cl) (g : Agv y y' r v sm) (gc : Agc y y' r 0 st) (h1 : v ≤ v') (h2 : sm ≤ sm') : CodeP L xs y' r st v' sm' cl := fun sh z a d N S a1 a2 a3 a4 a5 a6 a7 a8 a9 a10 => h sh z a d N S a1 a2 a3 a4 a5 a6 (by omega) a8 (Agv_trans g a9 h1 h2) (Agc_trans gc a10 (Nat.le_refl _) (Nat.le_refl _))
theorem w_ans {sh : List Sh} {z : ST} {a d N i q v sm S : Nat} {y : ST} {E : (Nat → Int64) → Int64} (hR : isRu sh r) (ha : sh[a]? = some (.inl (0, 12))) (hN : z.1 r 7 = nI N) (hi : i < N) (hN256 : N ≤ 256) (h : Bool) (hs : z.2.2.2.1 (r + 5) i = 4) (hw : z.2.2.2.1 (r + 6) i = nI q) (hE : SumP L xs y r q v sm E) (hS : z.1 r 3 = nI S) (hsm : sm ≤ S) (hS60 : S ≤ 60) (hg : Agv y z r v sm) : Rw L xs sh z r a d i h = some (HP sh z, some (.long (E (uW (z.2.2.2.1 a))))) := by
  rw [w_start hR hN hi hN256 h hs hw, if_neg (by decide), if_neg (by decide), if_neg (by decide), if_pos rfl, bX4_worth_109 (hv1 := rfl), Ru_is hR, some_bind', hE sh z a d S hR ha hS hsm hS60 hg, some_bind']
/-- one clause more -/
theorem Code_plain {y : ST} {st v sm q : Nat} {cl : List (EL × EL)} {l1 : EL} (h : CodeP L xs y r st v sm cl) (hE : SumP L xs y r q v sm (fun u => evl u l1)) (hs : y.2.2.2.1 (r + 5) st = 4) (hw : y.2.2.2.1 (r + 6) st = nI q) : CodeP L xs y r (st + 1) v sm (cl ++ [(l1, [])]) := fun sh z a d N S a1 a2 a3 a4 a5 a6 a7 a8 a9 a10 b => by
  obtain ⟨c1, c2⟩ := h sh z a d N S a1 a2 a3 (by omega) a5 a6 a7 a8 a9 (fun k q1 q2 => a10 k q1 (by omega)) b
  rw [rdo_app]
  cases hr : rdo (uW (z.2.2.2.1 a)) cl with
  | some w =>
    refine ⟨fun val hv => ?_, fun hn => by cases hn⟩
    cases hv
    exact c1 _ hr
  | none =>
    obtain ⟨h', e⟩ := c2 hr
    refine ⟨fun val hv => ?_, fun hn => ?_⟩
    · have hv : (if ([] : EL).length = 0 ∨ evl (uW (z.2.2.2.1 a)) [] = 1 then some (evl (uW (z.2.2.2.1 a)) l1) else none) = some val := hv
      rw [if_pos (show ([] : EL).length = 0 ∨ evl (uW (z.2.2.2.1 a)) [] = 1 from Or.inl rfl)] at hv
      cases hv
      rw [e]
      exact w_ans a1 a2 a3 (by omega) a5 _ ((a10 st (Nat.zero_le _) (by omega)).1.trans hs) ((a10 st (Nat.zero_le _) (by omega)).2.trans hw) hE a6 a7 a8 a9
    · have hn : (if ([] : EL).length = 0 ∨ evl (uW (z.2.2.2.1 a)) [] = 1 then some (evl (uW (z.2.2.2.1 a)) l1) else none) = none := hn
      rw [if_pos (show ([] : EL).length = 0 ∨ evl (uW (z.2.2.2.1 a)) [] = 1 from Or.inl rfl)] at hn
      cases hn
theorem Code_test {y : ST} {st k v sm q : Nat} {cl : List (EL × EL)} {l1 l2 : EL} (h : CodeP L xs y r st v sm cl) (hne : l2 ≠ []) (hsk : st ≤ k) (hg : SegP L xs y r st k v sm (fun u => decide (evl u l2 = 1))) (hs2 : y.2.2.2.1 (r + 5) k = 2) (hw2 : y.2.2.2.1 (r + 6) k = nI (k + 2)) (hE : SumP L xs y r q v sm (fun u => evl u l1)) (hs : y.2.2.2.1 (r + 5) (k + 1) = 4) (hw : y.2.2.2.1 (r + 6) (k + 1) = nI q) : CodeP L xs y r (k + 2) v sm (cl ++ [(l1, l2)]) := fun sh z a d N S a1 a2 a3 a4 a5 a6 a7 a8 a9 a10 b => by
  obtain ⟨c1, c2⟩ := h sh z a d N S a1 a2 a3 (by omega) a5 a6 a7 a8 a9 (fun k q1 q2 => a10 k q1 (by omega)) b
  have hl : ¬ l2.length = 0 := fun z => hne (List.eq_nil_of_length_eq_zero z)
  rw [rdo_app]
  cases hr : rdo (uW (z.2.2.2.1 a)) cl with
  | some w =>
    refine ⟨fun val hv => ?_, fun hn => by cases hn⟩
    cases hv
    exact c1 _ hr
  | none =>
    obtain ⟨h', e⟩ := c2 hr
    have e2 := hg sh z a d N S a1 a2 a3 (by omega) a5 a6 a7 a8 a9 (fun i q1 q2 => a10 i (Nat.zero_le _) (by omega)) h'
    have e3 := w_unl (L := L) (xs := xs) (a := a) (d := d) a1 a3 (show k < N by omega) a5 (decide (evl (uW (z.2.2.2.1 a)) l2 = 1)) ((a10 k (Nat.zero_le _) (by omega)).1.trans hs2) ((a10 k (Nat.zero_le _) (by omega)).2.trans hw2) (by omega) (by omega)
    by_cases ht : evl (uW (z.2.2.2.1 a)) l2 = 1
    · refine ⟨fun val hv => ?_, fun hn => ?_⟩
      · have hv : (if l2.length = 0 ∨ evl (uW (z.2.2.2.1 a)) l2 = 1 then some (evl (uW (z.2.2.2.1 a)) l1) else none) = some val := hv
        rw [if_pos (Or.inr ht)] at hv
        cases hv
        rw [e, e2, e3, decide_eq_true ht, if_pos rfl]
        exact w_ans a1 a2 a3 (by omega) a5 _ ((a10 (k + 1) (Nat.zero_le _) (by omega)).1.trans hs) ((a10 (k + 1) (Nat.zero_le _) (by omega)).2.trans hw) hE a6 a7 a8 a9
      · have hn : (if l2.length = 0 ∨ evl (uW (z.2.2.2.1 a)) l2 = 1 then some (evl (uW (z.2.2.2.1 a)) l1) else none) = none := hn
        rw [if_pos (Or.inr ht)] at hn
        cases hn
    · have hf : ¬ (l2.length = 0 ∨ evl (uW (z.2.2.2.1 a)) l2 = 1) := fun q => q.elim hl ht
      refine ⟨fun val hv => ?_, fun _ => ⟨false, ?_⟩⟩
      · have hv : (if l2.length = 0 ∨ evl (uW (z.2.2.2.1 a)) l2 = 1 then some (evl (uW (z.2.2.2.1 a)) l1) else none) = some val := hv
        rw [if_neg hf] at hv
        cases hv
      · rw [e, e2, e3, decide_eq_false ht, if_neg (by decide)]
/-- such a rule answers -/
theorem RuD_of {y : ST} {st v sm fa : Nat} {cl : List (EL × EL)} (hRu : isRu sh r) (hs : RSt y r v sm fa st) (h : CodeP L xs y r st v sm cl) : RuD L xs sh y r (rDn cl) := by
  obtain ⟨⟨b1, b2, b3, b4⟩, c1, c2, c3, c4⟩ := hs
  refine ⟨hRu, fun sh' z a d a1 a2 a3 => cJ_of ?_⟩
  have hN : z.1 r 7 = nI st := by rw [(a3 r (Nat.le_refl _) (by omega)).1]; exact b4
  have hS : z.1 r 3 = nI sm := by rw [(a3 r (Nat.le_refl _) (by omega)).1]; exact b2
  have ea : ∀ j, j < 7 → z.2.2.2.1 (r + j) = y.2.2.2.1 (r + j) := fun j hj => (a3 (r + j) (by omega) (by omega)).2
  obtain ⟨q1, q2⟩ := h sh' z a d st sm a1 a2 hN (Nat.le_refl _) c4 hS (Nat.le_refl _) c2 ⟨fun k _ => ⟨by rw [ea 1 (by decide)], by rw [ea 2 (by decide)]⟩, fun k _ => ⟨by rw [ea 3 (by decide)], by rw [ea 4 (by decide)]⟩⟩ (fun k _ _ => ⟨by rw [ea 5 (by decide)], by rw [ea 6 (by decide)]⟩) true
  have hst : CL (ZZ L xs) (d + 2) mX4_worth [.ref r, .ref a] (HP sh' z) = Rw L xs sh' z r a d 0 true := bX4_worth_0 (d + 1) r (.ref a) rfl (HP sh' z)
  rw [hst]
  show _ = some (HP sh' z, some (Value.long (rdl (uW (z.2.2.2.1 a)) cl)))
  rw [rdl_o]
  cases hr : rdo (uW (z.2.2.2.1 a)) cl with
  | some w => exact q1 w hr
  | none =>
    obtain ⟨h', e⟩ := q2 hr
    rw [e]
    unfold Rw
    rw [bX4_worth_4 (hv1 := rfl), Ru_steps a1, some_bind', hN, if_pos (nI_le (Nat.le_refl _) (by omega))]
    rfl
/-- behind a fault the reader ends -/
theorem x_endR (d : Nat) (hC : CXr sh r) {x y : ST} {e : Nat} (h : FTr x y r e) (n i4 i6 : Int32) (u1 u2 : Option Value) : ∃ y', RS (ZZ L xs) (d + 2) mX5_read 112 [some (.ref 195), u1, u2, some (.int n), some (.int i4), some (.int 0), some (.int i6)] [] (HP sh y) = some (HP sh y', some (.int 0)) ∧ FTr x y' r e := by
  obtain ⟨hT, hRR, hRu, hr2⟩ := id hC
  obtain ⟨y1, w, q1, q2⟩ := i_stepF (L := L) (xs := xs) d hC h 4 i4
  obtain ⟨y2, q3, q4⟩ := v_landF (L := L) (xs := xs) d hC q2 i6
  refine ⟨y2, ?_, q4⟩
  rw [bX5_read_112, rr_rule hC h.2.2.2.1, some_bind', Ru_is hRu, some_bind', q1, some_bind', rr_rule hC q2.2.2.2.1, some_bind', Ru_is hRu, some_bind', q3, some_bind', if_pos rfl, bX5_read_151, bX5_read_152, bX5_read_23, if_pos rfl, bX5_read_159, RR_tape hRR, some_bind', Ta_fault hT, some_bind', q4.2.1, if_pos (nI_ne0 q4.2.2.1.1 (by have := q4.2.2.1.2; omega)), bX5_read_174, if_pos (Or.inl rfl)]
theorem x_stop (d : Nat) (hC : CXr sh r) {z : ST} (n : Int32) (u1 u2 u4 u5 u6 : Option Value) : RS (ZZ L xs) (d + 1) mX5_read 151 [some (.ref 195), u1, u2, some (.int n), u4, u5, u6] [] (HP sh z) = some (HP sh z, some (.int (if z.1 1 4 = 0 then 1 else 0))) := by
  obtain ⟨hT, hRR, hRu, hr2⟩ := id hC
  rw [bX5_read_151, bX5_read_152, bX5_read_23, if_pos rfl, bX5_read_159, RR_tape hRR, some_bind', Ta_fault hT, some_bind']
  by_cases h : z.1 1 4 = 0
  · rw [if_neg (fun k => k h), bX5_read_174, if_pos (Or.inr rfl), if_pos h]
  · rw [if_pos h, bX5_read_174, if_pos (Or.inl rfl), if_neg h]
theorem x_readL (hC : CXr sh r) (hV : VTa T) (d : Nat) : ∀ (f n s v sm fa st : Nat) (cl : List (EL × EL)) (y : ST) (u1 u4 u5 u6 : Option Value), f + n = 13 → n ≤ 12 → PX y T s r v sm fa st → v + fa ≤ 60 → sm ≤ v → 2 * st ≤ s → CodeP L xs y r st v sm cl → ∃ y' rr, RS (ZZ L xs) (d + 38) mX5_read 23 [some (.ref 195), u1, some (.int 1), some (.int (nI n)), u4, u5, u6] [] (HP sh y) = some (HP sh y', some (.int rr)) ∧ ((∃ e, rRd T f n s (v + fa) cl = .inl e ∧ rr = 0 ∧ FTr y y' r e) ∨ ∃ cl', rRd T f n s (v + fa) cl = .inr cl' ∧ rr = 1 ∧ Off (Drl r) y y' ∧ ∃ v' sm' fa' st', RSt y' r v' sm' fa' st' ∧ CodeP L xs y' r st' v' sm' cl') := by
  have h400 := hV.1
  have hr := CXr_r hC
  obtain ⟨hT, hRR, hRu, hr2⟩ := id hC
  intro f
  induction f with
  | zero => intro n s v sm fa st cl y u1 u4 u5 u6 h1 h2; omega
  | succ f ih =>
    intro n s v sm fa st cl y u1 u4 u5 u6 hf hn hp hc hsv hst hcode
    have hsT := hp.1.2.1
    obtain ⟨y1, n1, m1, a1, a2, a3, a4, a5, a6, a7⟩ := i_beginS (L := L) (xs := xs) (d + 36) hC hp (fun z => by omega)
    have hw := i_word1 (L := L) (xs := xs) (d + 35) hT hV (k := 2) (w := wAsk) (by unfold isS; decide) (by decide) (by decide) (by decide) a3.1
    have b0 : RS (ZZ L xs) (d + 38) mX5_read 23 [some (.ref 195), u1, some (.int 1), some (.int (nI n)), u4, u5, u6] [] (HP sh y) = _ := bX5_read_23 (d + 37) 195 u1 1 (nI n) u4 u5 u6 (HP sh y)
    rw [if_neg (by decide), if_neg (show ¬ (12 : Int32) < nI n from nI_nlt (a := 12) hn (by decide)), rr_rule hC hp.2.1, some_bind', Ru_is hRu, some_bind', a1, some_bind', RR_is hRR, some_bind'] at b0
    have hrd : rRd T (f + 1) n s (v + fa) cl = sB (pR T n s (v + fa)) fun q => if T.1 ≤ q.1 then .inr (cl ++ [(q.2.2.1, q.2.2.2)]) else if Bt T q.1 = 59 then rRd T f (n + 1) (nx' T q.1) q.2.1 (cl ++ [(q.2.2.1, q.2.2.2)]) else .inl (ft q.1 0) := rfl
    have failed : ∀ {z : ST} {e : Nat} (i4 i6 : Int32) (w1 w2 : Option Value), FTr y z r e → pR T n s (v + fa) = .inl e → RS (ZZ L xs) (d + 38) mX5_read 23 [some (.ref 195), u1, some (.int 1), some (.int (nI n)), u4, u5, u6] [] (HP sh y) = RS (ZZ L xs) (d + 38) mX5_read 112 [some (.ref 195), w1, w2, some (.int (nI n)), some (.int i4), some (.int 0), some (.int i6)] [] (HP sh z) → ∃ y' rr, RS (ZZ L xs) (d + 38) mX5_read 23 [some (.ref 195), u1, some (.int 1), some (.int (nI n)), u4, u5, u6] [] (HP sh y) = some (HP sh y', some (.int rr)) ∧ ((∃ e, rRd T (f + 1) n s (v + fa) cl = .inl e ∧ rr = 0 ∧ FTr y y' r e) ∨ ∃ cl', rRd T (f + 1) n s (v + fa) cl = .inr cl' ∧ rr = 1 ∧ Off (Drl r) y y' ∧ ∃ v' sm' fa' st', RSt y' r v' sm' fa' st' ∧ CodeP L xs y' r st' v' sm' cl') := fun {z e} i4 i6 w1 w2 hz he h => by
      obtain ⟨y', q1, q2⟩ := x_endR (L := L) (xs := xs) (d + 36) hC hz (nI n) i4 i6 w1 w2
      exact ⟨y', 0, h.trans q1, Or.inl ⟨e, by rw [hrd, he]; rfl, rfl, q2⟩⟩
    have o1 := a4
    -- where a clause can't begin
    have nobeg : ∀ (c : Nat), c ≤ 4 → pR T n s (v + fa) = .inl (ft s c) → (∀ (z : ST), cI (ZZ L xs) (d + 36) mX8_refuse [.ref 1, .int (nI c)] (HP sh y1) = some (HP sh z, 0) → cI (ZZ L xs) (d + 37) mX5_clauseBegins [.ref 195, .int (nI n)] (HP sh y1) = some (HP sh z, 0)) → ∃ y' rr, RS (ZZ L xs) (d + 38) mX5_read 23 [some (.ref 195), u1, some (.int 1), some (.int (nI n)), u4, u5, u6] [] (HP sh y) = some (HP sh y', some (.int rr)) ∧ ((∃ e, rRd T (f + 1) n s (v + fa) cl = .inl e ∧ rr = 0 ∧ FTr y y' r e) ∨ ∃ cl', rRd T (f + 1) n s (v + fa) cl = .inr cl' ∧ rr = 1 ∧ Off (Drl r) y y' ∧ ∃ v' sm' fa' st', RSt y' r v' sm' fa' st' ∧ CodeP L xs y' r st' v' sm' cl') := fun c hc4 he hz => by
      obtain ⟨z, q1, q2, q3⟩ := i_refuse (L := L) (xs := xs) (d + 35) hT a3.1 c
      rw [hz z q1, some_bind', if_pos rfl, bX5_read_63, bX5_read_64, if_pos rfl] at b0
      exact failed (nI n1) (-1) _ _ ⟨Off_trans o1 (Off_1r q2), q3.2.2.2.2.2, by unfold ft; omega, RB_of a3 q2 hr⟩ he b0
    by_cases hA : wdIs T s wAsk = true
    · rw [if_pos hA] at hw
      by_cases h12 : n = 12
      · refine nobeg 4 (by decide) (by unfold pR; rw [if_pos hA, if_pos h12]) (fun z hz => cI_of ?_)
        have hz : cI (ZZ L xs) (d + 36) mX8_refuse [.ref 1, .int 4] (HP sh y1) = some (HP sh z, 0) := hz
        show RS (ZZ L xs) (d + 37) mX5_clauseBegins 0 [some (.ref 195), some (.int (nI n))] [] _ = _
        rw [bX5_clauseBegins_0, RR_tape hRR, some_bind', Ta_is hT, some_bind', hw, some_bind', if_pos (show ¬ (0 : Int32) = -1 by decide), if_neg (show ¬ nI n < 12 by rw [h12]; decide), RR_tape hRR, some_bind', Ta_is hT, some_bind', hz, some_bind', if_pos (Or.inl rfl)]
      · obtain ⟨y2, c1, c2, c3, -⟩ := v_adv (L := L) (xs := xs) (d + 34) hT hV a3.1
        have hp2 := PX_off a3 c2 hr c3
        have hcb : cI (ZZ L xs) (d + 37) mX5_clauseBegins [.ref 195, .int (nI n)] (HP sh y1) = some (HP sh y2, 1) := by
          refine cI_of ?_
          show RS (ZZ L xs) (d + 37) mX5_clauseBegins 0 [some (.ref 195), some (.int (nI n))] [] _ = _
          rw [bX5_clauseBegins_0, RR_tape hRR, some_bind', Ta_is hT, some_bind', hw, some_bind', if_pos (show ¬ (0 : Int32) = -1 by decide), if_pos (show nI n < 12 from nI_lt (b := 12) (by omega) (by decide)), RR_tape hRR, some_bind', Ta_is hT, some_bind', c1, some_bind', if_pos (Or.inr rfl)]
        have hltA : s + 3 ≤ nx' T s := by
          obtain ⟨q1, q2⟩ := wdIs_en (by decide) hA
          have := rn_le isB T (en T s)
          have w5 : wAsk.length = 3 := rfl
          unfold nx'
          omega
        obtain ⟨y3, r3, d1, d2⟩ := x_sum (L := L) (xs := xs) (d + 33) hC hV a2 hc hp2
        rw [hcb, some_bind', if_neg (show ¬ (1 : Int32) = 0 by decide), RR_is hRR, some_bind', d1, some_bind'] at b0
        have hpr : pR T n s (v + fa) = sB (pS T (nx' T s) (v + fa)) fun q => if wdIs T q.1 wIf = true then sB (pE (pFa T 10) T (nx' T q.1) q.2.1) fun r => .inr (r.1, r.2.1, q.2.2, r.2.2) else .inr (q.1, q.2.1, q.2.2, []) := by
          unfold pR
          rw [if_pos hA, if_neg h12]
        have o2 : Off (Drl r) y y2 := Off_trans o1 (Off_1r c2)
        rcases d2 with ⟨e, e1, e2, e3⟩ | ⟨p1, v1, e1, e2, e3, e4, e5, e6, e7, e8, e9, e10, e11⟩
        · rw [if_pos e2, bX5_read_63, bX5_read_64, if_pos rfl] at b0
          exact failed (nI n1) (-1) _ _ (FTr_K (v := v) o2 e3) (by rw [hpr, e1]; rfl) b0
        · have hsm60 : sm < 60 := by
            refine Nat.lt_of_not_le (fun q => ?_)
            have : v + fa = 60 := by omega
            rw [this] at e1
            exact pS_60 _ e1
          obtain ⟨t1, t2, t3⟩ := a7 hsm60
          obtain ⟨k1, k2, k3, k4, k5, k6⟩ := pS_in hc e1
          have hv1 := e5.2.2.1.2
          have o3 : Off (Drl r) y y3 := Off_trans o2 e6
          have v23 : Agv y y3 r v sm := Agv_trans a5 (Agv_trans (Agv_off c2 hr v sm) (show Agv y2 y3 r v sm by rw [t1] at e7; exact e7) (Nat.le_refl _) (Nat.le_refl _)) (Nat.le_refl _) (Nat.le_refl _)
          have c23 : Agc y y3 r 0 256 := Agc_trans a6 (Agc_trans (Agc_off c2 hr 0 256) e8 (Nat.le_refl _) (Nat.le_refl _)) (Nat.le_refl _) (Nat.le_refl _)
          have f23 : y2.2.2.2.1 (r + 3) n1 = nI v := by rw [(c2 (r + 3) (by omega)).2.2.2.1]; exact t3
          have hE1 : SumP L xs y3 r n1 v1 m1 (fun u => evl u p1.2.2) := SumP_of (i0 := v) a2 (by omega) e5.2.2.2 (e9.trans f23) e10 e4 e11
          have hcode3 : CodeP L xs y3 r st v1 m1 cl := CodeP_mono hcode v23 (fun k h1 h2 => c23 k h1 (by omega)) e4 (by omega)
          have hwi := i_word1 (L := L) (xs := xs) (d + 36) hT hV (k := 5) (w := wIf) (by unfold isS; decide) (by decide) (by decide) (by decide) e5.1
          rw [if_neg (show ¬ r3 = 0 by rw [e2]; decide), bX5_read_64, if_neg (by decide), RR_tape hRR, some_bind', Ta_is hT, some_bind', hwi, some_bind'] at b0
          -- behind a clause
          have fin : ∀ (z : ST) (s' v' sm' fa' st' : Nat) (l2 : EL) (i6 : Int32) (w1 w2 : Option Value), pR T n s (v + fa) = .inr (s', v' + fa', p1.2.2, l2) → PX z T s' r v' sm' fa' st' → v' + fa' ≤ 60 → sm' ≤ v' → 2 * st' + 1 ≤ s' → Off (Drl r) y z → (∀ z2, cI (ZZ L xs) (d + 37) mX4_addStep [.ref r, .int 4, .int (nI n1)] (HP sh z) = some (HP sh z2, nI st') → PX z2 T s' r v' sm' fa' (st' + 1) → Agv z z2 r v' sm' → Agc z z2 r 0 st' → z2.2.2.2.1 (r + 5) st' = 4 → z2.2.2.2.1 (r + 6) st' = nI n1 → ∃ z3, cV (ZZ L xs) (d + 37) mX4_landHere [.ref r, .int i6] (HP sh z2) = some (HP sh z3) ∧ PX z3 T s' r v' sm' fa' (st' + 1) ∧ Off (Drl r) z2 z3 ∧ CodeP L xs z3 r (st' + 1) v' sm' (cl ++ [(p1.2.2, l2)])) → RS (ZZ L xs) (d + 38) mX5_read 23 [some (.ref 195), u1, some (.int 1), some (.int (nI n)), u4, u5, u6] [] (HP sh y) = RS (ZZ L xs) (d + 38) mX5_read 112 [some (.ref 195), w1, w2, some (.int (nI n)), some (.int (nI n1)), some (.int 1), some (.int i6)] [] (HP sh z) → ∃ y' rr, RS (ZZ L xs) (d + 38) mX5_read 23 [some (.ref 195), u1, some (.int 1), some (.int (nI n)), u4, u5, u6] [] (HP sh y) = some (HP sh y', some (.int rr)) ∧ ((∃ e, rRd T (f + 1) n s (v + fa) cl = .inl e ∧ rr = 0 ∧ FTr y y' r e) ∨ ∃ cl', rRd T (f + 1) n s (v + fa) cl = .inr cl' ∧ rr = 1 ∧ Off (Drl r) y y' ∧ ∃ v' sm' fa' st', RSt y' r v' sm' fa' st' ∧ CodeP L xs y' r st' v' sm' cl') := fun z s' v' sm' fa' st' l2 i6 w1 w2 hpr' hz hz1 hz2 hz3 hz4 hz5 hb => by
            have hsT' := hz.1.2.1
            obtain ⟨z2, b1, b2, b3, b4, b5, b6, b7⟩ := i_addSt (L := L) (xs := xs) (d + 36) hC hz (by omega) 4 (nI n1)
            obtain ⟨z3, g1, g2, g3, g4⟩ := hz5 z2 b1 b2 b4 b5 b6 b7
            obtain ⟨z4, w1', w2', w3, w4, w5⟩ := i_follows (L := L) (xs := xs) (d + 34) hT hV g2.1
            rw [bX5_read_112, rr_rule hC hz.2.1, some_bind', Ru_is hRu, some_bind', b1, some_bind', rr_rule hC b2.2.1, some_bind', Ru_is hRu, some_bind', g1, some_bind', if_neg (by decide), RR_tape hRR, some_bind', Ta_is hT, some_bind', w1', some_bind'] at hb
            have o4 : Off (Drl r) y z4 := Off_trans (Off_trans (Off_trans hz4 b3) g3) (Off_1r w2')
            have hcode4 : CodeP L xs z4 r (st' + 1) v' sm' (cl ++ [(p1.2.2, l2)]) := CodeP_mono g4 (Agv_off w2' hr v' sm') (Agc_off w2' hr 0 (st' + 1)) (Nat.le_refl _) (Nat.le_refl _)
            have hrd2 : rRd T (f + 1) n s (v + fa) cl = if T.1 ≤ s' then .inr (cl ++ [(p1.2.2, l2)]) else if Bt T s' = 59 then rRd T f (n + 1) (nx' T s') (v' + fa') (cl ++ [(p1.2.2, l2)]) else .inl (ft s' 0) := by
              rw [hrd, hpr']
              rfl
            rw [hrd2]
            by_cases h0 : T.1 ≤ s'
            · have h59 : ¬ Bt T s' = 59 := by rw [Bt_ge h0]; decide
              rw [if_pos h0]
              rw [if_pos (z0 (fun z => h59 (of_decide_eq_true z))), x_stop (d + 37) hC, if_pos (w3 h0)] at hb
              exact ⟨z4, 1, hb, Or.inr ⟨_, rfl, rfl, o4, v', sm', fa', st' + 1, RSt_off w2' (by omega) g2.2.2.1, hcode4⟩⟩
            · rw [if_neg h0]
              by_cases h59 : Bt T s' = 59
              · rw [if_pos h59]
                have hlt5 := nx_lt (show s' < T.1 by omega)
                rw [if_neg (z1 (decide_eq_true h59)), bX5_read_152, nI_1] at hb
                obtain ⟨z5, r5, x1, x2⟩ := ih (n + 1) (nx' T s') v' sm' fa' (st' + 1) (cl ++ [(p1.2.2, l2)]) z4 none none none none (by omega) (by omega) (PX_off g2 w2' hr (w4 h59)) hz1 hz2 (by omega) hcode4
                refine ⟨z5, r5, hb.trans x1, ?_⟩
                rcases x2 with ⟨e, j1, j2, j3⟩ | ⟨cl', j1, j2, j3, j4⟩
                · exact Or.inl ⟨e, j1, j2, FTr_K (v := v) o4 j3⟩
                · exact Or.inr ⟨cl', j1, j2, Off_trans o4 j3, j4⟩
              · rw [if_neg h59]
                have w5' := w5 (by omega) h59
                have hft : 0 < ft s' 0 ∧ ft s' 0 < 10000 := by unfold ft; omega
                rw [if_pos (z0 (fun z => h59 (of_decide_eq_true z))), x_stop (d + 37) hC, if_neg (by rw [w5']; exact nI_ne0 hft.1 (by omega))] at hb
                exact ⟨z4, 0, hb, Or.inl ⟨_, rfl, rfl, o4, w5', hft, RB_of g2 w2' hr⟩⟩
          by_cases hI : wdIs T p1.1 wIf = true
          · rw [if_pos hI, if_neg (show ¬ (0 : Int32) = -1 by decide)] at b0
            have hltI := wd_lt (by decide) hI
            obtain ⟨y4, f1, f2, f3, -⟩ := v_adv (L := L) (xs := xs) (d + 35) hT hV e5.1
            have hp4 := PX_off e5 f2 hr f3
            obtain ⟨y5, r5, g1, g2⟩ := x_test hC hV (x_fact (L := L) (xs := xs) hC hV 10) 0 (d) (nx' T p1.1) v1 m1 fa st y4 rfl hp4 (by omega) (by omega) (by omega)
            have g1 : cI (ZZ L xs) (d + 37) mX5_test [.ref 195, .int 0] (HP sh y4) = some (HP sh y5, r5) := g1
            rw [RR_tape hRR, some_bind', Ta_is hT, some_bind', f1, some_bind', RR_is hRR, some_bind', g1, some_bind'] at b0
            have o4 : Off (Drl r) y y4 := Off_trans o3 (Off_1r f2)
            rw [e3] at g2
            rcases g2 with ⟨e, x1, x2, x3⟩ | ⟨p2, x1, x2, v5, m5, f5, s5, l1, l2, l3, ⟨l4, l5, l6, l7⟩, l8, l9, l10, l11, l12⟩
            · obtain ⟨y6, w, q1, q2⟩ := i_stepF (L := L) (xs := xs) (d + 36) hC x3 2 0
              rw [rr_rule hC x3.2.2.2.1, some_bind', Ru_is hRu, some_bind', q1, some_bind', x2] at b0
              exact failed (nI n1) w _ _ (FTr_K (v := v) o4 q2) (by rw [hpr, e1]; show (if wdIs T p1.1 wIf = true then _ else _) = _; rw [if_pos hI, x1]; rfl) b0
            · obtain ⟨kk1, kk2, kk3, kk4, kk5, kk6⟩ := pE_in (pFa_in 10) (show p1.2.1 ≤ 60 by omega) x1
              have hst5 : 2 * s5 + 2 + 1 ≤ p2.1 := by omega
              obtain ⟨y6, q1, q2, q3, q4, q5, q6, q7⟩ := i_addSt (L := L) (xs := xs) (d + 36) hC l1 (by omega) 2 0
              rw [rr_rule hC l1.2.1, some_bind', Ru_is hRu, some_bind', q1, some_bind', x2] at b0
              refine fin y6 p2.1 v5 m5 f5 (s5 + 1) p2.2.2 (nI s5) _ _ ?_ q2 (by omega) l3 (by omega) (Off_trans (Off_trans o4 l9) q3) (fun z2 b1 b2 b4 b5 b6 b7 => ?_) b0
              · rw [hpr, e1]
                show (if wdIs T p1.1 wIf = true then _ else _) = _
                rw [if_pos hI, x1, l2]
                rfl
              · obtain ⟨z3, t1', t2', t3', t4', t5', t6'⟩ := v_land (L := L) (xs := xs) (d + 36) hC b2 (show s5 < 256 by omega)
                refine ⟨z3, t1', t2', t3', ?_⟩
                have v36 : Agv y3 z3 r v1 m1 := Agv_trans (Agv_off f2 hr v1 m1) (Agv_trans l10 (Agv_trans q4 (Agv_trans b4 t4' (Nat.le_refl _) (Nat.le_refl _)) (Nat.le_refl _) (Nat.le_refl _)) l4 l5) (Nat.le_refl _) (Nat.le_refl _)
                have v5z : Agv y5 z3 r v5 m5 := Agv_trans q4 (Agv_trans b4 t4' (Nat.le_refl _) (Nat.le_refl _)) (Nat.le_refl _) (Nat.le_refl _)
                have c5z : Agc y5 z3 r 0 s5 := Agc_trans q5 (Agc_trans (fun k h1 h2 => b5 k h1 (by omega)) (fun k h1 h2 => ⟨(t5' k).1, (t5' k).2 (by omega)⟩) (Nat.le_refl _) (Nat.le_refl _)) (Nat.le_refl _) (Nat.le_refl _)
                have c3z : Agc y3 z3 r 0 st := Agc_trans (Agc_off f2 hr 0 st) (Agc_trans l11 (fun k h1 h2 => c5z k h1 (by omega)) (Nat.le_refl _) (Nat.le_refl _)) (Nat.le_refl _) (Nat.le_refl _)
                exact Code_test (CodeP_mono hcode3 v36 c3z l4 l5) kk1.2.1 l7 (SegP_mono l12 v5z (fun k h1 h2 => c5z k (Nat.zero_le _) h2) (Nat.le_refl _) (Nat.le_refl _)) ((t5' s5).1.trans ((b5 s5 (Nat.zero_le _) (by omega)).1.trans q6)) t6' (SumP_mono hE1 v36 l4 l5) ((t5' (s5 + 1)).1.trans b6) (((t5' (s5 + 1)).2 (by omega)).trans b7)
          · rw [if_neg hI, if_pos rfl] at b0
            refine fin y3 p1.1 v1 m1 fa st [] (-1) _ _ ?_ e5 (by omega) (by omega) (by omega) o3 (fun z2 b1 b2 b4 b5 b6 b7 => ?_) b0
            · rw [hpr, e1]
              show (if wdIs T p1.1 wIf = true then _ else _) = _
              rw [if_neg hI, e3]
            · exact ⟨z2, v_land0 (d + 36) z2, b2, Off_refl _ _, Code_plain (CodeP_mono hcode3 b4 b5 (Nat.le_refl _) (Nat.le_refl _)) (SumP_mono hE1 b4 (Nat.le_refl _) (Nat.le_refl _)) b6 b7⟩
    · rw [if_neg hA] at hw
      refine nobeg 0 (by decide) (by unfold pR; rw [if_neg hA]) (fun z hz => cI_of ?_)
      have hz : cI (ZZ L xs) (d + 36) mX8_refuse [.ref 1, .int 0] (HP sh y1) = some (HP sh z, 0) := hz
      show RS (ZZ L xs) (d + 37) mX5_clauseBegins 0 [some (.ref 195), some (.int (nI n))] [] _ = _
      rw [bX5_clauseBegins_0, RR_tape hRR, some_bind', Ta_is hT, some_bind', hw, some_bind', if_neg (fun z => z rfl), RR_tape hRR, some_bind', Ta_is hT, some_bind', hz, some_bind', if_pos (Or.inl rfl)]
end RX6
