/-! a town told: what holds of it; the class's reader, whole -/
theorem kW_4 (T : TP) (s : Nat) : kW T s ≤ 4 := by
  unfold kW
  split
  · omega
  · split
    · omega
    · split
      · omega
      · split <;> omega
theorem wix_kW (T : TP) (s : Nat) : wix T s [wTown, wStreet, wPerson, wStranger] 0 = if kW T s = 4 then -1 else nI (kW T s) := by
  unfold kW
  show (if wdIs T s wTown = true then nI 0 else if wdIs T s wStreet = true then nI 1 else if wdIs T s wPerson = true then nI 2 else if wdIs T s wStranger = true then nI 3 else -1) = _
  by_cases h0 : wdIs T s wTown = true
  · rw [if_pos h0, if_pos h0, if_neg (by decide)]
  · rw [if_neg h0, if_neg h0]
    by_cases h1 : wdIs T s wStreet = true
    · rw [if_pos h1, if_pos h1, if_neg (by decide)]
    · rw [if_neg h1, if_neg h1]
      by_cases h2 : wdIs T s wPerson = true
      · rw [if_pos h2, if_pos h2, if_neg (by decide)]
      · rw [if_neg h2, if_neg h2]
        by_cases h3 : wdIs T s wStranger = true
        · rw [if_pos h3, if_pos h3, if_neg (by decide)]
        · rw [if_neg h3, if_neg h3, if_pos rfl]
def TV (b : TB) : Prop := VTo b.1 b.2.1 b.2.2.1 b.2.2.2 ∧ 2 ≤ b.2.1 ∧ ∀ j, b.2.2.1 ≤ j → j < 32 → bt (b.1.1 5) j = false
theorem TV_k {b : TB} (h : TV b) : TBk b := ⟨h.1.2.1, h.1.1.1, h.1.1.2.2.1, h.1.2.2.2.2.1.1, h.1.1.2.1, h.1.1.2.2.2⟩
theorem tSize_V {T : TP} {s s' : Nat} {b' : TB} (hs : s ≤ T.1) (h : tSize T s tb0 = .inr (s', b')) : TV b' ∧ s' ≤ T.1 := by
  unfold tSize at h
  by_cases e1 : tkE T s 2 8 (-1) = 0
  · rw [if_pos e1] at h
    by_cases e2 : tkE T (nx' T s) 1 30 (-1) = 0
    · rw [if_pos e2] at h
      cases h
      have i1 := tkE_in e1
      have i2 := tkE_in e2
      have hTOK : TOK (tF (tF tb0.1 0 (nI (nv T s))) 1 (nI (nv T (nx' T s)))) 0 0 := ⟨rfl, by decide, rfl, by decide⟩
      have hVO : VO (nv T s) 0 := ⟨i1.2.2.2.1, fun i j _ _ h => (by rw [aj_0] at h; cases h), fun i j _ _ h => (by rw [aj_0] at h; cases h)⟩
      refine ⟨⟨⟨hTOK, rfl, fun z => absurd (show nv T s = 0 from z) (by omega), fun _ => ⟨i1.2.2.1, i1.2.2.2.1, rfl, ⟨_, i2.2.2.1, i2.2.2.2.1, rfl⟩, hTOK, fun g hg => absurd hg (Nat.not_lt_zero g)⟩, hVO, fun p hp => absurd hp (Nat.not_lt_zero p), fun i hi => aj_0 i i⟩, i1.2.2.1, fun j _ _ => bt_0 j⟩, (nx_le (nx_le hs).2).2⟩
    · rw [if_neg e2] at h
      cases h
  · rw [if_neg e1] at h
    cases h
theorem VT_J {w : TW} {pl np ns : Nat} (l : Int64) (h : VT w pl np ns) : VT (tJ w l) pl np ns := h
theorem tStreet_V {T : TP} {s s' : Nat} {b b' : TB} (hb : TV b) (hs : s ≤ T.1) (h : tStreet T s b = .inr (s', b')) : TV b' ∧ s' ≤ T.1 := by
  unfold tStreet at h
  by_cases e1 : tkE T s 0 (b.2.1 - 1) (-1) = 0
  · rw [if_pos e1] at h
    by_cases e2 : tkE T (nx' T s) 0 (b.2.1 - 1) (nI (nv T s)) = 0
    · rw [if_pos e2] at h
      cases h
      have i1 := tkE_in e1
      have i2 := tkE_in e2
      obtain ⟨⟨v1, v2, v3, v4, ⟨o1, o2, o3⟩, v6, v7⟩, v8, v9⟩ := hb
      have hne : nv T s ≠ nv T (nx' T s) := fun q => i2.2.2.2.2 (by rw [q])
      have hst : ∀ i j, i < 8 → j < 8 → aj (b.1.2.1 ||| stS (nv T s) (nv T (nx' T s))) i j = (aj b.1.2.1 i j || (decide (i = nv T s) && decide (j = nv T (nx' T s)) || decide (i = nv T (nx' T s)) && decide (j = nv T s))) := fun i j hi hj => by
        rw [aj_or, aj_stS (by omega) (by omega) hi hj, decide_eq_true hne, Bool.true_and]
      refine ⟨⟨⟨v1, v2, v3, v4, ⟨o1, fun i j hi hj h => ?_, fun i j hi hj h => ?_⟩, v6, fun i hi => ?_⟩, v8, v9⟩, (nx_le (nx_le hs).2).2⟩
      · have h : aj (b.1.2.1 ||| stS (nv T s) (nv T (nx' T s))) i j = true := h
        show aj (b.1.2.1 ||| stS (nv T s) (nv T (nx' T s))) j i = true
        rw [hst i j hi hj, Bool.or_eq_true] at h
        rw [hst j i hj hi, Bool.or_eq_true]
        rcases h with h | h
        · exact Or.inl (o2 i j hi hj h)
        · refine Or.inr ?_
          rw [Bool.or_comm, Bool.and_comm (decide (j = nv T (nx' T s))), Bool.and_comm (decide (j = nv T s))]
          exact h
      · have h : aj (b.1.2.1 ||| stS (nv T s) (nv T (nx' T s))) i j = true := h
        rw [hst i j hi hj, Bool.or_eq_true] at h
        rcases h with h | h
        · exact o3 i j hi hj h
        · rw [Bool.or_eq_true, Bool.and_eq_true, Bool.and_eq_true, decide_eq_true_iff, decide_eq_true_iff, decide_eq_true_iff, decide_eq_true_iff] at h
          show i < b.2.1 ∧ j < b.2.1
          omega
      · show aj (b.1.2.1 ||| stS (nv T s) (nv T (nx' T s))) i i = false
        rw [hst i i hi hi, v7 i hi, Bool.false_or]
        by_cases q1 : i = nv T s
        · rw [decide_eq_false (show ¬ i = nv T (nx' T s) by omega)]
          simp
        · rw [decide_eq_false q1]
          simp
    · rw [if_neg e2] at h
      cases h
  · rw [if_neg e1] at h
    cases h
theorem bt_shlv {v i j : Nat} (hv : v ≤ 1) (hi : i < 32) (hj : j < 32) : bt (iShl (nI v) (nI i)) j = (decide (v = 1) && decide (j = i)) := by
  rcases Nat.le_one_iff_eq_zero_or_eq_one.mp hv with rfl | rfl
  · have : ∀ i j : Fin 32, bt (iShl (nI 0) (nI i.val)) j.val = false := by decide +kernel
    exact this ⟨i, hi⟩ ⟨j, hj⟩
  · exact bt_shl hi hj
theorem tPerson_V {T : TP} {s s' : Nat} {b b' : TB} (hb : TV b) (hnp : b.2.2.1 < 6) (hs : s ≤ T.1) (h : tPerson T s b = .inr (s', b')) : TV b' ∧ s' ≤ T.1 := by
  unfold tPerson at h
  by_cases e1 : tkE T s 0 (b.2.1 - 1) (-1) = 0
  · rw [if_pos e1] at h
    by_cases e2 : tkE T (nx' T s) 0 9 (-1) = 0
    · rw [if_pos e2] at h
      by_cases e3 : tkE T (nx' T (nx' T s)) 0 1 (-1) = 0
      · rw [if_pos e3] at h
        cases h
        have i1 := tkE_in e1
        have i2 := tkE_in e2
        have i3 := tkE_in e3
        obtain ⟨⟨⟨a1, a2, a3, a4⟩, v2, v3, v4, v5, v6, v7⟩, v8, v9⟩ := hb
        obtain ⟨t1, t2, t3, t4, t5, t6⟩ := v4 (by omega)
        refine ⟨⟨⟨⟨rfl, hnp, a3, a4⟩, v2, fun z => ?_, fun _ => ⟨t1, t2, t3, t4, ⟨rfl, hnp, a3, a4⟩, t6⟩, v5, fun p hp => ?_, v7⟩, v8, fun j h1 h2 => ?_⟩, (nx_le (nx_le (nx_le hs).2).2).2⟩
        · have z : b.2.1 = 0 := z
          omega
        · have hp : p < b.2.2.1 + 1 := hp
          show ∃ i, i < b.2.1 ∧ upd (b.1.2.2 0) b.2.2.1 (nI (nv T s)) p = nI i
          by_cases q : p = b.2.2.1
          · rw [q, upd_at]
            exact ⟨_, by omega, rfl⟩
          · rw [upd_ne _ _ q]
            exact v6 p (by omega)
        · have h1 : b.2.2.1 + 1 ≤ j := h1
          show bt (b.1.1 5 ||| iShl (nI (nv T (nx' T (nx' T s)))) (nI b.2.2.1)) j = false
          rw [bt_or, v9 j (by omega) h2, bt_shlv i3.2.2.2.1 (by omega) h2, decide_eq_false (show ¬ j = b.2.2.1 by omega)]
          simp
      · rw [if_neg e3] at h
        cases h
    · rw [if_neg e2] at h
      cases h
  · rw [if_neg e1] at h
    cases h
theorem tStranger_V {T : TP} {s s' : Nat} {b b' : TB} (hb : TV b) (hnp : b.2.2.2 < 5) (hs : s ≤ T.1) (h : tStranger T s b = .inr (s', b')) : TV b' ∧ s' ≤ T.1 := by
  unfold tStranger at h
  by_cases e1 : tkE T s 0 (b.2.1 - 1) (-1) = 0
  · rw [if_pos e1] at h
    by_cases e2 : tkE T (nx' T s) 0 (b.2.1 - 1) (nI (nv T s)) = 0
    · rw [if_pos e2] at h
      by_cases e3 : tkE T (nx' T (nx' T s)) 1 20 (-1) = 0
      · rw [if_pos e3] at h
        cases h
        have i1 := tkE_in e1
        have i2 := tkE_in e2
        have i3 := tkE_in e3
        obtain ⟨⟨⟨a1, a2, a3, a4⟩, v2, v3, v4, v5, v6, v7⟩, v8, v9⟩ := hb
        obtain ⟨t1, t2, t3, t4, t5, t6⟩ := v4 (by omega)
        refine ⟨⟨⟨⟨a1, a2, rfl, hnp⟩, v2, fun z => ?_, fun _ => ⟨t1, t2, t3, t4, ⟨a1, a2, rfl, hnp⟩, fun g hg => ?_⟩, v5, v6, v7⟩, v8, v9⟩, (nx_le (nx_le (nx_le hs).2).2).2⟩
        · have z : b.2.1 = 0 := z
          omega
        · have hg : g < b.2.2.2 + 1 := hg
          show (∃ i, i < b.2.1 ∧ upd (b.1.2.2 2) b.2.2.2 (nI (nv T s)) g = nI i) ∧ (∃ i, i < b.2.1 ∧ upd (b.1.2.2 3) b.2.2.2 (nI (nv T (nx' T s))) g = nI i) ∧ ∃ e, 1 ≤ e ∧ e ≤ 20 ∧ upd (b.1.2.2 4) b.2.2.2 (nI (nv T (nx' T (nx' T s)))) g = nI e
          by_cases q : g = b.2.2.2
          · rw [q, upd_at, upd_at, upd_at]
            exact ⟨⟨_, by omega, rfl⟩, ⟨_, by omega, rfl⟩, ⟨_, i3.2.2.1, i3.2.2.2.1, rfl⟩⟩
          · rw [upd_ne _ _ q, upd_ne _ _ q, upd_ne _ _ q]
            exact t6 g (by omega)
      · rw [if_neg e3] at h
        cases h
    · rw [if_neg e2] at h
      cases h
  · rw [if_neg e1] at h
    cases h
/-- ahead of the clause n -/
def TN (n : Nat) (b : TB) : Prop := n = 0 ∧ b = tb0 ∨ n ≠ 0 ∧ TV b
theorem TN_k {n : Nat} {b : TB} (h : TN n b) : TBk b := by
  rcases h with ⟨-, rfl⟩ | ⟨-, h⟩
  · exact ⟨rfl, rfl, rfl, by decide, by decide, by decide⟩
  · exact TV_k h
theorem tCl_full {T : TP} {n s : Nat} {b : TB} (h4 : ¬ kW T s = 4) (h : tFull T n s b) : tCl T n s b = .inl (ft s 4) := by
  unfold tCl
  rw [if_neg h4, if_pos (@decide_eq_true _ (Classical.propDecidable _) h)]
theorem tCl_go {T : TP} {n s : Nat} {b : TB} (h4 : ¬ kW T s = 4) (h : ¬ tFull T n s b) : tCl T n s b = if kW T s = 0 then tSize T (nx' T s) b else if kW T s = 1 then tStreet T (nx' T s) b else if kW T s = 2 then tPerson T (nx' T s) b else tStranger T (nx' T s) b := by
  unfold tCl
  rw [if_neg h4, if_neg (fun z => h (@of_decide_eq_true _ (Classical.propDecidable _) z))]
theorem tCl_V {T : TP} {n s s' : Nat} {b b' : TB} (hn : TN n b) (hs : s ≤ T.1) (h : tCl T n s b = .inr (s', b')) : TV b' ∧ s' ≤ T.1 := by
  by_cases h4 : kW T s = 4
  · unfold tCl at h
    rw [if_pos h4] at h
    cases h
  by_cases hf : tFull T n s b
  · rw [tCl_full h4 hf] at h
    cases h
  rw [tCl_go h4 hf] at h
  unfold tFull at hf
  have hl := (nx_le hs).2
  by_cases h0 : kW T s = 0
  · rw [if_pos h0] at h
    rcases hn with ⟨hn, rfl⟩ | ⟨hn, hv⟩
    · exact tSize_V hl h
    · omega
  · rw [if_neg h0] at h
    have hv : TV b := by
      rcases hn with ⟨hn, rfl⟩ | ⟨hn, hv⟩
      · omega
      · exact hv
    have hk := TV_k hv
    by_cases h1 : kW T s = 1
    · rw [if_pos h1] at h
      exact tStreet_V hv hl h
    · rw [if_neg h1] at h
      by_cases h2 : kW T s = 2
      · rw [if_pos h2] at h
        exact tPerson_V hv (by have := hk.2.2.2.2.1; omega) hl h
      · rw [if_neg h2] at h
        have := kW_4 T s
        exact tStranger_V hv (by have := hk.2.2.2.2.2; omega) hl h
theorem tRd_l {T : TP} {f n s e : Nat} {b : TB} (h : tCl T n s b = .inl e) : tRd T (f + 1) n s b = .inl e := by
  unfold tRd
  rw [h]
theorem tRd_r {T : TP} {f n s s' : Nat} {b b' : TB} (h : tCl T n s b = .inr (s', b')) : tRd T (f + 1) n s b = if T.1 ≤ s' then .inr b' else if Bt T s' = 59 then tRd T f (n + 1) (nx' T s') b' else .inl (ft s' 0) := by
  rw [tRd]
  rw [h]
section TOWNX2
variable {L : Nat} {xs : Nat → Int32} {sh : List Sh} {y : ST} {T : TP}
theorem i_isFullX (d : Nat) {t k : Nat} (ht : isTo sh t) {b : TB} (hg : gTo y t = b.1) (hk : TBk b) (hk3 : k ≤ 3) : cI (ZZ L xs) (d + 1) mX10_isFull [.ref t, .int (nI k)] (HP sh y) = some (HP sh y, z01 (decide (k = 2 ∧ b.2.2.1 = 6 ∨ k = 3 ∧ b.2.2.2 = 5))) := by
  have h6 := hk.2.2.2.2.1
  have h5 := hk.2.2.2.2.2
  have f2 : y.1 t 2 = nI b.2.2.1 := (gTo_0 hg).trans hk.2.1
  have f3 : y.1 t 3 = nI b.2.2.2 := (gTo_0 hg).trans hk.2.2.1
  refine cI_of ?_
  show RS (ZZ L xs) (d + 1) mX10_isFull 0 [some (.ref t), some (.int (nI k))] [] _ = _
  rw [bX10_isFull_0 (hv0 := rfl)]
  have hk4 : k = 0 ∨ k = 1 ∨ k = 2 ∨ k = 3 := by omega
  rcases hk4 with rfl | rfl | rfl | rfl
  · rw [if_pos (by decide), bX10_isFull_9, if_pos (Or.inl rfl)]
    rfl
  · rw [if_neg (by decide), if_neg (fun z => z rfl), bX10_isFull_9, if_pos (Or.inl rfl)]
    rfl
  · rw [if_neg (by decide), if_pos (by decide), if_neg (fun z => z rfl), To_people ht, some_bind', f2]
    by_cases q : b.2.2.1 = 6
    · rw [if_neg (show ¬ nI b.2.2.1 < 6 by rw [q]; decide), bX10_isFull_46, if_pos (Or.inr rfl), decide_eq_true (Or.inl ⟨rfl, q⟩)]
      rfl
    · rw [if_pos (show nI b.2.2.1 < 6 from nI_lt (b := 6) (by omega) (by decide)), bX10_isFull_46, if_pos (Or.inl rfl), decide_eq_false (by omega)]
      rfl
  · rw [if_neg (by decide), if_pos (by decide), if_pos (by decide), To_strangers ht, some_bind', f3]
    by_cases q : b.2.2.2 = 5
    · rw [if_neg (show ¬ nI b.2.2.2 < 5 by rw [q]; decide), bX10_isFull_46, if_pos (Or.inr rfl), decide_eq_true (Or.inr ⟨rfl, q⟩)]
      rfl
    · rw [if_pos (show nI b.2.2.2 < 5 from nI_lt (b := 5) (by omega) (by decide)), bX10_isFull_46, if_pos (Or.inl rfl), decide_eq_false (by omega)]
      rfl
theorem i_clauseT (d : Nat) (hT : isTa sh 1) (hR : isTR sh 194) (hV : VTa T) {t s n : Nat} (ht : isTo sh t) (h3 : 307 ≤ t) {b : TB} (hx : TSt y T s 0) (hg : gTo y t = b.1) (hn : TN n b) (hn40 : n ≤ 40) : ∃ y' r, cI (ZZ L xs) (d + 5) mX10_clause [.ref 194, .ref t, .int (nI n)] (HP sh y) = some (HP sh y', r) ∧ TRs T t y y' r (tCl T n s b) := by
  have hk := TN_k hn
  have hl400 := hV.1
  have hw := (i_words (L := L) (xs := xs) (d + 3) hT hV (k := 0) (ws := [wTown, wStreet, wPerson, wStranger]) (by unfold isS; decide) (by decide) (by decide) (by decide) hx).trans (by rw [wix_kW])
  by_cases h4 : kW T s = 4
  · obtain ⟨y1, r1, r2, r3⟩ := i_refuse (L := L) (xs := xs) (d + 3) hT hx 0
    have r1 : cI (ZZ L xs) (d + 4) mX8_refuse [.ref 1, .int 0] (HP sh y) = some (HP sh y1, 0) := r1
    refine ⟨y1, 0, cI_of ?_, Off_1t r2, Or.inl ⟨ft s 0, by unfold tCl; rw [if_pos h4], by have := hx.2.1; unfold ft; omega, rfl, r3.2.2.2.2.2⟩⟩
    rw [if_pos h4] at hw
    show RS (ZZ L xs) (d + 5) mX10_clause 0 [some (.ref 194), some (.ref t), some (.int (nI n)), none, none] [] _ = _
    rw [bX10_clause_0 (hv1 := rfl), TR_tape hR, some_bind', Ta_is hT, some_bind', hw, some_bind', if_neg (fun z => z rfl), TR_tape hR, some_bind', Ta_is hT, some_bind', r1, some_bind', if_pos (Or.inl rfl)]
  · have hk4 := kW_4 T s
    rw [if_neg h4] at hw
    have c50 : RS (ZZ L xs) (d + 5) mX10_clause 0 [some (.ref 194), some (.ref t), some (.int (nI n)), none, none] [] (HP sh y) = RS (ZZ L xs) (d + 5) mX10_clause 50 [some (.ref 194), some (.ref t), some (.int (nI n)), some (.int (nI (kW T s))), none] [.int (z01 (decide (n = 0 ↔ kW T s = 0)))] (HP sh y) := by
      have nk : ¬ nI (kW T s) = -1 := fun z => nI_pos (n := kW T s) (by omega) (by rw [z]; decide)
      rw [bX10_clause_0 (hv1 := rfl), TR_tape hR, some_bind', Ta_is hT, some_bind', hw, some_bind', if_pos nk]
      by_cases n0 : n = 0
      · rw [if_neg (fun z => z (by rw [n0]; rfl)), bX10_clause_33 (hv1 := rfl)]
        by_cases k0 : kW T s = 0
        · rw [if_neg (fun z => z (by rw [k0]; rfl)), bX10_clause_42 (hv1 := rfl), if_neg (fun z => z rfl), decide_eq_true (by omega)]
          rfl
        · rw [if_pos (nI_ne0 (by omega) (by omega)), bX10_clause_42 (hv1 := rfl), if_pos (by decide), decide_eq_false (by omega)]
          rfl
      · rw [if_pos (nI_ne0 (by omega) (by omega)), bX10_clause_33 (hv1 := rfl)]
        by_cases k0 : kW T s = 0
        · rw [if_neg (fun z => z (by rw [k0]; rfl)), bX10_clause_42 (hv1 := rfl), if_pos (by decide), decide_eq_false (by omega)]
          rfl
        · rw [if_pos (nI_ne0 (by omega) (by omega)), bX10_clause_42 (hv1 := rfl), if_neg (fun z => z rfl), decide_eq_true (by omega)]
          rfl
    by_cases hf : tFull T n s b
    · obtain ⟨y1, r1, r2, r3⟩ := i_refuse (L := L) (xs := xs) (d + 3) hT hx 4
      have r1 : cI (ZZ L xs) (d + 4) mX8_refuse [.ref 1, .int 4] (HP sh y) = some (HP sh y1, 0) := r1
      refine ⟨y1, 0, cI_of ?_, Off_1t r2, Or.inl ⟨ft s 4, tCl_full h4 hf, by have := hx.2.1; unfold ft; omega, rfl, r3.2.2.2.2.2⟩⟩
      have c71 : ∀ u1 u2 u3 u4 : Option Value, RS (ZZ L xs) (d + 5) mX10_clause 71 [some (.ref 194), u1, u2, u3, u4] [] (HP sh y) = some (HP sh y1, some (.int 0)) := fun u1 u2 u3 u4 => by
        rw [bX10_clause_71, TR_tape hR, some_bind', Ta_is hT, some_bind', r1, some_bind', if_pos (Or.inl rfl)]
      show RS (ZZ L xs) (d + 5) mX10_clause 0 [some (.ref 194), some (.ref t), some (.int (nI n)), none, none] [] _ = _
      rw [c50, bX10_clause_50 (hv1 := rfl)]
      by_cases n40 : n = 40
      · rw [if_pos (by rw [n40]; decide), c71]
      · rw [if_neg (show ¬ (40 : Int32) ≤ nI n from nI_ge (b := 40) (by omega) (by decide))]
        by_cases hi : (n = 0 ↔ kW T s = 0)
        · rw [decide_eq_true hi, if_neg (by decide), i_isFullX (d + 3) ht hg hk (by omega), some_bind', if_neg (z1 (decide_eq_true (by unfold tFull at hf; omega))), c71]
        · rw [decide_eq_false hi, if_pos (by decide), c71]
    · obtain ⟨y1, a1, a2, a3, -⟩ := v_adv (L := L) (xs := xs) (d + 2) hT hV hx
      have hg1 : gTo y1 t = b.1 := by rw [gTo_off a2 (fun o q1 q2 => by omega), hg]
      have c84 : RS (ZZ L xs) (d + 5) mX10_clause 0 [some (.ref 194), some (.ref t), some (.int (nI n)), none, none] [] (HP sh y) = if nI (kW T s) = 0 then RS (ZZ L xs) (d + 5) mX10_clause 116 [some (.ref 194), some (.ref t), some (.int (nI n)), some (.int (nI (kW T s))), some (.int 1)] [] (HP sh y1) else if nI (kW T s) = 1 then RS (ZZ L xs) (d + 5) mX10_clause 122 [some (.ref 194), some (.ref t), some (.int (nI n)), some (.int (nI (kW T s))), some (.int 1)] [] (HP sh y1) else if nI (kW T s) = 2 then RS (ZZ L xs) (d + 5) mX10_clause 128 [some (.ref 194), some (.ref t), some (.int (nI n)), some (.int (nI (kW T s))), some (.int 1)] [] (HP sh y1) else RS (ZZ L xs) (d + 5) mX10_clause 134 [some (.ref 194), some (.ref t), some (.int (nI n)), some (.int (nI (kW T s))), some (.int 1)] [] (HP sh y1) := by
        unfold tFull at hf
        rw [c50, bX10_clause_50 (hv1 := rfl), if_neg (show ¬ (40 : Int32) ≤ nI n from nI_ge (b := 40) (by omega) (by decide)), decide_eq_true (show (n = 0 ↔ kW T s = 0) by omega), if_neg (by decide), i_isFullX (d + 3) ht hg hk (by omega), some_bind', if_pos (z0 (fun q => by have := of_decide_eq_true q; omega)), TR_tape hR, some_bind', Ta_is hT, some_bind', a1, some_bind']
        rfl
      have wrap : ∀ {y' : ST} {r : Int32} {R : Nat ⊕ (Nat × TB)}, RS (ZZ L xs) (d + 5) mX10_clause 0 [some (.ref 194), some (.ref t), some (.int (nI n)), none, none] [] (HP sh y) = (if r = 0 ∨ r = 1 then some (HP sh y', some (.int r)) else none) → TRs T t y1 y' r R → tCl T n s b = R → ∃ y' r, cI (ZZ L xs) (d + 5) mX10_clause [.ref 194, .ref t, .int (nI n)] (HP sh y) = some (HP sh y', r) ∧ TRs T t y y' r (tCl T n s b) := fun {y' r R} hr hRs he => by
        rw [he]
        have h01 : r = 0 ∨ r = 1 := by
          rcases hRs.2 with ⟨_, _, _, q, _⟩ | ⟨_, _, _, q, _⟩
          · exact Or.inl q
          · exact Or.inr q
        rw [if_pos h01] at hr
        exact ⟨y', r, cI_of hr, Off_trans (Off_1t a2) hRs.1, hRs.2⟩
      have hgo := tCl_go (n := n) (b := b) h4 hf
      by_cases k0 : kW T s = 0
      · obtain ⟨y', r, p1, p2⟩ := i_tellSize (L := L) (xs := xs) (d) hT hR hV ht h3 (b := b) a3 hg1
        refine wrap ?_ p2 (by rw [hgo, if_pos k0])
        rw [c84, if_pos (by rw [k0]; rfl), bX10_clause_116 (hv1 := rfl), TR_is hR, some_bind', p1, some_bind']
      · have hv : TV b := by
          unfold tFull at hf
          rcases hn with ⟨hn, rfl⟩ | ⟨hn, hv⟩
          · omega
          · exact hv
        have hp : 1 ≤ b.2.1 := by have := hv.2.1; omega
        have n0 : ¬ nI (kW T s) = 0 := nI_ne0 (by omega) (by omega)
        by_cases k1 : kW T s = 1
        · obtain ⟨y', r, p1, p2⟩ := i_tellStreet (L := L) (xs := xs) (d) hT hR hV ht h3 (b := b) a3 hg1 hk hp
          refine wrap ?_ p2 (by rw [hgo, if_neg k0, if_pos k1])
          rw [c84, if_neg n0, if_pos (by rw [k1]; rfl), bX10_clause_122 (hv1 := rfl), TR_is hR, some_bind', p1, some_bind']
        · have n1 : ¬ nI (kW T s) = 1 := fun z => k1 ((nI_eq (b := 1) (by omega) (by decide)).mp z)
          by_cases k2 : kW T s = 2
          · obtain ⟨y', r, p1, p2⟩ := i_tellPerson (L := L) (xs := xs) (d) hT hR hV ht h3 (b := b) a3 hg1 hk hp (by have := hk.2.2.2.2.1; unfold tFull at hf; omega)
            refine wrap ?_ p2 (by rw [hgo, if_neg k0, if_neg k1, if_pos k2])
            rw [c84, if_neg n0, if_neg n1, if_pos (by rw [k2]; rfl), bX10_clause_128 (hv1 := rfl), TR_is hR, some_bind', p1, some_bind']
          · have n2 : ¬ nI (kW T s) = 2 := fun z => k2 ((nI_eq (b := 2) (by omega) (by decide)).mp z)
            obtain ⟨y', r, p1, p2⟩ := i_tellStranger (L := L) (xs := xs) (d) hT hR hV ht h3 (b := b) a3 hg1 hk hp (by have := hk.2.2.2.2.2; unfold tFull at hf; omega)
            refine wrap ?_ p2 (by rw [hgo, if_neg k0, if_neg k1, if_neg k2])
            rw [c84, if_neg n0, if_neg n1, if_neg n2, bX10_clause_134 (hv1 := rfl), TR_is hR, some_bind', p1, some_bind']
/-- the reader's loop -/
theorem r_readL (d : Nat) (hT : isTa sh 1) (hR : isTR sh 194) (hV : VTa T) {t : Nat} (ht : isTo sh t) (h3 : 307 ≤ t) : ∀ (f n s : Nat) (b : TB) (y : ST), f + n = 41 → n ≤ 40 → TSt y T s 0 → gTo y t = b.1 → TN n b → ∃ y' v, RS (ZZ L xs) (d + 6) mX10_read 19 [some (.ref 194), some (.ref t), some (.int 1), some (.int (nI n))] [] (HP sh y) = some (HP sh y', some v) ∧ Off (Dt6 t) y y' ∧ ((∃ e, tRd T f n s b = .inl e ∧ (0 < e ∧ e < 10000) ∧ v = .null ∧ y'.1 1 4 = nI e) ∨ ∃ b', tRd T f n s b = .inr b' ∧ v = .ref t ∧ gTo y' t = b'.1 ∧ TV b') := by
  have h400 := hV.1
  intro f
  induction f with
  | zero => intro n s b y hf hn; omega
  | succ f ih =>
    intro n s b y hf hn hx hg hN
    obtain ⟨y1, r, p1, p2, p3⟩ := i_clauseT (L := L) (xs := xs) (d) hT hR hV ht h3 (n := n) hx hg hN hn
    have fin : ∀ (z : ST) (e : Nat) (i : Nat), (0 < e ∧ e < 10000) → z.1 1 4 = nI e → RS (ZZ L xs) (d + 6) mX10_read 52 [some (.ref 194), some (.ref t), some (.int 1), some (.int (nI i))] [] (HP sh z) = some (HP sh z, some .null) := fun z e i he h4 => by
      rw [bX10_read_52 (hv1 := rfl), bX10_read_53 (hv1 := rfl), bX10_read_19 (hv1 := rfl), if_pos rfl, bX10_read_60 (hv1 := rfl), TR_tape hR, some_bind', Ta_fault hT, some_bind', h4, if_pos (nI_ne0 he.1 (by omega)), bX10_read_75 (hw0 := rfl)]
    have b19 : RS (ZZ L xs) (d + 6) mX10_read 19 [some (.ref 194), some (.ref t), some (.int 1), some (.int (nI n))] [] (HP sh y) = if r = 0 then RS (ZZ L xs) (d + 6) mX10_read 52 [some (.ref 194), some (.ref t), some (.int 1), some (.int (nI n))] [] (HP sh y1) else (cI (ZZ L xs) (d + 5) mX8_clauseFollows [.ref 1] (HP sh y1)).bind fun p42 => if (p42.2 : Int32) = 0 then RS (ZZ L xs) (d + 6) mX10_read 52 [some (.ref 194), some (.ref t), some (.int 1), some (.int (nI n))] [] p42.1 else RS (ZZ L xs) (d + 6) mX10_read 53 [some (.ref 194), some (.ref t), some (.int 1), some (.int (nI n))] [.int 1] p42.1 := by
      rw [bX10_read_19 (hv1 := rfl), if_neg (by decide), if_neg (show ¬ (40 : Int32) < nI n from nI_nlt (a := 40) hn (by decide)), TR_is hR, some_bind', p1, some_bind', TR_tape hR, some_bind', Ta_is hT, some_bind']
    rcases p3 with ⟨e, e1, e2, e3, e4⟩ | ⟨s', b', e1, e2, e3, e4⟩
    · refine ⟨y1, .null, ?_, p2, Or.inl ⟨e, ?_, e2, rfl, e4⟩⟩
      · rw [b19, if_pos e3, fin y1 e n e2 e4]
      · exact tRd_l e1
    · obtain ⟨hTV, hsT⟩ := tCl_V hN hx.2.1 e1
      have hrd : tRd T (f + 1) n s b = if T.1 ≤ s' then .inr b' else if Bt T s' = 59 then tRd T f (n + 1) (nx' T s') b' else .inl (ft s' 0) := tRd_r e1
      obtain ⟨y2, q1, q2, q3, q4, q5⟩ := i_follows (L := L) (xs := xs) (d + 2) hT hV e3
      have hg2 : gTo y2 t = b'.1 := by rw [gTo_off q2 (fun o q1 q2 => by omega), e4]
      have o2 : Off (Dt6 t) y y2 := Off_trans p2 (Off_1t q2)
      by_cases h0 : T.1 ≤ s'
      · have h59 : ¬ Bt T s' = 59 := by rw [Bt_ge h0]; decide
        refine ⟨y2, .ref t, ?_, o2, Or.inr ⟨b', by rw [hrd, if_pos h0], rfl, hg2, hTV⟩⟩
        rw [b19, if_neg (by rw [e2]; decide), q1, some_bind', if_pos (z0 (fun z => h59 (of_decide_eq_true z))), bX10_read_52 (hv1 := rfl), bX10_read_53 (hv1 := rfl), bX10_read_19 (hv1 := rfl), if_pos rfl, bX10_read_60 (hv1 := rfl), TR_tape hR, some_bind', Ta_fault hT, some_bind', q3 h0, if_neg (fun z => z rfl), bX10_read_75 (hw0 := rfl)]
      · by_cases h59 : Bt T s' = 59
        · by_cases n40 : n = 40
          · exfalso
            by_cases h4 : kW T s = 4
            · unfold tCl at e1
              rw [if_pos h4] at e1
              cases e1
            · rw [tCl_full h4 (Or.inl n40)] at e1
              cases e1
          · obtain ⟨y3, v, w1, w2, w3⟩ := ih (n + 1) (nx' T s') b' y2 (by omega) (by omega) (q4 h59) hg2 (Or.inr ⟨by omega, hTV⟩)
            refine ⟨y3, v, ?_, Off_trans o2 w2, by rw [hrd, if_neg h0, if_pos h59]; exact w3⟩
            rw [b19, if_neg (by rw [e2]; decide), q1, some_bind', if_neg (z1 (decide_eq_true h59)), bX10_read_53 (hv1 := rfl), nI_1]
            exact w1
        · have q5 := q5 (by omega) h59
          have hft : 0 < ft s' 0 ∧ ft s' 0 < 10000 := by unfold ft; omega
          refine ⟨y2, .null, ?_, o2, Or.inl ⟨ft s' 0, by rw [hrd, if_neg h0, if_neg h59], hft, rfl, q5⟩⟩
          rw [b19, if_neg (by rw [e2]; decide), q1, some_bind', if_pos (z0 (fun z => h59 (of_decide_eq_true z))), fin y2 _ n hft q5]
end TOWNX2
