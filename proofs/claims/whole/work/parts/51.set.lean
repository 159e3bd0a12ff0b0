/-! what is set: the tape, the rule in force, the seed, notes -/
def byt (x s : Int32) : Nat := (iUshr x s &&& 255).toNatClampNeg
theorem byt_eq (x s : Int32) : iUshr x s &&& 255 = nI (byt x s) ∧ byt x s < 256 := by
  obtain ⟨j, hj, e⟩ := pk_andE (iUshr x s) (m := 255) 8 rfl
  unfold byt
  rw [e, nI_clamp (by omega)]
  exact ⟨rfl, by omega⟩
theorem low_8 (x : Int32) {s : Int32} {k : Nat} (hk : k ≤ 24) (h1 : ((s &&& 31).toBitVec.smod 32).toNat = k) (h2 : ((s.toUInt32 &&& Int32.toUInt32 31).toBitVec % 32).toNat = k) : (iShr x s).toInt8.toInt32 = (nI (byt x s)).toInt8.toInt32 := by
  rw [← (byt_eq x s).1]
  refine congrArg Int8.toInt32 ?_
  rw [← Int8.toBitVec_inj, Int32.toBitVec_toInt8, Int32.toBitVec_toInt8]
  apply BitVec.eq_of_getLsbD_eq
  intro i hi
  unfold iShr iUshr
  rw [BitVec.getLsbD_signExtend, BitVec.getLsbD_signExtend, Int32.toBitVec_and, BitVec.getLsbD_and, Int32.toBitVec_shiftRight, BitVec.sshiftRight_eq', h1, BitVec.getLsbD_sshiftRight, UInt32.toBitVec_toInt32, UInt32.toBitVec_shiftRight, BitVec.ushiftRight_eq', h2, BitVec.getLsbD_ushiftRight]
  have e255 : (255 : Int32).toBitVec.getLsbD i = true := by
    have : ∀ j : Fin 8, (255 : Int32).toBitVec.getLsbD j.val = true := by decide +kernel
    exact this ⟨i, hi⟩
  rw [e255]
  simp [hi, show i < 32 by omega, show ¬ 32 ≤ i by omega, show k + i < 32 by omega]
def put1 (t : Nat × (Nat → Nat)) (b : Nat) : Nat × (Nat → Nat) := (t.1 + 1, fun i => if i = t.1 then b else t.2 i)
def put4 (t : Nat × (Nat → Nat)) (x : Int32) : Nat × (Nat → Nat) := put1 (put1 (put1 (put1 t (byt x 24)) (byt x 16)) (byt x 8)) (byt x 0)
def VTa (t : Nat × (Nat → Nat)) : Prop := t.1 ≤ 400 ∧ ∀ i, i < t.1 → t.2 i < 256
theorem VTa_1 {t : Nat × (Nat → Nat)} {b : Nat} (h : VTa t) (h4 : t.1 < 400) (hb : b < 256) : VTa (put1 t b) := by
  refine ⟨h4, fun i hi => ?_⟩
  show (if i = t.1 then b else t.2 i) < 256
  have hi : i < t.1 + 1 := hi
  by_cases e : i = t.1
  · rw [if_pos e]
    exact hb
  · rw [if_neg e]
    exact h.2 i (by omega)
theorem VTa_4 {t : Nat × (Nat → Nat)} (h : VTa t) (h4 : t.1 + 4 ≤ 400) (x : Int32) : VTa (put4 t x) := VTa_1 (VTa_1 (VTa_1 (VTa_1 h (by omega) (byt_eq _ _).2) (by show t.1 + 1 < 400; omega) (byt_eq _ _).2) (by show t.1 + 1 + 1 < 400; omega) (byt_eq _ _).2) (by show t.1 + 1 + 1 + 1 < 400; omega) (byt_eq _ _).2
section SETS
variable {L : Nat} {xs : Nat → Int32} {W : WD}
theorem v_addX (d : Nat) {sh : List Sh} {y : ST} (hT : isTa sh 1) {t : Nat × (Nat → Nat)} (hx : XTa y t) (h4 : t.1 + 4 ≤ 400) (v : Int32) : ∃ y', cV (ZZ L xs) (d + 1) mX8_add [.ref 1, .int v] (HP sh y) = some (HP sh y') ∧ Off (fun o => o = 1 ∨ o = 2) y y' ∧ XTa y' (put4 t v) := by
  have step : ∀ (t : Nat × (Nat → Nat)) (y : ST) (s : Int32), ¬ s < 0 → XTa y t → t.1 < 400 → ∃ y', RS (ZZ L xs) (d + 1) mX8_add 3 [some (.ref 1), some (.int v), some (.int s)] [] (HP sh y) = RS (ZZ L xs) (d + 1) mX8_add 3 [some (.ref 1), some (.int v), some (.int (s + (-8)))] [] (HP sh y') ∧ Off (fun o => o = 1 ∨ o = 2) y y' ∧ XTa y' (put1 t (byt v s)) := by
    intro t y s hs hx ht
    obtain ⟨e1, e2⟩ := byt_eq v s
    have w1 : (sA y 2 (upd (y.2.2.2.1 2) t.1 (nI (byt v s)))).1 1 1 = nI t.1 := hx.1
    refine ⟨sI (sA y 2 (upd (y.2.2.2.1 2) t.1 (nI (byt v s)))) 1 1 (nI (t.1 + 1)), ?_, Off_sI (Off_sA (Off_refl _ _) (by omega) _) (by omega) _ _, ?_, fun i hi => ?_⟩
    · rw [bX8_add_3, if_neg hs, Ta_length hT, some_bind', hx.1, Ta_bytes hT, some_bind', lenA (by decide) hT.2, some_bind', if_neg (show ¬ Int32.ofNat 400 ≤ nI t.1 from nI_ge ht (by decide)), some_bind', some_bind', e1, Tau_bytes hT _ ht, some_bind', Ta_length hT, some_bind', w1, Taw_length hT, some_bind', nI_1, bX8_add_45]
    · show (if 1 = 1 ∧ 1 = 1 then nI (t.1 + 1) else y.1 1 1) = _
      rw [if_pos ⟨rfl, rfl⟩]
      rfl
    · have hi : i < t.1 + 1 := hi
      show (sA y 2 (upd (y.2.2.2.1 2) t.1 (nI (byt v s)))).2.2.2.1 2 i = nI (if i = t.1 then byt v s else t.2 i)
      rw [sA_at]
      by_cases e : i = t.1
      · rw [if_pos e, e, upd_at]
      · rw [if_neg e, upd_ne _ _ e]
        exact hx.2 i (by omega)
  obtain ⟨y1, a1, a2, a3⟩ := step t y 24 (by decide) hx (by omega)
  obtain ⟨y2, b1, b2, b3⟩ := step _ y1 16 (by decide) a3 (by show t.1 + 1 < 400; omega)
  obtain ⟨y3, c1, c2, c3⟩ := step _ y2 8 (by decide) b3 (by show t.1 + 1 + 1 < 400; omega)
  obtain ⟨y4, d1, d2, d3⟩ := step _ y3 0 (by decide) c3 (by show t.1 + 1 + 1 + 1 < 400; omega)
  refine ⟨y4, cV_of ?_, Off_trans (Off_trans (Off_trans a2 b2) c2) d2, d3⟩
  show RS (ZZ L xs) (d + 1) mX8_add 0 [some (.ref 1), some (.int v), none] [] _ = _
  rw [bX8_add_0]
  refine Eq.trans a1 (Eq.trans b1 (Eq.trans c1 (Eq.trans d1 ?_)))
  rw [bX8_add_3, if_pos (by decide)]
def MnT (m m' : MM) : Prop := (∀ b, b ≠ 27 → m'.2.1 b = m.2.1 b) ∧ ∀ k, k ≠ 28 → m'.1 k = m.1 k
theorem MnT_trans {a b c : MM} (h : MnT a b) (g : MnT b c) : MnT a c := ⟨fun r hr => (g.1 r hr).trans (h.1 r hr), fun k hk => (g.2 k hk).trans (h.2 k hk)⟩
theorem v_putM (d : Nat) {sh : List Sh} {x : ST} {m : MM} (hM : isMo sh) {t : Nat × (Nat → Nat)} (hi : MTa m t) (h4 : t.1 + 4 ≤ 400) (v : Int32) : ∃ m', cV (ZZ L xs) (d + 1) mX13_put [.ref 259, .int v] (HP sh (pM x m)) = some (HP sh (pM x m')) ∧ MnT m m' ∧ MTa m' (put4 t v) := by
  have step : ∀ (t : Nat × (Nat → Nat)) (m : MM) (s : Int32), ¬ s < 0 → (iShr v s).toInt8.toInt32 = (nI (byt v s)).toInt8.toInt32 → MTa m t → t.1 < 400 → ∃ m', RS (ZZ L xs) (d + 1) mX13_put 3 [some (.ref 259), some (.int v), some (.int s)] [] (HP sh (pM x m)) = RS (ZZ L xs) (d + 1) mX13_put 3 [some (.ref 259), some (.int v), some (.int (s + (-8)))] [] (HP sh (pM x m')) ∧ MnT m m' ∧ MTa m' (put1 t (byt v s)) := by
    intro t m s hs hl hi ht
    have w1 : ∀ u, (mA m 27 t.1 u).1 28 = nI t.1 := fun u => hi.1
    refine ⟨mI (mA m 27 t.1 (nI (byt v s)).toInt8.toInt32) 28 (nI (t.1 + 1)), ?_, ⟨fun b hb => mA_ne _ _ _ hb, fun k hk => mI_ne _ _ hk⟩, mI_eq _ _ _, fun i hi2 => ?_⟩
    · rw [bX13_put_3, if_neg hs, M_tape hM, some_bind', M_taped hM, some_bind', hi.1, Mu_tape hM ht, some_bind', M_taped hM, some_bind', w1, Mw_taped hM, some_bind', nI_1, pk_vb, hl]
    · have hi2 : i < t.1 + 1 := hi2
      show (mA m 27 t.1 (nI (byt v s)).toInt8.toInt32).2.1 27 i = (nI (if i = t.1 then byt v s else t.2 i)).toInt8.toInt32
      rw [mA_eq]
      by_cases e : i = t.1
      · rw [if_pos e, e, upd_at]
      · rw [if_neg e, upd_ne _ _ e]
        exact hi.2 i (by omega)
  obtain ⟨y1, a1, a2, a3⟩ := step t m 24 (by decide) (low_8 v (k := 24) (by decide) (by decide +kernel) (by decide +kernel)) hi (by omega)
  obtain ⟨y2, b1, b2, b3⟩ := step _ y1 16 (by decide) (low_8 v (k := 16) (by decide) (by decide +kernel) (by decide +kernel)) a3 (by show t.1 + 1 < 400; omega)
  obtain ⟨y3, c1, c2, c3⟩ := step _ y2 8 (by decide) (low_8 v (k := 8) (by decide) (by decide +kernel) (by decide +kernel)) b3 (by show t.1 + 1 + 1 < 400; omega)
  obtain ⟨y4, d1, d2, d3⟩ := step _ y3 0 (by decide) (low_8 v (k := 0) (by decide) (by decide +kernel) (by decide +kernel)) c3 (by show t.1 + 1 + 1 + 1 < 400; omega)
  refine ⟨y4, cV_of ?_, MnT_trans (MnT_trans (MnT_trans a2 b2) c2) d2, d3⟩
  show RS (ZZ L xs) (d + 1) mX13_put 0 [some (.ref 259), some (.int v), none] [] _ = _
  rw [bX13_put_0]
  refine Eq.trans a1 (Eq.trans b1 (Eq.trans c1 (Eq.trans d1 ?_)))
  rw [bX13_put_3, if_pos (by decide)]
/-- the tape alone is another -/
theorem XI_t {sh : List Sh} {x y : ST} {t : Nat × (Nat → Nat)} (h : Off (fun o => o = 1 ∨ o = 2) x y) (ht : XTa y t) (hx : XI L xs sh x W) : XI L xs sh y (t, W.2) := by
  obtain ⟨a1, a2, a3, a4, a5, a6, a7⟩ := hx
  refine ⟨a1, ht, ?_, XTu_off h (by omega) a4, XSc_off h (fun o ho => by omega) (fun t o _ ht q1 q2 => by omega) a5, XIm_off h (by omega) (fun o q1 q2 => by omega) (fun o q => by omega) a6, XRl_off h (by omega) (by omega) (fun o q1 q2 => by omega) (fun o q => by omega) a7⟩
  rw [gCk_off h (fun o q1 q2 => by omega)]
  exact a3
theorem MI_t {m m' : MM} {t : Nat × (Nat → Nat)} (h : MnT m m') (ht : MTa m' t) (hv : VW W) (hi : MI L xs m W) : MI L xs m' (t, W.2) := by
  have hJ : SQM m m' := ⟨h.2 51 (by decide), fun a ha i _ => congrFun (h.1 a (by omega)) i⟩
  obtain ⟨-, b, c, ⟨d1, d2⟩, e⟩ := hi
  obtain ⟨-, ⟨v1, -⟩, v2, v3, -⟩ := hv
  refine ⟨ht, MSc_q hJ v1 b, fun k hk => ?_, ⟨(h.2 32 (by decide)).trans d1, (h.2 37 (by decide)).trans d2⟩, fun i hi => MRu_fr (fun a h1 h2 j _ => congrFun (h.1 a (by omega)) j) (e i hi)⟩
  have h46 := congrFun (h.1 46 (by decide)) k
  refine ⟨fun hg => h46.trans ((c k hk).1 hg), fun s hg => ⟨h46.trans ((c k hk).2 s hg).1, ?_⟩⟩
  exact MSc_q (unI_q fun t _ => congrFun (h.1 45 (by decide)) _) (v2 k s hk hg).1 ((c k hk).2 s hg).2
theorem VW_t {t : Nat × (Nat → Nat)} (h : VTa t) (hv : VW W) : VW (t, W.2) := ⟨h, hv.2⟩
theorem OffM_of {D : Nat → Prop} {x y : ST} (h : Off D x y) (hd : ∀ o, D o → o < 259 ∨ 307 ≤ o) : OffM x y := Off_mono h hd
theorem Sp_feed (hv : VW W) (a b c e f : Int32) : Step L xs W mX12_feed mX13_feed [.int a, .int b, .int c, .int e, .int f] := by
  have h4 : W.1.1 ≤ 400 := hv.1.1
  have hadd : nI W.1.1 + 20 = nI (W.1.1 + 20) := nI_add _ 20
  by_cases h : W.1.1 + 20 ≤ 400
  · have hle : nI (W.1.1 + 20) ≤ 400 := nI_le (b := 400) h (by decide)
    have l1 : (put4 W.1 a).1 = W.1.1 + 4 := rfl
    have l2 : (put4 (put4 W.1 a) b).1 = W.1.1 + 8 := rfl
    have l3 : (put4 (put4 (put4 W.1 a) b) c).1 = W.1.1 + 12 := rfl
    have l4 : (put4 (put4 (put4 (put4 W.1 a) b) c) e).1 = W.1.1 + 16 := rfl
    have l5 : (put4 (put4 (put4 (put4 (put4 W.1 a) b) c) e) f).1 = W.1.1 + 20 := rfl
    refine ⟨(put4 (put4 (put4 (put4 (put4 W.1 a) b) c) e) f, W.2), nI (W.1.1 + 20), fun sh y d hx => ?_, fun sh x m d hM hi => ?_⟩
    · have hT : isTa sh 1 := hx.1.1.2.1
      have hw := hx.1.1.1
      obtain ⟨y1, a1, a2, a3⟩ := v_addX (L := L) (xs := xs) (d + 58) hT hx.2.1 (by omega) a
      obtain ⟨y2, b1, b2, b3⟩ := v_addX (L := L) (xs := xs) (d + 58) hT a3 (by omega) b
      obtain ⟨y3, c1, c2, c3⟩ := v_addX (L := L) (xs := xs) (d + 58) hT b3 (by omega) c
      obtain ⟨y4, d1, d2, d3⟩ := v_addX (L := L) (xs := xs) (d + 58) hT c3 (by omega) e
      obtain ⟨y5, e1, e2, e3⟩ := v_addX (L := L) (xs := xs) (d + 58) hT d3 (by omega) f
      have off := Off_trans (Off_trans (Off_trans (Off_trans a2 b2) c2) d2) e2
      refine ⟨sh, y5, cI_of ?_, XI_t off e3 hx, OffM_of off (fun o ho => by omega), Gr_refl _⟩
      show RS (ZZ L xs) (d + 60) mX12_feed 0 [some (.ref 0), some (.int a), some (.int b), some (.int c), some (.int e), some (.int f)] [] _ = _
      rw [bX12_feed_0, WM_tape hw, some_bind', Ta_length hT, some_bind', hx.2.1.1, hadd, if_pos hle, some_bind', Ta_is hT, some_bind', a1, some_bind', WM_tape hw, some_bind', Ta_is hT, some_bind', b1, some_bind', WM_tape hw, some_bind', Ta_is hT, some_bind', c1, some_bind', WM_tape hw, some_bind', Ta_is hT, some_bind', d1, some_bind', WM_tape hw, some_bind', Ta_is hT, some_bind', e1, some_bind', WM_tape hw, some_bind', Ta_length hT, some_bind', e3.1, l5]
    · obtain ⟨y1, a1, a2, a3⟩ := v_putM (L := L) (xs := xs) (x := x) (d + 58) hM hi.1 (by omega) a
      obtain ⟨y2, b1, b2, b3⟩ := v_putM (L := L) (xs := xs) (x := x) (d + 58) hM a3 (by omega) b
      obtain ⟨y3, c1, c2, c3⟩ := v_putM (L := L) (xs := xs) (x := x) (d + 58) hM b3 (by omega) c
      obtain ⟨y4, d1, d2, d3⟩ := v_putM (L := L) (xs := xs) (x := x) (d + 58) hM c3 (by omega) e
      obtain ⟨y5, e1, e2, e3⟩ := v_putM (L := L) (xs := xs) (x := x) (d + 58) hM d3 (by omega) f
      have hn := MnT_trans (MnT_trans (MnT_trans (MnT_trans a2 b2) c2) d2) e2
      refine ⟨y5, cI_of ?_, MI_t hn e3 hv hi, VW_t (VTa_4 (VTa_4 (VTa_4 (VTa_4 (VTa_4 hv.1 (by omega) a) (by omega) b) (by omega) c) (by omega) e) (by omega) f) hv⟩
      show RS (ZZ L xs) (d + 60) mX13_feed 0 [some (.ref 259), some (.int a), some (.int b), some (.int c), some (.int e), some (.int f)] [] _ = _
      rw [bX13_feed_0, M_taped hM, some_bind', hi.1.1, hadd, if_pos hle, M_is hM, some_bind', a1, some_bind', M_is hM, some_bind', b1, some_bind', M_is hM, some_bind', c1, some_bind', M_is hM, some_bind', d1, some_bind', M_is hM, some_bind', e1, some_bind', M_taped hM, some_bind', e3.1, l5]
  · have hle : ¬ nI (W.1.1 + 20) ≤ 400 := nI_ge (a := 400) (by omega) (by omega)
    refine ⟨W, -1, Xsame fun sh y d hx => ?_, Msame hv fun sh x m d hM hi => ?_⟩
    · show RS (ZZ L xs) (d + 60) mX12_feed 0 [some (.ref 0), some (.int a), some (.int b), some (.int c), some (.int e), some (.int f)] [] _ = _
      rw [bX12_feed_0, WM_tape hx.1.1.1, some_bind', Ta_length hx.1.1.2.1, some_bind', hx.2.1.1, hadd, if_neg hle]
    · show RS (ZZ L xs) (d + 60) mX13_feed 0 [some (.ref 259), some (.int a), some (.int b), some (.int c), some (.int e), some (.int f)] [] _ = _
      rw [bX13_feed_0, M_taped hM, some_bind', hi.1.1, hadd, if_neg hle]
theorem Sp_end (hv : VW W) (a : Int32) : Step L xs W mX12_end mX13_end [.int a] := by
  have h4 : W.1.1 ≤ 400 := hv.1.1
  by_cases h0 : a < 0
  · refine ⟨W, -1, Xsame fun sh y d hx => ?_, Msame hv fun sh x m d hM hi => ?_⟩
    · show RS (ZZ L xs) (d + 60) mX12_end 0 [some (.ref 0), some (.int a)] [] _ = _
      rw [bX12_end_0, if_pos h0, bX12_end_15]
    · show RS (ZZ L xs) (d + 60) mX13_end 0 [some (.ref 259), some (.int a)] [] _ = _
      rw [bX13_end_0, if_pos h0, bX13_end_12]
  · obtain ⟨n, hn, rfl⟩ := nI_of h0
    by_cases hle : n ≤ W.1.1
    · refine ⟨((n, W.1.2), W.2), nI n, fun sh y d hx => ?_, fun sh x m d hM hi => ?_⟩
      · have off : Off (fun o => o = 1 ∨ o = 2) y (sI y 1 1 (nI n)) := Off_sI (Off_refl _ _) (by omega) _ _
        refine ⟨sh, sI y 1 1 (nI n), cI_of ?_, XI_t off ⟨?_, fun i hi => hx.2.1.2 i (Nat.lt_of_lt_of_le hi hle)⟩ hx, OffM_of off (fun o ho => by omega), Gr_refl _⟩
        · show RS (ZZ L xs) (d + 60) mX12_end 0 [some (.ref 0), some (.int (nI n))] [] _ = _
          rw [bX12_end_0, if_neg h0, WM_tape hx.1.1.1, some_bind', Ta_length hx.1.1.2.1, some_bind', hx.2.1.1, if_pos (nI_le hle (by omega)), some_bind', Taw_length hx.1.1.2.1, some_bind']
        · show (if 1 = 1 ∧ 1 = 1 then nI n else y.1 1 1) = _
          rw [if_pos ⟨rfl, rfl⟩]
      · refine ⟨mI m 28 (nI n), cI_of ?_, MI_t (m := m) ⟨fun _ _ => rfl, fun k hk => mI_ne _ _ hk⟩ ⟨mI_eq _ _ _, fun i hi2 => hi.1.2 i (Nat.lt_of_lt_of_le hi2 hle)⟩ hv hi, VW_t ⟨by show n ≤ 400; omega, fun i hi2 => hv.1.2 i (Nat.lt_of_lt_of_le hi2 hle)⟩ hv⟩
        show RS (ZZ L xs) (d + 60) mX13_end 0 [some (.ref 259), some (.int (nI n))] [] _ = _
        rw [bX13_end_0, if_neg h0, M_taped hM, some_bind', hi.1.1, if_pos (nI_le hle (by omega)), Mw_taped hM, some_bind']
    · have hle : ¬ nI n ≤ nI W.1.1 := nI_ge (by omega) hn
      refine ⟨W, -1, Xsame fun sh y d hx => ?_, Msame hv fun sh x m d hM hi => ?_⟩
      · show RS (ZZ L xs) (d + 60) mX12_end 0 [some (.ref 0), some (.int (nI n))] [] _ = _
        rw [bX12_end_0, if_neg h0, WM_tape hx.1.1.1, some_bind', Ta_length hx.1.1.2.1, some_bind', hx.2.1.1, if_neg hle, bX12_end_15]
      · show RS (ZZ L xs) (d + 60) mX13_end 0 [some (.ref 259), some (.int (nI n))] [] _ = _
        rw [bX13_end_0, if_neg h0, M_taped hM, some_bind', hi.1.1, if_neg hle, bX13_end_12]
end SETS
