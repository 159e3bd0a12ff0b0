/-! the class's rule, as it is built -/
def RSt (y : ST) (r v sm fa st : Nat) : Prop := (y.1 r 0 = nI v ∧ y.1 r 3 = nI sm ∧ y.1 r 6 = nI fa ∧ y.1 r 7 = nI st) ∧ v ≤ 60 ∧ sm ≤ 60 ∧ fa ≤ 60 ∧ st ≤ 256
def okV (y : ST) (r v : Nat) : Prop := ∀ k, k < v → (∃ n, n < 2 ^ 31 ∧ y.2.2.2.1 (r + 2) k = nI n) ∨ ∃ w, w < 12 ∧ y.2.2.2.1 (r + 2) k = nI w ^^^ (-1)
def Drl (r o : Nat) : Prop := o = 1 ∨ r ≤ o ∧ o < r + 7
def CXr (sh : List Sh) (r : Nat) : Prop := isTa sh 1 ∧ isRR sh 195 ∧ isRu sh r ∧ (r = 197 ∨ 307 ≤ r)
def PX (y : ST) (T : TP) (s r v sm fa st : Nat) : Prop := TSt y T s 0 ∧ y.2.2.1 195 1 = .ref r ∧ RSt y r v sm fa st ∧ okV y r v
/-- a fault: the rule is whatever it is -/
def RB (y : ST) (r : Nat) : Prop := y.2.2.1 195 1 = .ref r ∧ ∃ v sm fa st, RSt y r v sm fa st
def FTr (y y' : ST) (r e : Nat) : Prop := Off (Drl r) y y' ∧ y'.1 1 4 = nI e ∧ (0 < e ∧ e < 10000) ∧ RB y' r
/-- rows up to there are as they were -/
def Agv (y z : ST) (r v sm : Nat) : Prop := (∀ k, k < v → z.2.2.2.1 (r + 1) k = y.2.2.2.1 (r + 1) k ∧ z.2.2.2.1 (r + 2) k = y.2.2.2.1 (r + 2) k) ∧ ∀ k, k < sm → z.2.2.2.1 (r + 3) k = y.2.2.2.1 (r + 3) k ∧ z.2.2.2.1 (r + 4) k = y.2.2.2.1 (r + 4) k
def Agc (y z : ST) (r i j : Nat) : Prop := ∀ k, i ≤ k → k < j → z.2.2.2.1 (r + 5) k = y.2.2.2.1 (r + 5) k ∧ z.2.2.2.1 (r + 6) k = y.2.2.2.1 (r + 6) k
theorem Agv_refl (y : ST) (r v sm : Nat) : Agv y y r v sm := ⟨fun _ _ => ⟨rfl, rfl⟩, fun _ _ => ⟨rfl, rfl⟩⟩
theorem Agc_refl (y : ST) (r i j : Nat) : Agc y y r i j := fun _ _ _ => ⟨rfl, rfl⟩
theorem Agv_trans {x y z : ST} {r v sm v' sm' : Nat} (h : Agv x y r v sm) (g : Agv y z r v' sm') (h1 : v ≤ v') (h2 : sm ≤ sm') : Agv x z r v sm := ⟨fun k hk => ⟨(g.1 k (by omega)).1.trans (h.1 k hk).1, (g.1 k (by omega)).2.trans (h.1 k hk).2⟩, fun k hk => ⟨(g.2 k (by omega)).1.trans (h.2 k hk).1, (g.2 k (by omega)).2.trans (h.2 k hk).2⟩⟩
theorem Agc_trans {x y z : ST} {r i j i' j' : Nat} (h : Agc x y r i j) (g : Agc y z r i' j') (h1 : i' ≤ i) (h2 : j ≤ j') : Agc x z r i j := fun k q1 q2 => ⟨(g k (by omega) (by omega)).1.trans (h k q1 q2).1, (g k (by omega) (by omega)).2.trans (h k q1 q2).2⟩
theorem Off_1r {r : Nat} {x y : ST} (h : Off (fun o => o = 1) x y) : Off (Drl r) x y := Off_mono h (fun o q => Or.inl q)
section RX1
variable {L : Nat} {xs : Nat → Int32} {sh : List Sh} {y : ST} {T : TP} {s r v sm fa st : Nat}
theorem Agv_off {z : ST} (h : Off (fun o => o = 1) y z) (hr : 1 < r) (v sm : Nat) : Agv y z r v sm := by
  have e := fun j (hj : 1 ≤ j) => (h (r + j) (by omega)).2.2.2.1
  exact ⟨fun k _ => ⟨congrFun (e 1 (by omega)) k, congrFun (e 2 (by omega)) k⟩, fun k _ => ⟨congrFun (e 3 (by omega)) k, congrFun (e 4 (by omega)) k⟩⟩
theorem Agc_off {z : ST} (h : Off (fun o => o = 1) y z) (hr : 1 < r) (i j : Nat) : Agc y z r i j := by
  have e := fun j (hj : 1 ≤ j) => (h (r + j) (by omega)).2.2.2.1
  exact fun k _ _ => ⟨congrFun (e 5 (by omega)) k, congrFun (e 6 (by omega)) k⟩
theorem RSt_off {D : Nat → Prop} {z : ST} (h : Off D y z) (hr : ¬ D r) (hs : RSt y r v sm fa st) : RSt z r v sm fa st := by
  unfold RSt at *
  rw [(h r hr).1]
  exact hs
theorem RB_of (hp : PX y T s r v sm fa st) {z : ST} (h : Off (fun o => o = 1) y z) (hr : 1 < r) : RB z r := by
  refine ⟨?_, v, sm, fa, st, RSt_off h (by omega) hp.2.2.1⟩
  rw [(h 195 (by decide)).2.2.1]
  exact hp.2.1
theorem PX_off (hp : PX y T s r v sm fa st) {z : ST} {s' : Nat} (h : Off (fun o => o = 1) y z) (hr : 1 < r) (ht : TSt z T s' 0) : PX z T s' r v sm fa st := by
  refine ⟨ht, ?_, RSt_off h (by omega) hp.2.2.1, ?_⟩
  · rw [(h 195 (by decide)).2.2.1]
    exact hp.2.1
  · unfold okV
    rw [(h (r + 2) (by omega)).2.2.2.1]
    exact hp.2.2.2
theorem rr_rule (hC : CXr sh r) {z : ST} (h : z.2.2.1 195 1 = .ref r) : fR (HP sh z) (.ref 195) 5 1 = some (.ref r) := by
  have := RR_rule hC.2.1 z (by rw [h]; rfl)
  rw [this, h]
theorem CXr_r (hC : CXr sh r) : 1 < r := by
  have := hC.2.2.2
  omega
/-! its words -/
theorem wix_wN (T : TP) (s : Nat) : ∀ (ws : List (List Nat)) (q : Nat), wix T s ws q = if wN T s ws q = q + ws.length then -1 else nI (wN T s ws q) := by
  intro ws
  induction ws with
  | nil => intro q; exact (if_pos rfl).symm
  | cons w ws ih =>
    intro q
    show (if wdIs T s w = true then nI q else wix T s ws (q + 1)) = if (if wdIs T s w = true then q else wN T s ws (q + 1)) = q + (ws.length + 1) then -1 else nI (if wdIs T s w = true then q else wN T s ws (q + 1))
    by_cases h : wdIs T s w = true
    · rw [if_pos h, if_pos h, if_neg (by omega)]
    · rw [if_neg h, if_neg h, ih (q + 1), show q + 1 + ws.length = q + (ws.length + 1) by omega]
theorem kVr_kd {T : TP} {s : Nat} (hk : ¬ kd T s = 1) : kVr T s = 12 := by
  have : ∀ (ws : List (List Nat)) (q : Nat), (∀ w, w ∈ ws → w ≠ []) → wN T s ws q = q + ws.length := by
    intro ws
    induction ws with
    | nil => intro q _; rfl
    | cons w ws ih =>
      intro q hw
      show (if wdIs T s w = true then q else wN T s ws (q + 1)) = q + (ws.length + 1)
      rw [wdIs_kd (hw w List.mem_cons_self) hk, if_neg (by decide), ih (q + 1) (fun v hv => hw v (List.mem_cons_of_mem _ hv))]
      omega
  exact this wd12 0 (by decide)
theorem S_words : isS 3 (jn wd12) := by unfold isS; decide
theorem i_words12 (d : Nat) (hT : isTa sh 1) (hV : VTa T) {f : Int32} (hx : TSt y T s f) : cI (ZZ L xs) (d + 1) mX8_wordAmong [.ref 1, .retAddr 4] (HP sh y) = some (HP sh y, if kVr T s = 12 then -1 else nI (kVr T s)) :=
  (i_words d hT hV S_words (by decide) (by decide) (by decide) hx).trans (by rw [wix_wN]; rfl)
theorem i_word1 (d : Nat) (hT : isTa sh 1) (hV : VTa T) {f : Int32} {k : Nat} {w : List Nat} (hs : isS k (jn [w])) (hw : (jn [w]).length ≤ 100) (hb : ∀ x, x ∈ jn [w] → x < 2 ^ 31) (hn : ∀ v, v ∈ [w] → v ≠ [] ∧ ∀ c, c ∈ v → c ≠ 32) (hx : TSt y T s f) : cI (ZZ L xs) (d + 1) mX8_wordAmong [.ref 1, .retAddr (k + 1)] (HP sh y) = some (HP sh y, if wdIs T s w = true then 0 else -1) :=
  (i_words d hT hV hs hw hb hn hx).trans rfl
/-! the rule's own methods -/
theorem i_fullR (d : Nat) (hR : isRu sh r) (hs : RSt y r v sm fa st) : cI (ZZ L xs) (d + 1) mX4_isFull [.ref r] (HP sh y) = some (HP sh y, z01 (decide (60 ≤ v + fa))) := by
  obtain ⟨⟨a1, a2, a3, a4⟩, b1, b2, b3, b4⟩ := hs
  refine cI_of ?_
  show RS (ZZ L xs) (d + 1) mX4_isFull 0 [some (.ref r)] [] _ = _
  rw [bX4_isFull_0, Ru_values hR, some_bind', a1, Ru_facts hR, some_bind', a3, nI_add]
  by_cases h : 60 ≤ v + fa
  · rw [if_neg (show ¬ nI (v + fa) < 60 from nI_nlt (b := 60) h (by omega)), bX4_isFull_19, if_pos (Or.inr rfl), decide_eq_true h]
    rfl
  · rw [if_pos (show nI (v + fa) < 60 from nI_lt (b := 60) (by omega) (by decide)), bX4_isFull_19, if_pos (Or.inl rfl), decide_eq_false h]
    rfl
def encE (en : Nat × Nat) : Int32 := if en.1 = 0 then nI en.2 else nI en.2 ^^^ (-1)
theorem v_addValR (d : Nat) (hR : isRu sh r) (hs : RSt y r v sm fa st) (hv : v < 60) (j t : Int32) : cV (ZZ L xs) (d + 1) mX4_addValue [.ref r, .int j, .int t] (HP sh y) = some (HP sh (sI (sA (sA y (r + 1) (upd (y.2.2.2.1 (r + 1)) v j)) (r + 2) (upd (y.2.2.2.1 (r + 2)) v t)) r 0 (nI (v + 1)))) := by
  obtain ⟨⟨a1, a2, a3, a4⟩, b1, b2, b3, b4⟩ := hs
  refine cV_of ?_
  show RS (ZZ L xs) (d + 1) mX4_addValue 0 [some (.ref r), some (.int j), some (.int t)] [] _ = _
  have e1 : (sA y (r + 1) (upd (y.2.2.2.1 (r + 1)) v j)).1 r 0 = nI v := a1
  have e2 : (sA y (r + 1) (upd (y.2.2.2.1 (r + 1)) v j)).2.2.2.1 (r + 2) = y.2.2.2.1 (r + 2) := sA_ne _ _ (by omega)
  have e3 : (sA (sA y (r + 1) (upd (y.2.2.2.1 (r + 1)) v j)) (r + 2) (upd (y.2.2.2.1 (r + 2)) v t)).1 r 0 = nI v := a1
  rw [bX4_addValue_0, Ru_values hR, some_bind', a1, if_neg (show ¬ (60 : Int32) ≤ nI v from nI_ge (b := 60) hv (by decide)), Ru_join hR, some_bind', some_bind', Ruu_join hR _ hv, some_bind', Ru_value hR, some_bind', Ru_values hR, some_bind', e1, Ruu_value hR _ hv, some_bind', e2, Ru_values hR, some_bind', e3, Ruw_values hR, some_bind', nI_1, bX4_addValue_39]
/-- what a value comes to -/
def xv (u : Nat → Int64) (w : Int32) : Int64 := if 0 ≤ w then w.toInt64 else u (w ^^^ (-1)).toNatClampNeg
theorem not_not32 (w : Int32) : w ^^^ (-1) ^^^ (-1) = w := by
  rw [Int32.xor_assoc]
  show w ^^^ ((-1 : Int32) ^^^ (-1)) = w
  rw [show ((-1 : Int32) ^^^ (-1)) = 0 by decide]
  exact Int32.xor_zero
theorem neg12 : ∀ w : Fin 12, ¬ (0 : Int32) ≤ nI w.val ^^^ (-1) := by decide +kernel
theorem xv_n (u : Nat → Int64) {n : Nat} (h : n < 2 ^ 31) : xv u (nI n) = (nI n).toInt64 := if_pos (nI_pos' h)
theorem xv_w (u : Nat → Int64) {w : Nat} (h : w < 12) : xv u (nI w ^^^ (-1)) = u w := by
  unfold xv
  rw [if_neg (neg12 ⟨w, h⟩), not_not32, nI_clamp (by omega)]
theorem x_addV (d : Nat) (hC : CXr sh r) (hV : VTa T) (hp : PX y T s r v sm fa st) (hc : v + fa ≤ 60) (j : Int32) : ∃ y' rr, cI (ZZ L xs) (d + 3) mX5_addValue [.ref 195, .int j] (HP sh y) = some (HP sh y', rr) ∧ ((∃ e, pV T s (v + fa) = .inl e ∧ rr = 0 ∧ FTr y y' r e) ∨ ∃ en, pV T s (v + fa) = .inr en ∧ rr = 1 ∧ Off (Drl r) y y' ∧ PX y' T (nx' T s) r (v + 1) sm fa st ∧ Agv y y' r v sm ∧ Agc y y' r 0 256 ∧ (∀ k, y'.2.2.2.1 (r + 3) k = y.2.2.2.1 (r + 3) k ∧ y'.2.2.2.1 (r + 4) k = y.2.2.2.1 (r + 4) k) ∧ y'.2.2.2.1 (r + 1) v = j ∧ ∀ u, xv u (y'.2.2.2.1 (r + 2) v) = evl u [en]) := by
  have h400 := hV.1
  have hr := CXr_r hC
  obtain ⟨hT, hRR, hRu, hr2⟩ := id hC
  have hx := hp.1
  have hs := hp.2.2.1
  have hsT := hx.2.1
  have k3 := kd_3 T s
  have rf : ∀ (c : Nat), c ≤ 4 → ∃ z, cI (ZZ L xs) (d + 2) mX8_refuse [.ref 1, .int (nI c)] (HP sh y) = some (HP sh z, 0) ∧ FTr y z r (ft s c) := fun c hc => by
    obtain ⟨z, q1, q2, q3⟩ := i_refuse (L := L) (xs := xs) (d + 1) hT hx c
    exact ⟨z, q1, Off_1r q2, q3.2.2.2.2.2, by unfold ft; omega, RB_of hp q2 hr⟩
  have b0 : CL (ZZ L xs) (d + 3) mX5_addValue [.ref 195, .int j] (HP sh y) = _ := bX5_addValue_0 (d + 2) 195 j (HP sh y)
  rw [RR_tape hRR, some_bind', Ta_is hT, some_bind', i_words12 (d + 1) hT hV hx, some_bind'] at b0
  -- the last piece
  have b73 : ∀ (en : Nat × Nat) (u2 : Option Value), (kd T s = 2 ∧ rn isD T s - s ≤ 5 ∧ en = (0, nv T s) ∨ ¬ kd T s = 2 ∧ kVr T s < 12 ∧ en = (1, kVr T s)) → CL (ZZ L xs) (d + 3) mX5_addValue [.ref 195, .int j] (HP sh y) = RS (ZZ L xs) (d + 3) mX5_addValue 73 [some (.ref 195), some (.int j), u2, some (.int (encE en))] [] (HP sh y) → ∃ y' rr, cI (ZZ L xs) (d + 3) mX5_addValue [.ref 195, .int j] (HP sh y) = some (HP sh y', rr) ∧ ((∃ e, pV T s (v + fa) = .inl e ∧ rr = 0 ∧ FTr y y' r e) ∨ ∃ en, pV T s (v + fa) = .inr en ∧ rr = 1 ∧ Off (Drl r) y y' ∧ PX y' T (nx' T s) r (v + 1) sm fa st ∧ Agv y y' r v sm ∧ Agc y y' r 0 256 ∧ (∀ k, y'.2.2.2.1 (r + 3) k = y.2.2.2.1 (r + 3) k ∧ y'.2.2.2.1 (r + 4) k = y.2.2.2.1 (r + 4) k) ∧ y'.2.2.2.1 (r + 1) v = j ∧ ∀ u, xv u (y'.2.2.2.1 (r + 2) v) = evl u [en]) := fun en u2 hen hr0 => by
    have hfull := i_fullR (L := L) (xs := xs) (d + 1) hRu hs
    by_cases h60 : v + fa = 60
    · have hpv : pV T s (v + fa) = .inl (ft s 3) := by
        unfold pV
        rcases hen with ⟨e1, e2, -⟩ | ⟨e1, e2, -⟩
        · rw [if_pos e1, if_pos e2, if_pos h60]
        · rw [if_neg e1, if_neg (by omega), if_pos h60]
      obtain ⟨z, q1, q2⟩ := rf 3 (by decide)
      have q1 : cI (ZZ L xs) (d + 2) mX8_refuse [.ref 1, .int 3] (HP sh y) = some (HP sh z, 0) := q1
      refine ⟨z, 0, cI_of ?_, Or.inl ⟨ft s 3, hpv, rfl, q2⟩⟩
      rw [hr0, bX5_addValue_73, rr_rule hC hp.2.1, some_bind', Ru_is hRu, some_bind', hfull, some_bind', if_neg (z1 (decide_eq_true (by omega))), RR_tape hRR, some_bind', Ta_is hT, some_bind', q1, some_bind', if_pos (Or.inl rfl)]
    · have hpv : pV T s (v + fa) = .inr en := by
        unfold pV
        rcases hen with ⟨e1, e2, e3⟩ | ⟨e1, e2, e3⟩
        · rw [if_pos e1, if_pos e2, if_neg h60, e3]
        · rw [if_neg e1, if_neg (by omega), if_neg h60, e3]
      have hv60 : v < 60 := by omega
      obtain ⟨w, hw⟩ : ∃ w, w = sI (sA (sA y (r + 1) (upd (y.2.2.2.1 (r + 1)) v j)) (r + 2) (upd (y.2.2.2.1 (r + 2)) v (encE en))) r 0 (nI (v + 1)) := ⟨_, rfl⟩
      have hadd := v_addValR (L := L) (xs := xs) (d + 1) hRu hs hv60 j (encE en)
      rw [← hw] at hadd
      have ow : Off (fun o => r ≤ o ∧ o < r + 7) y w := by
        rw [hw]
        exact Off_sI (D := fun o => r ≤ o ∧ o < r + 7) (Off_sA (D := fun o => r ≤ o ∧ o < r + 7) (Off_sA (D := fun o => r ≤ o ∧ o < r + 7) (Off_refl _ _) (by omega) _) (by omega) _) (by omega) _ _
      have w1 : w.2.2.2.1 (r + 1) = upd (y.2.2.2.1 (r + 1)) v j := by
        rw [hw]
        show (sA (sA y (r + 1) (upd (y.2.2.2.1 (r + 1)) v j)) (r + 2) (upd (y.2.2.2.1 (r + 2)) v (encE en))).2.2.2.1 (r + 1) = _
        rw [sA_ne _ _ (by omega), sA_at]
      have w2 : w.2.2.2.1 (r + 2) = upd (y.2.2.2.1 (r + 2)) v (encE en) := by
        rw [hw]
        show (sA (sA y (r + 1) (upd (y.2.2.2.1 (r + 1)) v j)) (r + 2) (upd (y.2.2.2.1 (r + 2)) v (encE en))).2.2.2.1 (r + 2) = _
        rw [sA_at]
      have wo : ∀ a, a ≠ r + 1 → a ≠ r + 2 → w.2.2.2.1 a = y.2.2.2.1 a := fun a h1 h2 => by
        rw [hw]
        show (sA (sA y (r + 1) (upd (y.2.2.2.1 (r + 1)) v j)) (r + 2) (upd (y.2.2.2.1 (r + 2)) v (encE en))).2.2.2.1 a = _
        rw [sA_ne _ _ h2, sA_ne _ _ h1]
      have wI' : ∀ k, k ≠ 0 → w.1 r k = y.1 r k := fun k hk => by
        rw [hw]
        show (if r = r ∧ k = 0 then _ else y.1 r k) = _
        rw [if_neg (fun z => hk z.2)]
      have w0 : w.1 r 0 = nI (v + 1) := by
        rw [hw]
        show (if r = r ∧ 0 = 0 then _ else y.1 r 0) = _
        rw [if_pos ⟨rfl, rfl⟩]
      have hpw : PX w T s r (v + 1) sm fa st := by
        obtain ⟨⟨a1, a2, a3, a4⟩, c1, c2, c3, c4⟩ := hs
        refine ⟨TSt_off ow (by omega) (by omega) hx, ?_, ⟨⟨w0, (wI' 3 (by decide)).trans a2, (wI' 6 (by decide)).trans a3, (wI' 7 (by decide)).trans a4⟩, by omega, c2, c3, c4⟩, fun k hk => ?_⟩
        · rw [(ow 195 (by omega)).2.2.1]
          exact hp.2.1
        · rw [w2]
          by_cases e : k = v
          · rw [e, upd_at]
            unfold encE
            rcases hen with ⟨e1, e2, e3⟩ | ⟨e1, e2, e3⟩
            · have := nv_lt e2
              rw [e3, if_pos rfl]
              exact Or.inl ⟨_, by omega, rfl⟩
            · rw [e3, if_neg (show ¬ (1 : Nat) = 0 by decide)]
              exact Or.inr ⟨_, e2, rfl⟩
          · rw [upd_ne _ _ e]
            exact hp.2.2.2 k (by omega)
      obtain ⟨y', a1, a2, a3, -⟩ := v_adv (L := L) (xs := xs) (d) hT hV hpw.1
      have ea : ∀ j, 1 ≤ j → y'.2.2.2.1 (r + j) = w.2.2.2.1 (r + j) := fun j hj => (a2 (r + j) (by omega)).2.2.2.1
      refine ⟨y', 1, cI_of ?_, Or.inr ⟨en, hpv, rfl, Off_trans (Off_mono ow (fun o q => Or.inr q)) (Off_1r a2), PX_off hpw a2 hr a3, ⟨fun k hk => ⟨?_, ?_⟩, fun k _ => ⟨?_, ?_⟩⟩, fun k _ _ => ⟨?_, ?_⟩, fun k => ⟨?_, ?_⟩, ?_, fun u => ?_⟩⟩
      · rw [hr0, bX5_addValue_73, rr_rule hC hp.2.1, some_bind', Ru_is hRu, some_bind', hfull, some_bind', if_pos (z0 (fun q => by have := of_decide_eq_true q; omega)), rr_rule hC hp.2.1, some_bind', Ru_is hRu, some_bind', hadd, some_bind', RR_tape hRR, some_bind', Ta_is hT, some_bind', a1, some_bind', if_pos (Or.inr rfl)]
      · rw [ea 1 (by omega), w1, upd_ne _ _ (by omega)]
      · rw [ea 2 (by omega), w2, upd_ne _ _ (by omega)]
      · rw [ea 3 (by omega), wo _ (by omega) (by omega)]
      · rw [ea 4 (by omega), wo _ (by omega) (by omega)]
      · rw [ea 5 (by omega), wo _ (by omega) (by omega)]
      · rw [ea 6 (by omega), wo _ (by omega) (by omega)]
      · rw [ea 3 (by omega), wo _ (by omega) (by omega)]
      · rw [ea 4 (by omega), wo _ (by omega) (by omega)]
      · rw [ea 1 (by omega), w1, upd_at]
      · rw [ea 2 (by omega), w2, upd_at]
        unfold encE
        rcases hen with ⟨e1, e2, e3⟩ | ⟨e1, e2, e3⟩
        · have := nv_lt e2
          rw [e3, if_pos rfl, xv_n _ (by show nv T s < 2 ^ 31; omega)]
          rfl
        · rw [e3, if_neg (show ¬ (1 : Nat) = 0 by decide), xv_w _ e2]
          rfl
  by_cases hk : kVr T s = 12
  · rw [if_pos hk, if_neg (fun z => z rfl), RR_tape hRR, some_bind', Ta_kind hT, some_bind', hx.2.2.2.1] at b0
    by_cases h2 : kd T s = 2
    · have hn := i_numH (L := L) (xs := xs) (d + 1) hT hV hx h2
      rw [if_pos (show nI (kd T s) = 2 by rw [h2]; rfl), bX5_addValue_35, if_neg (fun z => z rfl), RR_tape hRR, some_bind', Ta_is hT, some_bind', hn, some_bind', bX5_addValue_53, if_neg (fun z => z rfl)] at b0
      by_cases h5 : rn isD T s - s ≤ 5
      · have hnv := nv_lt h5
        rw [if_pos h5, if_pos (show ¬ nI (nv T s) = -1 from fun z => nI_pos (n := nv T s) (by omega) (by rw [z]; decide))] at b0
        exact b73 (0, nv T s) _ (Or.inl ⟨h2, h5, rfl⟩) b0
      · obtain ⟨z, q1, q2⟩ := rf 1 (by decide)
        have q1 : cI (ZZ L xs) (d + 2) mX8_refuse [.ref 1, .int 1] (HP sh y) = some (HP sh z, 0) := q1
        rw [if_neg h5, if_neg (fun z => z rfl), RR_tape hRR, some_bind', Ta_is hT, some_bind', q1, some_bind', if_pos (Or.inl rfl)] at b0
        exact ⟨z, 0, cI_of b0, Or.inl ⟨ft s 1, by unfold pV; rw [if_pos h2, if_neg h5], rfl, q2⟩⟩
    · obtain ⟨z, q1, q2⟩ := rf 0 (by decide)
      have q1 : cI (ZZ L xs) (d + 2) mX8_refuse [.ref 1, .int 0] (HP sh y) = some (HP sh z, 0) := q1
      rw [if_neg (show ¬ nI (kd T s) = 2 from fun z => h2 ((nI_eq (b := 2) (by omega) (by decide)).mp z)), some_bind', Ta_is hT, some_bind', q1, some_bind', if_pos (Or.inl rfl)] at b0
      exact ⟨z, 0, cI_of b0, Or.inl ⟨ft s 0, by unfold pV; rw [if_neg h2, if_pos hk], rfl, q2⟩⟩
  · have h1 : kd T s = 1 := Classical.byContradiction fun q => hk (kVr_kd q)
    have h12 := kVr_12 T s
    have hne : ¬ nI (kVr T s) = -1 := fun z => nI_pos (n := kVr T s) (by omega) (by rw [z]; decide)
    rw [if_neg hk, if_pos hne, bX5_addValue_35, if_pos hne, bX5_addValue_53, if_pos hne] at b0
    exact b73 (1, kVr T s) _ (Or.inr ⟨by omega, by omega, rfl⟩) b0
end RX1
