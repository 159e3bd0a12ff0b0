/-! town: both sides -/
theorem Off_split {A B : Nat → Prop} {x y : ST} (h : Off (fun o => A o ∨ B o) x y) : ∃ z : ST, Off A x z ∧ Off B z y ∧ ∀ o, A o → z.1 o = y.1 o ∧ z.2.2.2.1 o = y.2.2.2.1 o := by
  classical
  refine ⟨((fun o => if A o then y.1 o else x.1 o), (fun o => if A o then y.2.1 o else x.2.1 o), (fun o => if A o then y.2.2.1 o else x.2.2.1 o), (fun o => if A o then y.2.2.2.1 o else x.2.2.2.1 o), (fun o => if A o then y.2.2.2.2.1 o else x.2.2.2.2.1 o), fun o => if A o then y.2.2.2.2.2 o else x.2.2.2.2.2 o), fun o ho => ⟨if_neg ho, if_neg ho, if_neg ho, if_neg ho, if_neg ho, if_neg ho⟩, fun o ho => ?_, fun o ho => ⟨if_pos ho, if_pos ho⟩⟩
  by_cases ha : A o
  · exact ⟨(if_pos ha).symm, (if_pos ha).symm, (if_pos ha).symm, (if_pos ha).symm, (if_pos ha).symm, (if_pos ha).symm⟩
  · obtain ⟨a1, a2, a3, a4, a5, a6⟩ := h o (fun q => q.elim ha ho)
    exact ⟨a1.trans (if_neg ha).symm, a2.trans (if_neg ha).symm, a3.trans (if_neg ha).symm, a4.trans (if_neg ha).symm, a5.trans (if_neg ha).symm, a6.trans (if_neg ha).symm⟩
theorem isTo_new (sh : List Sh) : isTo (sh ++ shTo sh.length) sh.length := ⟨Ext_at 0 rfl, Ext_at 1 rfl, Ext_at 2 rfl, Ext_at 3 rfl, Ext_at 4 rfl, Ext_at 5 rfl⟩
section TOWN
variable {L : Nat} {xs : Nat → Int32} {W : WD}
/-- the tape read, new cells behind: the class's world is as it was, the tape empty -/
theorem XI_read {sh e : List Sh} {y y3 : ST} (hx : XI L xs sh y W) (ho : Off (fun o => o = 1 ∨ sh.length ≤ o) y y3) (h1 : y3.1 1 1 = 0) : XI L xs (sh ++ e) y3 ((0, W.1.2), W.2) := by
  obtain ⟨z, z1, z2, z3⟩ := Off_split (A := fun o => o = 1) (B := fun o => sh.length ≤ o) ho
  have hz : XI L xs sh z ((0, W.1.2), W.2) := XI_t (Off_mono z1 (fun o q => Or.inl q)) ⟨by rw [(z3 1 rfl).1]; exact h1, fun i hi => absurd hi (Nat.not_lt_zero i)⟩ hx
  exact XI_ext (Ext_app sh e) z2 hz
theorem gTo_bl (y : ST) (n : Nat) (R : Nat → Nat → Value) (A : Nat → Nat → Option Nat) : gTo (bl y n (fun _ _ => 0) R A) n = tb0.1 := by
  refine Prod.ext (funext fun k => ?_) (Prod.ext ?_ (funext fun j => ?_))
  · exact bl_I (I := fun _ _ => 0) (R := R) (A := A) (y := y) (Nat.le_refl n) k
  · exact bl_J (I := fun _ _ => 0) (R := R) (A := A) (y := y) (Nat.le_refl n) 4
  · show (if j < 5 then (bl y n (fun _ _ => 0) R A).2.2.2.1 (n + 1 + j) else fun _ => 0) = fun _ => 0
    by_cases h : j < 5
    · rw [if_pos h, bl_A (by omega)]
    · rw [if_neg h]
theorem r_readT (d : Nat) {sh : List Sh} {y : ST} (hx : XI L xs sh y W) (hv : VW W) : ∃ y' v, cR (ZZ L xs) (d + 7) mX10_read [.ref 194] (HP sh y) = some (HP (sh ++ shTo sh.length) y', v) ∧ Off (fun o => o = 1 ∨ sh.length ≤ o) y y' ∧ isA v = true ∧ ((∃ e, tRd W.1 41 0 (rn isB W.1 0) tb0 = .inl e ∧ (0 < e ∧ e < 10000) ∧ v = .null ∧ y'.1 1 4 = nI e) ∨ ∃ b', tRd W.1 41 0 (rn isB W.1 0) tb0 = .inr b' ∧ v = .ref sh.length ∧ gTo y' sh.length = b'.1 ∧ TV b') := by
  have hl := isXS_len hx.1
  have off0 := Off_bl y sh.length (fun _ _ => 0) (fun _ _ => .null) (fun _ _ => none)
  have hap := HP_blk (sh := sh) (e := shTo sh.length) off0 (blk_To (R := fun _ _ => .null) (A := fun _ _ => none) (Nat.le_refl _) (fun _ => rfl))
  have hx0 := XI_ext (Ext_app sh (shTo sh.length)) off0 hx
  have hg0 := gTo_bl y sh.length (fun _ _ => .null) (fun _ _ => none)
  generalize bl y sh.length (fun _ _ => 0) (fun _ _ => .null) (fun _ _ => none) = y0 at *
  have hT : isTa (sh ++ shTo sh.length) 1 := hx0.1.1.2.1
  have hR : isTR (sh ++ shTo sh.length) 194 := hx0.1.2.1.1
  obtain ⟨y1, a1, a2, a3⟩ := v_openT (L := L) (xs := xs) (d + 3) hT hv.1 hx0.2.1
  have hg1 : gTo y1 sh.length = tb0.1 := by rw [gTo_off a2 (fun o q1 q2 => by omega), hg0]
  obtain ⟨y2, v, b1, b2, b3⟩ := r_readL (L := L) (xs := xs) (d + 1) hT hR hv.1 (isTo_new sh) hl 41 0 (rn isB W.1 0) tb0 y1 (by decide) (by decide) a3 hg1 (Or.inl ⟨rfl, rfl⟩)
  have hvA : isA v = true := by
    rcases b3 with ⟨_, _, _, q, _⟩ | ⟨_, _, q, _⟩
    · rw [q]
      rfl
    · rw [q]
      rfl
  refine ⟨y2, v, cR_of hvA ?_, Off_trans (Off_mono off0 (fun o q => Or.inr q)) (Off_trans (Off_mono a2 (fun o q => Or.inl q)) (Off_mono b2 (fun o q => q.elim Or.inl (fun z => Or.inr z.1)))), hvA, b3⟩
  show RS (ZZ L xs) (d + 7) mX10_read 0 [some (.ref 194), none, none, none] [] _ = _
  have hk := kv_Town (L := L) (xs := xs) (d + 5) (HP sh y)
  rw [HP_len] at hk
  rw [bX10_read_0, HP_len]
  show ((cV (ZZ L xs) (d + 6) mX9_init [.ref sh.length] (HP sh y ++ [dTo])).bind _) = _
  rw [hk, some_bind', hap, TR_tape hR, some_bind', Ta_is hT, some_bind', a1, some_bind']
  exact b1
def twW (W : WD) (b : TB) : SCN := (b, begW b.1, (0, W.2.1.2.2.1.2), W.2.1.2.2.2.1, (0, W.2.1.2.2.2.2.2))
theorem v_move (d : Nat) {sh : List Sh} {y : ST} {t : Nat} {b : TB} (hx : XI L xs sh y W) (ht : isTo sh t) (h3 : 307 ≤ t) (hg : gTo y t = b.1) : ∃ y', cV (ZZ L xs) (d + 3) mX6_move [.ref 3, .ref t] (HP sh y) = some (HP sh y') ∧ Off Da y y' ∧ XI L xs sh y' (setN W (twW W b)) ∧ y'.1 t = y.1 t := by
  have hS : isSc sh 3 := hx.1.1.2.2.1
  obtain ⟨c1, -, -, c4, c5, c6, -, -⟩ := hx.2.2.2.2.1
  have o1 : Off (fun o => o = 3) y (sR y 3 0 (.ref t)) := Off_sR (D := fun o => o = 3) (Off_refl _ _) rfl _ _
  have g1 : gTo (sR y 3 0 (.ref t)) t = b.1 := by rw [gTo_off o1 (fun o q1 q2 => by omega), hg]
  have hb := v_begin (L := L) (xs := xs) (d) hS.2.2.2.2.1 ht (by omega) (sR y 3 0 (.ref t))
  rw [g1] at hb
  have o2 : Off (fun o => 10 ≤ o ∧ o < 18) (sR y 3 0 (.ref t)) (pSt (sR y 3 0 (.ref t)) 10 (begW b.1)) := Off_pSt (Off_refl _ _) (by intro o q1 q2; omega) _
  have s2 := SQ_pSt (sR y 3 0 (.ref t)) 10 (begW b.1)
  have hb : cV (ZZ L xs) (d + 2) mX7_begin [.ref 10, .ref t] (HP sh (sR y 3 0 (.ref t))) = some (HP sh (pSt (sR y 3 0 (.ref t)) 10 (begW b.1))) := hb
  have r1 : (sR y 3 0 (.ref t)).2.2.1 3 0 = .ref t := rfl
  generalize hz1 : sR y 3 0 (.ref t) = z1 at *
  generalize hz2 : pSt z1 10 (begW b.1) = z2 at *
  have o3 : Off (fun o => o = 3 ∨ o = 18) z2 (sI (sI z2 18 0 0) 3 5 0) := Off_sI (D := fun o => o = 3 ∨ o = 18) (Off_sI (D := fun o => o = 3 ∨ o = 18) (Off_refl _ _) (Or.inr rfl) _ _) (Or.inl rfl) _ _
  have o13 : Off Da y (sI (sI z2 18 0 0) 3 5 0) := Off_trans (Off_trans (Off_mono o1 (fun o q => Or.inl q)) (Off_mono o2 (fun o q => by unfold Da; omega))) (Off_mono o3 (fun o q => by unfold Da; omega))
  have oN : Off (fun o => o = 3 ∨ 10 ≤ o ∧ o < 19) y (sI (sI z2 18 0 0) 3 5 0) := Off_trans (Off_trans (Off_mono o1 (fun o q => Or.inl q)) (Off_mono o2 (fun o q => by omega))) (Off_mono o3 (fun o q => by omega))
  have e0 : (sI (sI z2 18 0 0) 3 5 0).2.2.1 3 0 = .ref t := by
    show z2.2.2.1 3 0 = _
    rw [(o2 3 (by omega)).2.2.1]
    exact r1
  have oI : ∀ k, z2.1 3 k = y.1 3 k := fun k => by
    rw [(o2 3 (by omega)).1, ← hz1]
    rfl
  have hpa : PaOK (sI (sI z2 18 0 0) 3 5 0) 18 0 W.2.1.2.2.1.2 := by
    have oPa : Off (fun o => o = 3 ∨ 10 ≤ o ∧ o < 18) y z2 := Off_trans (Off_mono o1 (fun o q => Or.inl q)) (Off_mono o2 (fun o q => Or.inr q))
    obtain ⟨p1, p2, p3, nx, p4, p5, p6⟩ := PaOK_off oPa (fun o q1 q2 => by omega) c4
    exact ⟨p1, Nat.zero_le _, rfl, nx, p4, p5, fun i hi => absurd hi (Nat.not_lt_zero i)⟩
  refine ⟨sI (sI z2 18 0 0) 3 5 0, cV_of ?_, o13, XI_a o13 ?_ ⟨hS, ⟨t, e0, ht, Or.inr h3, ?_⟩, SQ_trans (gSt_off o3 (fun o q1 q2 => by omega)) s2, hpa, (oI 3).trans c5, (oI 4).trans c6, rfl, fun _ _ i hi => absurd hi (Nat.not_lt_zero i)⟩ hx, ?_⟩
  · show RS (ZZ L xs) (d + 3) mX6_move 0 [some (.ref 3), some (.ref t)] [] _ = _
    rw [bX6_move_0 (hv1 := rfl), Scw_town hS, some_bind', hz1, Sc_state hS, some_bind', St_is hS.2.2.2.2.1, some_bind']
    show ((cV (ZZ L xs) (d + 2) mX7_begin [.ref 10, .ref t] (HP sh z1)).bind _) = _
    rw [hb, some_bind', Sc_past hS, some_bind', Pa_is hS.2.2.2.2.2, some_bind', v_clearP (d + 1) hS.2.2.2.2.2, some_bind', Scw_notes hS, some_bind']
  · rw [gCk_off oN (fun o q1 q2 => by omega)]
    exact hx.2.2.1
  · rw [gTo_off oN (fun o q1 q2 => by omega), hg]
    rfl
  · exact (o13 t (by unfold Da; omega)).1
end TOWN
