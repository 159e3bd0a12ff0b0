/-! the class's reader of rules: facts -/
section RX4
variable {L : Nat} {xs : Nat → Int32} {sh : List Sh} {T : TP} {r : Nat}
theorem PX_rule {y z : ST} {s v sm fa st v' sm' fa' st' : Nat} (hp : PX y T s r v sm fa st) (ho : Off (fun o => r ≤ o ∧ o < r + 7) y z) (hr : r = 197 ∨ 307 ≤ r) (hs : RSt z r v' sm' fa' st') (hv : okV z r v') : PX z T s r v' sm' fa' st' := by
  refine ⟨TSt_off ho (by omega) (by omega) hp.1, ?_, hs, hv⟩
  rw [(ho 195 (by omega)).2.2.1]
  exact hp.2.1
theorem i_beginS (d : Nat) (hC : CXr sh r) {y : ST} {s v sm fa st : Nat} (hp : PX y T s r v sm fa st) (h0 : 60 ≤ sm → 1 ≤ sm) : ∃ y' n sm', cI (ZZ L xs) (d + 1) mX4_beginSum [.ref r] (HP sh y) = some (HP sh y', nI n) ∧ n < sm' ∧ PX y' T s r v sm' fa st ∧ Off (Drl r) y y' ∧ Agv y y' r v sm ∧ Agc y y' r 0 256 ∧ (sm < 60 → n = sm ∧ sm' = sm + 1 ∧ y'.2.2.2.1 (r + 3) n = nI v) := by
  obtain ⟨hT, hRR, hRu, hr2⟩ := id hC
  obtain ⟨⟨a1, a2, a3, a4⟩, b1, b2, b3, b4⟩ := id hp.2.2.1
  by_cases h : sm < 60
  · obtain ⟨w, hw⟩ : ∃ w, w = sI (sA y (r + 3) (upd (y.2.2.2.1 (r + 3)) sm (nI v))) r 3 (nI (sm + 1)) := ⟨_, rfl⟩
    have ow : Off (fun o => r ≤ o ∧ o < r + 7) y w := by
      rw [hw]
      exact Off_sI (D := fun o => r ≤ o ∧ o < r + 7) (Off_sA (D := fun o => r ≤ o ∧ o < r + 7) (Off_refl _ _) (by omega) _) (by omega) _ _
    have w3 : w.2.2.2.1 (r + 3) = upd (y.2.2.2.1 (r + 3)) sm (nI v) := by
      rw [hw]
      show (sA y (r + 3) (upd (y.2.2.2.1 (r + 3)) sm (nI v))).2.2.2.1 (r + 3) = _
      rw [sA_at]
    have wo : ∀ a, a ≠ r + 3 → w.2.2.2.1 a = y.2.2.2.1 a := fun a ha => by
      rw [hw]
      show (sA y (r + 3) (upd (y.2.2.2.1 (r + 3)) sm (nI v))).2.2.2.1 a = _
      rw [sA_ne _ _ ha]
    have wi : ∀ k, k ≠ 3 → w.1 r k = y.1 r k := fun k hk => by
      rw [hw]
      show (if r = r ∧ k = 3 then _ else y.1 r k) = _
      rw [if_neg (fun z => hk z.2)]
    have w33 : w.1 r 3 = nI (sm + 1) := by
      rw [hw]
      show (if r = r ∧ 3 = 3 then _ else y.1 r 3) = _
      rw [if_pos ⟨rfl, rfl⟩]
    refine ⟨w, sm, sm + 1, cI_of ?_, by omega, PX_rule hp ow hr2 ⟨⟨(wi 0 (by decide)).trans a1, w33, (wi 6 (by decide)).trans a3, (wi 7 (by decide)).trans a4⟩, b1, by omega, b3, b4⟩ (by unfold okV; rw [wo _ (by omega)]; exact hp.2.2.2), Off_mono ow (fun o q => Or.inr q), ⟨fun k _ => ⟨by rw [wo _ (by omega)], by rw [wo _ (by omega)]⟩, fun k hk => ⟨by rw [w3, upd_ne _ _ (by omega)], by rw [wo _ (by omega)]⟩⟩, fun k _ _ => ⟨by rw [wo _ (by omega)], by rw [wo _ (by omega)]⟩, fun _ => ⟨rfl, rfl, by rw [w3, upd_at]⟩⟩
    show RS (ZZ L xs) (d + 1) mX4_beginSum 0 [some (.ref r)] [] _ = _
    rw [bX4_beginSum_0, Ru_sums hRu, some_bind', a2, if_neg (show ¬ (60 : Int32) ≤ nI sm from nI_ge (b := 60) h (by decide)), Ru_sumFrom hRu, some_bind', some_bind', Ru_values hRu, some_bind', a1, Ruu_sumFrom hRu _ h, some_bind', Ru_sums hRu, some_bind', show (sA y (r + 3) (upd (y.2.2.2.1 (r + 3)) sm (nI v))).1 r 3 = nI sm from a2, nI_1, Ruw_sums hRu, some_bind', ← hw, bX4_beginSum_32, Ru_sums hRu, some_bind', w33, nI_pred]
  · have hsm := h0 (by omega)
    refine ⟨y, sm - 1, sm, cI_of ?_, by omega, hp, Off_refl _ _, Agv_refl _ _ _ _, Agc_refl _ _ _ _, fun z => absurd z h⟩
    show RS (ZZ L xs) (d + 1) mX4_beginSum 0 [some (.ref r)] [] _ = _
    rw [bX4_beginSum_0, Ru_sums hRu, some_bind', a2, if_pos (show (60 : Int32) ≤ nI sm from nI_le (a := 60) (by omega) (by omega)), bX4_beginSum_32, Ru_sums hRu, some_bind', a2, nI_m1 hsm]
theorem i_addSt (d : Nat) (hC : CXr sh r) {y : ST} {s v sm fa st : Nat} (hp : PX y T s r v sm fa st) (hst : st < 256) (a b : Int32) : ∃ y', cI (ZZ L xs) (d + 1) mX4_addStep [.ref r, .int a, .int b] (HP sh y) = some (HP sh y', nI st) ∧ PX y' T s r v sm fa (st + 1) ∧ Off (Drl r) y y' ∧ Agv y y' r v sm ∧ Agc y y' r 0 st ∧ y'.2.2.2.1 (r + 5) st = a ∧ y'.2.2.2.1 (r + 6) st = b := by
  obtain ⟨hT, hRR, hRu, hr2⟩ := id hC
  obtain ⟨⟨a1, a2, a3, a4⟩, b1, b2, b3, b4⟩ := id hp.2.2.1
  obtain ⟨w, hw⟩ : ∃ w, w = sI (sA (sA y (r + 5) (upd (y.2.2.2.1 (r + 5)) st a)) (r + 6) (upd (y.2.2.2.1 (r + 6)) st b)) r 7 (nI (st + 1)) := ⟨_, rfl⟩
  have ow : Off (fun o => r ≤ o ∧ o < r + 7) y w := by
    rw [hw]
    exact Off_sI (D := fun o => r ≤ o ∧ o < r + 7) (Off_sA (D := fun o => r ≤ o ∧ o < r + 7) (Off_sA (D := fun o => r ≤ o ∧ o < r + 7) (Off_refl _ _) (by omega) _) (by omega) _) (by omega) _ _
  have w5 : w.2.2.2.1 (r + 5) = upd (y.2.2.2.1 (r + 5)) st a := by
    rw [hw]
    show (sA (sA y (r + 5) (upd (y.2.2.2.1 (r + 5)) st a)) (r + 6) (upd (y.2.2.2.1 (r + 6)) st b)).2.2.2.1 (r + 5) = _
    rw [sA_ne _ _ (by omega), sA_at]
  have w6 : w.2.2.2.1 (r + 6) = upd (y.2.2.2.1 (r + 6)) st b := by
    rw [hw]
    show (sA (sA y (r + 5) (upd (y.2.2.2.1 (r + 5)) st a)) (r + 6) (upd (y.2.2.2.1 (r + 6)) st b)).2.2.2.1 (r + 6) = _
    rw [sA_at]
  have wo : ∀ c, c ≠ r + 5 → c ≠ r + 6 → w.2.2.2.1 c = y.2.2.2.1 c := fun c h1 h2 => by
    rw [hw]
    show (sA (sA y (r + 5) (upd (y.2.2.2.1 (r + 5)) st a)) (r + 6) (upd (y.2.2.2.1 (r + 6)) st b)).2.2.2.1 c = _
    rw [sA_ne _ _ h2, sA_ne _ _ h1]
  have wi : ∀ k, k ≠ 7 → w.1 r k = y.1 r k := fun k hk => by
    rw [hw]
    show (if r = r ∧ k = 7 then _ else y.1 r k) = _
    rw [if_neg (fun z => hk z.2)]
  have w77 : w.1 r 7 = nI (st + 1) := by
    rw [hw]
    show (if r = r ∧ 7 = 7 then _ else y.1 r 7) = _
    rw [if_pos ⟨rfl, rfl⟩]
  refine ⟨w, cI_of ?_, PX_rule hp ow hr2 ⟨⟨(wi 0 (by decide)).trans a1, (wi 3 (by decide)).trans a2, (wi 6 (by decide)).trans a3, w77⟩, b1, b2, b3, by omega⟩ (by unfold okV; rw [wo _ (by omega) (by omega)]; exact hp.2.2.2), Off_mono ow (fun o q => Or.inr q), ⟨fun k _ => ⟨by rw [wo _ (by omega) (by omega)], by rw [wo _ (by omega) (by omega)]⟩, fun k hk => ⟨by rw [wo _ (by omega) (by omega)], by rw [wo _ (by omega) (by omega)]⟩⟩, fun k _ h2 => ⟨by rw [w5, upd_ne _ _ (by omega)], by rw [w6, upd_ne _ _ (by omega)]⟩, by rw [w5, upd_at], by rw [w6, upd_at]⟩
  have e2 : (sA y (r + 5) (upd (y.2.2.2.1 (r + 5)) st a)).2.2.2.1 (r + 6) = y.2.2.2.1 (r + 6) := sA_ne _ _ (by omega)
  show RS (ZZ L xs) (d + 1) mX4_addStep 0 [some (.ref r), some (.int a), some (.int b)] [] _ = _
  rw [bX4_addStep_0, Ru_steps hRu, some_bind', a4, if_neg (show ¬ (256 : Int32) ≤ nI st from nI_ge (b := 256) hst (by decide)), Ru_step hRu, some_bind', some_bind', Ruu_step hRu _ hst, some_bind', Ru_with hRu, some_bind', Ru_steps hRu, some_bind', show (sA y (r + 5) (upd (y.2.2.2.1 (r + 5)) st a)).1 r 7 = nI st from a4, Ruu_with hRu _ hst, some_bind', e2, Ru_steps hRu, some_bind', show (sA (sA y (r + 5) (upd (y.2.2.2.1 (r + 5)) st a)) (r + 6) (upd (y.2.2.2.1 (r + 6)) st b)).1 r 7 = nI st from a4, nI_1, Ruw_steps hRu, some_bind', ← hw, bX4_addStep_40, Ru_steps hRu, some_bind', w77, nI_pred]
theorem v_land (d : Nat) (hC : CXr sh r) {y : ST} {s v sm fa st o : Nat} (hp : PX y T s r v sm fa st) (ho : o < 256) : ∃ y', cV (ZZ L xs) (d + 1) mX4_landHere [.ref r, .int (nI o)] (HP sh y) = some (HP sh y') ∧ PX y' T s r v sm fa st ∧ Off (Drl r) y y' ∧ Agv y y' r v sm ∧ (∀ k, y'.2.2.2.1 (r + 5) k = y.2.2.2.1 (r + 5) k ∧ (k ≠ o → y'.2.2.2.1 (r + 6) k = y.2.2.2.1 (r + 6) k)) ∧ y'.2.2.2.1 (r + 6) o = nI st := by
  obtain ⟨hT, hRR, hRu, hr2⟩ := id hC
  obtain ⟨⟨a1, a2, a3, a4⟩, b1, b2, b3, b4⟩ := id hp.2.2.1
  obtain ⟨w, hw⟩ : ∃ w, w = sA y (r + 6) (upd (y.2.2.2.1 (r + 6)) o (nI st)) := ⟨_, rfl⟩
  have ow : Off (fun o => r ≤ o ∧ o < r + 7) y w := by
    rw [hw]
    exact Off_sA (D := fun o => r ≤ o ∧ o < r + 7) (Off_refl _ _) (by omega) _
  have w6 : w.2.2.2.1 (r + 6) = upd (y.2.2.2.1 (r + 6)) o (nI st) := by rw [hw]; exact sA_at _ _ _
  have wo : ∀ c, c ≠ r + 6 → w.2.2.2.1 c = y.2.2.2.1 c := fun c h1 => by rw [hw]; exact sA_ne _ _ h1
  refine ⟨w, cV_of ?_, PX_rule hp ow hr2 (by rw [hw]; exact hp.2.2.1) (by unfold okV; rw [wo _ (by omega)]; exact hp.2.2.2), Off_mono ow (fun o q => Or.inr q), ⟨fun k _ => ⟨by rw [wo _ (by omega)], by rw [wo _ (by omega)]⟩, fun k hk => ⟨by rw [wo _ (by omega)], by rw [wo _ (by omega)]⟩⟩, fun k => ⟨by rw [wo _ (by omega)], fun hk => by rw [w6, upd_ne _ _ hk]⟩, by rw [w6, upd_at]⟩
  show RS (ZZ L xs) (d + 1) mX4_landHere 0 [some (.ref r), some (.int (nI o))] [] _ = _
  rw [bX4_landHere_0, if_neg (nI_pos (by omega)), if_neg (show ¬ (256 : Int32) ≤ nI o from nI_ge (b := 256) ho (by decide)), Ru_with hRu, some_bind', Ru_steps hRu, some_bind', a4, Ruu_with hRu _ ho, some_bind', bX4_landHere_21, hw]
theorem v_land0 (d : Nat) (y : ST) : cV (ZZ L xs) (d + 1) mX4_landHere [.ref r, .int (-1)] (HP sh y) = some (HP sh y) := by
  refine cV_of ?_
  show RS (ZZ L xs) (d + 1) mX4_landHere 0 [some (.ref r), some (.int (-1))] [] _ = _
  rw [bX4_landHere_0, if_pos (by decide), bX4_landHere_21]
/-! behind a fault -/
theorem FTr_rule {x y z : ST} {e v sm fa st : Nat} (h : FTr x y r e) (ho : Off (fun o => r ≤ o ∧ o < r + 7) y z) (hr : r = 197 ∨ 307 ≤ r) (hs : RSt z r v sm fa st) : FTr x z r e := by
  refine ⟨Off_trans h.1 (Off_mono ho (fun o q => Or.inr q)), ?_, h.2.2.1, ?_, _, _, _, _, hs⟩
  · rw [(ho 1 (by omega)).1]
    exact h.2.1
  · rw [(ho 195 (by omega)).2.2.1]
    exact h.2.2.2.1
theorem v_landF (d : Nat) (hC : CXr sh r) {x y : ST} {e : Nat} (h : FTr x y r e) (i1 : Int32) : ∃ y', cV (ZZ L xs) (d + 1) mX4_landHere [.ref r, .int i1] (HP sh y) = some (HP sh y') ∧ FTr x y' r e := by
  obtain ⟨hT, hRR, hRu, hr2⟩ := id hC
  obtain ⟨v, sm, fa, st, hs⟩ := h.2.2.2.2
  by_cases h0 : i1 < 0
  · refine ⟨y, cV_of ?_, h⟩
    show RS (ZZ L xs) (d + 1) mX4_landHere 0 [some (.ref r), some (.int i1)] [] _ = _
    rw [bX4_landHere_0, if_pos h0, bX4_landHere_21]
  · obtain ⟨j, hj, rfl⟩ := nI_of h0
    by_cases h1 : j < 256
    · refine ⟨sA y (r + 6) (upd (y.2.2.2.1 (r + 6)) j (nI st)), cV_of ?_, FTr_rule h (Off_sA (D := fun o => r ≤ o ∧ o < r + 7) (Off_refl _ _) (by omega) _) hr2 hs⟩
      show RS (ZZ L xs) (d + 1) mX4_landHere 0 [some (.ref r), some (.int (nI j))] [] _ = _
      rw [bX4_landHere_0, if_neg h0, if_neg (show ¬ (256 : Int32) ≤ nI j from nI_ge (b := 256) h1 (by decide)), Ru_with hRu, some_bind', Ru_steps hRu, some_bind', hs.1.2.2.2, Ruu_with hRu _ h1, some_bind', bX4_landHere_21]
    · refine ⟨y, cV_of ?_, h⟩
      show RS (ZZ L xs) (d + 1) mX4_landHere 0 [some (.ref r), some (.int (nI j))] [] _ = _
      rw [bX4_landHere_0, if_neg h0, if_pos (show (256 : Int32) ≤ nI j from nI_le (a := 256) (by omega) hj), bX4_landHere_21]
theorem i_stepF (d : Nat) (hC : CXr sh r) {x y : ST} {e : Nat} (h : FTr x y r e) (a b : Int32) : ∃ y' w, cI (ZZ L xs) (d + 1) mX4_addStep [.ref r, .int a, .int b] (HP sh y) = some (HP sh y', w) ∧ FTr x y' r e := by
  obtain ⟨hT, hRR, hRu, hr2⟩ := id hC
  obtain ⟨v, sm, fa, st, hs⟩ := h.2.2.2.2
  obtain ⟨⟨a1, a2, a3, a4⟩, b1, b2, b3, b4⟩ := id hs
  by_cases hst : st < 256
  · obtain ⟨w, hw⟩ : ∃ w, w = sI (sA (sA y (r + 5) (upd (y.2.2.2.1 (r + 5)) st a)) (r + 6) (upd (y.2.2.2.1 (r + 6)) st b)) r 7 (nI (st + 1)) := ⟨_, rfl⟩
    have ow : Off (fun o => r ≤ o ∧ o < r + 7) y w := by
      rw [hw]
      exact Off_sI (D := fun o => r ≤ o ∧ o < r + 7) (Off_sA (D := fun o => r ≤ o ∧ o < r + 7) (Off_sA (D := fun o => r ≤ o ∧ o < r + 7) (Off_refl _ _) (by omega) _) (by omega) _) (by omega) _ _
    have wi : ∀ k, k ≠ 7 → w.1 r k = y.1 r k := fun k hk => by
      rw [hw]
      show (if r = r ∧ k = 7 then _ else y.1 r k) = _
      rw [if_neg (fun z => hk z.2)]
    have w77 : w.1 r 7 = nI (st + 1) := by
      rw [hw]
      show (if r = r ∧ 7 = 7 then _ else y.1 r 7) = _
      rw [if_pos ⟨rfl, rfl⟩]
    refine ⟨w, nI st, cI_of ?_, FTr_rule h ow hr2 (v := v) (sm := sm) (fa := fa) (st := st + 1) ⟨⟨(wi 0 (by decide)).trans a1, (wi 3 (by decide)).trans a2, (wi 6 (by decide)).trans a3, w77⟩, b1, b2, b3, by omega⟩⟩
    have e2 : (sA y (r + 5) (upd (y.2.2.2.1 (r + 5)) st a)).2.2.2.1 (r + 6) = y.2.2.2.1 (r + 6) := sA_ne _ _ (by omega)
    show RS (ZZ L xs) (d + 1) mX4_addStep 0 [some (.ref r), some (.int a), some (.int b)] [] _ = _
    rw [bX4_addStep_0, Ru_steps hRu, some_bind', a4, if_neg (show ¬ (256 : Int32) ≤ nI st from nI_ge (b := 256) hst (by decide)), Ru_step hRu, some_bind', some_bind', Ruu_step hRu _ hst, some_bind', Ru_with hRu, some_bind', Ru_steps hRu, some_bind', show (sA y (r + 5) (upd (y.2.2.2.1 (r + 5)) st a)).1 r 7 = nI st from a4, Ruu_with hRu _ hst, some_bind', e2, Ru_steps hRu, some_bind', show (sA (sA y (r + 5) (upd (y.2.2.2.1 (r + 5)) st a)) (r + 6) (upd (y.2.2.2.1 (r + 6)) st b)).1 r 7 = nI st from a4, nI_1, Ruw_steps hRu, some_bind', ← hw, bX4_addStep_40, Ru_steps hRu, some_bind', w77, nI_pred]
  · refine ⟨y, nI st - 1, cI_of ?_, h⟩
    show RS (ZZ L xs) (d + 1) mX4_addStep 0 [some (.ref r), some (.int a), some (.int b)] [] _ = _
    rw [bX4_addStep_0, Ru_steps hRu, some_bind', a4, if_pos (show (256 : Int32) ≤ nI st from nI_le (a := 256) (by omega) (by omega)), bX4_addStep_40, Ru_steps hRu, some_bind', a4]
/-- a fact, a test read -/
def FOk (L : Nat) (xs : Nat → Int32) (T : TP) (y y' : ST) (r s v sm fa st : Nat) (p : Nat × Nat × EL) : Prop := ∃ v' sm' fa' st', PX y' T p.1 r v' sm' fa' st' ∧ v' + fa' = p.2.1 ∧ sm' ≤ v' ∧ (v ≤ v' ∧ sm ≤ sm' ∧ fa ≤ fa' ∧ st ≤ st') ∧ 2 * st' + s ≤ 2 * st + p.1 ∧ Off (Drl r) y y' ∧ Agv y y' r v sm ∧ Agc y y' r 0 st ∧ SegP L xs y' r st st' v' sm' (fun u => decide (evl u p.2.2 = 1))
theorem sgA_cm {s : Nat} : sgA T s [60, 61, 62] = if cmK T s = 0 then -1 else cS T s := by
  unfold sgA cS
  by_cases h : cmK T s = 0
  · rw [if_pos h, if_neg]
    intro z
    have z2 := z.2
    simp at z2
    unfold cmK at h
    rcases z2 with q | q | q
    · rw [q, if_neg (by decide), if_pos rfl] at h
      split at h <;> omega
    · rw [if_pos q] at h
      omega
    · rw [q, if_neg (by decide), if_neg (by decide), if_pos rfl] at h
      split at h <;> omega
  · obtain ⟨-, -, h3⟩ := cmK_b h
    rw [if_neg h, if_pos]
    refine ⟨?_, by simp; omega⟩
    rcases h3 with q | q | q
    · exact (kd_sg q (by decide) (by decide) (by decide)).1
    · exact (kd_sg q (by decide) (by decide) (by decide)).1
    · exact (kd_sg q (by decide) (by decide) (by decide)).1
theorem cS_ne {s : Nat} (h : cmK T s ≠ 0) : ¬ cS T s = -1 := by
  obtain ⟨-, -, h3⟩ := cmK_b h
  unfold cS
  split
  · rw [show (256 : Int32) = nI 256 from rfl, nI_add]
    exact fun z => nI_pos (n := Bt T s + 256) (by omega) (by rw [z]; decide)
  · rw [Int32.add_zero]
    exact fun z => nI_pos (n := Bt T s) (by omega) (by rw [z]; decide)
theorem pS_60 (s : Nat) {p : Nat × Nat × EL} : pS T s 60 ≠ .inr p := fun h => by
  obtain ⟨q, h1, -⟩ := sB_inr h
  obtain ⟨en, h2, -⟩ := sB_inr h1
  exact (pV_in h2).2.1 rfl
theorem i_sg91 (d : Nat) (hT : isTa sh 1) (hV : VTa T) {y : ST} {s b k : Nat} {f : Int32} (hb : b = 91 ∨ b = 93) (hs : isS k [b]) (hx : TSt y T s f) : ∃ w, cI (ZZ L xs) (d + 1) mX8_signAmong [.ref 1, .retAddr (k + 1)] (HP sh y) = some (HP sh y, w) ∧ (w = -1 ↔ ¬ Bt T s = b) := by
  refine ⟨_, i_signA d hT hV hs (by show 1 < 2 ^ 31; decide) (fun x hx => by rw [List.mem_singleton] at hx; omega) hx, ?_⟩
  by_cases h : Bt T s = b
  · have hk : kd T s = 3 := by
      rcases hb with rfl | rfl
      · exact (kd_sg h (by decide) (by decide) (by decide)).1
      · exact (kd_sg h (by decide) (by decide) (by decide)).1
    exact ⟨fun z => absurd z (sgA_yes hV ⟨hk, by rw [h]; exact List.mem_singleton.mpr rfl⟩), fun z => absurd h z⟩
  · exact ⟨fun _ => h, fun _ => sgA_no (fun z => h (List.mem_singleton.mp z.2))⟩
/-- a comparison, where neither not nor a bracket stands -/
theorem x_cmpF (d : Nat) (hC : CXr sh r) (hV : VTa T) {y : ST} {s v sm fa st : Nat} (i1 : Int32) (hp : PX y T s r v sm fa st) (hc : v + fa ≤ 60) (hsv : sm ≤ v) (hst : 2 * st ≤ s) (hn : ¬ wdIs T s wNot = true) (hb : ¬ Bt T s = 91) : ∃ y' rr, cI (ZZ L xs) (d + 6) mX5_fact [.ref 195, .int i1] (HP sh y) = some (HP sh y', rr) ∧ ((∃ e, pC T s (v + fa) = .inl e ∧ rr = 0 ∧ FTr y y' r e) ∨ ∃ p, pC T s (v + fa) = .inr p ∧ rr = 1 ∧ FOk L xs T y y' r s v sm fa st p) := by
  have h400 := hV.1
  have hr := CXr_r hC
  obtain ⟨hT, hRR, hRu, hr2⟩ := id hC
  have hw := i_word1 (L := L) (xs := xs) (d + 4) hT hV (k := 6) (w := wNot) (by unfold isS; decide) (by decide) (by decide) (by decide) hp.1
  rw [if_neg hn] at hw
  obtain ⟨w1, g1, g2⟩ := i_sg91 (L := L) (xs := xs) (d + 4) hT hV (k := 7) (b := 91) (Or.inl rfl) (by unfold isS; decide) hp.1
  obtain ⟨y1, n1, m1, a1, a2, a3, a4, a5, a6, a7⟩ := i_beginS (L := L) (xs := xs) (d + 4) hC hp (fun z => by omega)
  obtain ⟨y2, r2, b1, b2⟩ := x_sum (L := L) (xs := xs) (d + 1) hC hV a2 hc a3
  have b0 : CL (ZZ L xs) (d + 6) mX5_fact [.ref 195, .int i1] (HP sh y) = _ := bX5_fact_0 (d + 5) 195 i1 (HP sh y)
  rw [RR_tape hRR, some_bind', Ta_is hT, some_bind', hw, some_bind', if_neg (fun z => z rfl), RR_tape hRR, some_bind', Ta_is hT, some_bind', g1, some_bind', if_pos (g2.mpr hb), rr_rule hC hp.2.1, some_bind', Ru_is hRu, some_bind', a1, some_bind', RR_is hRR, some_bind', b1, some_bind'] at b0
  unfold pC
  rcases b2 with ⟨e, e1, e2, e3⟩ | ⟨p1, v1, e1, e2, e3, e4, e5, e6, e7, e8, e9, e10, e11⟩
  · rw [if_neg (fun z => z e2), if_pos (Or.inl rfl)] at b0
    exact ⟨y2, 0, cI_of b0, Or.inl ⟨e, by rw [e1]; rfl, rfl, FTr_K (v := v) a4 e3⟩⟩
  · have hsm60 : sm < 60 := by
      refine Nat.lt_of_not_le (fun q => ?_)
      have : v + fa = 60 := by omega
      rw [this] at e1
      exact pS_60 s e1
    obtain ⟨c1, c2, c3⟩ := a7 hsm60
    obtain ⟨k1, k2, k3, k4, k5, k6⟩ := pS_in hc e1
    rw [e1]
    show ∃ y' rr, _ ∧ ((∃ e, (if cmK T p1.1 = 0 then .inl (ft p1.1 0) else if p1.2.1 = 60 then .inl (ft p1.1 3) else sB (pS T (nx' T p1.1) (p1.2.1 + 1)) fun r => .inr (r.1, r.2.1, p1.2.2 ++ r.2.2 ++ [(cmK T p1.1, 0)])) = Sum.inl e ∧ _) ∨ ∃ p, (if cmK T p1.1 = 0 then .inl (ft p1.1 0) else if p1.2.1 = 60 then .inl (ft p1.1 3) else sB (pS T (nx' T p1.1) (p1.2.1 + 1)) fun r => .inr (r.1, r.2.1, p1.2.2 ++ r.2.2 ++ [(cmK T p1.1, 0)])) = Sum.inr p ∧ _)
    have hsg := (i_signA (L := L) (xs := xs) (d + 4) hT hV (k := 9) (w := [60, 61, 62]) (by unfold isS; decide) (by decide) (by decide) e5.1).trans (by rw [sgA_cm])
    rw [if_pos (show ¬ r2 = 0 by rw [e2]; decide), RR_tape hRR, some_bind', Ta_is hT, some_bind', hsg, some_bind'] at b0
    have o2 : Off (Drl r) y y2 := Off_trans a4 e6
    have rf : ∀ (c : Nat), c ≤ 4 → ∃ z, cI (ZZ L xs) (d + 5) mX8_refuse [.ref 1, .int (nI c)] (HP sh y2) = some (HP sh z, 0) ∧ FTr y z r (ft p1.1 c) := fun c hc => by
      obtain ⟨z, q1, q2, q3⟩ := i_refuse (L := L) (xs := xs) (d + 4) hT e5.1 c
      exact ⟨z, q1, Off_trans o2 (Off_1r q2), q3.2.2.2.2.2, by have := e5.1.2.1; unfold ft; omega, RB_of e5 q2 hr⟩
    by_cases hk : cmK T p1.1 = 0
    · rw [if_pos hk]
      obtain ⟨z, q1, q2⟩ := rf 0 (by decide)
      have q1 : cI (ZZ L xs) (d + 5) mX8_refuse [.ref 1, .int 0] (HP sh y2) = some (HP sh z, 0) := q1
      rw [if_pos hk, if_pos rfl, bX5_fact_75, RR_tape hRR, some_bind', if_neg (fun z => z rfl), bX5_fact_89 (hw1 := rfl), Ta_is hT, some_bind', q1, some_bind', if_pos (Or.inl rfl)] at b0
      exact ⟨z, 0, cI_of b0, Or.inl ⟨_, rfl, rfl, q2⟩⟩
    · rw [if_neg hk]
      have hfull := i_fullR (L := L) (xs := xs) (d + 4) hRu e5.2.2.1
      rw [if_neg hk, if_neg (cS_ne hk), rr_rule hC e5.2.1, some_bind', Ru_is hRu, some_bind', hfull, some_bind'] at b0
      by_cases h60 : p1.2.1 = 60
      · rw [if_pos h60]
        obtain ⟨z, q1, q2⟩ := rf 3 (by decide)
        have q1 : cI (ZZ L xs) (d + 5) mX8_refuse [.ref 1, .int 3] (HP sh y2) = some (HP sh z, 0) := q1
        rw [if_neg (z1 (decide_eq_true (by omega))), bX5_fact_75, RR_tape hRR, some_bind', if_pos (cS_ne hk), bX5_fact_89 (hw1 := rfl), Ta_is hT, some_bind', q1, some_bind', if_pos (Or.inl rfl)] at b0
        exact ⟨z, 0, cI_of b0, Or.inl ⟨_, rfl, rfl, q2⟩⟩
      · rw [if_neg h60]
        have hv1 := e5.2.2.1.2
        -- the fact is counted
        obtain ⟨y3, hy3⟩ : ∃ y3, y3 = sI y2 r 6 (nI (fa + 1)) := ⟨_, rfl⟩
        have o3 : Off (fun o => r ≤ o ∧ o < r + 7) y2 y3 := by
          rw [hy3]
          exact Off_sI (D := fun o => r ≤ o ∧ o < r + 7) (Off_refl _ _) (by omega) _ _
        have hcf : cV (ZZ L xs) (d + 5) mX4_countFact [.ref r] (HP sh y2) = some (HP sh y3) := by
          refine cV_of ?_
          show RS (ZZ L xs) (d + 5) mX4_countFact 0 [some (.ref r)] [] _ = _
          rw [bX4_countFact_0, Ru_facts hRu, some_bind', e5.2.2.1.1.2.2.1, nI_1, Ruw_facts hRu, some_bind', hy3]
        have i3 : ∀ k, k ≠ 6 → y3.1 r k = y2.1 r k := fun k hk => by
          rw [hy3]
          show (if r = r ∧ k = 6 then _ else y2.1 r k) = _
          rw [if_neg (fun z => hk z.2)]
        have i36 : y3.1 r 6 = nI (fa + 1) := by
          rw [hy3]
          show (if r = r ∧ 6 = 6 then _ else y2.1 r 6) = _
          rw [if_pos ⟨rfl, rfl⟩]
        have ar3 : y3.2.2.2.1 = y2.2.2.2.1 := by rw [hy3]; rfl
        have hp3 : PX y3 T p1.1 r v1 m1 (fa + 1) st := PX_rule e5 o3 hr2 ⟨⟨(i3 0 (by decide)).trans e5.2.2.1.1.1, (i3 3 (by decide)).trans e5.2.2.1.1.2.1, i36, (i3 7 (by decide)).trans e5.2.2.1.1.2.2.2⟩, by omega, by omega, by omega, by omega⟩ (by unfold okV; rw [ar3]; exact e5.2.2.2)
        obtain ⟨y4, f1, f2, f3, -⟩ := v_adv (L := L) (xs := xs) (d + 3) hT hV hp3.1
        have hp4 := PX_off hp3 f2 hr f3
        obtain ⟨y5, n5, m5, g5, g6, g7, g8, g9, g10, g11⟩ := i_beginS (L := L) (xs := xs) (d + 4) hC hp4 (fun z => by omega)
        obtain ⟨y6, r6, h1, h2⟩ := x_sum (L := L) (xs := xs) (d + 1) hC hV g6 (show v1 + (fa + 1) ≤ 60 by omega) g7
        rw [show v1 + (fa + 1) = p1.2.1 + 1 by omega] at h2
        have ar4 : ∀ j, 1 ≤ j → y4.2.2.2.1 (r + j) = y2.2.2.2.1 (r + j) := fun j hj => by rw [(f2 (r + j) (by omega)).2.2.2.1, ar3]
        have o5 : Off (Drl r) y y5 := Off_trans (Off_trans (Off_trans o2 (Off_mono o3 (fun o q => Or.inr q))) (Off_1r f2)) g8
        rw [if_pos (z0 (fun q => by have := of_decide_eq_true q; omega)), rr_rule hC e5.2.1, some_bind', Ru_is hRu, some_bind', hcf, some_bind', RR_tape hRR, some_bind', Ta_is hT, some_bind', f1, some_bind', rr_rule hC hp4.2.1, some_bind', Ru_is hRu, some_bind', g5, some_bind', RR_is hRR, some_bind', h1, some_bind'] at b0
        rcases h2 with ⟨e, x1, x2, x3⟩ | ⟨p2, v2, x1, x2, x3, x4, x5, x6, x7, x8, x9, x10, x11⟩
        · rw [if_neg (fun z => z x2), if_pos (Or.inl rfl)] at b0
          exact ⟨y6, 0, cI_of b0, Or.inl ⟨e, by rw [x1]; rfl, rfl, FTr_K (v := v) o5 x3⟩⟩
        · obtain ⟨l1, l2, l3, l4, l5, l6⟩ := pS_in (show p1.2.1 + 1 ≤ 60 by omega) x1
          obtain ⟨t1, t2, t3⟩ := g11 (by omega)
          obtain ⟨y7, u1, u2, u3, u4, u5, u6, u7⟩ := i_addSt (L := L) (xs := xs) (d + 4) hC x5 (by have := e5.1.2.1; omega) (cS T p1.1) (nI n1)
          rw [if_pos (show ¬ r6 = 0 by rw [x2]; decide), rr_rule hC x5.2.1, some_bind', Ru_is hRu, some_bind', u1, some_bind', if_pos (Or.inr rfl)] at b0
          have hlt := nx_lt (Bt_s (T := T) (s := p1.1) (by have := (cmK_b hk).2.2; omega))
          -- what was ahead stands
          have v24 : Agv y2 y4 r v1 m1 := ⟨fun k _ => ⟨by rw [ar4 1 (by omega)], by rw [ar4 2 (by omega)]⟩, fun k _ => ⟨by rw [ar4 3 (by omega)], by rw [ar4 4 (by omega)]⟩⟩
          have c24 : Agc y2 y4 r 0 256 := fun k _ _ => ⟨by rw [ar4 5 (by omega)], by rw [ar4 6 (by omega)]⟩
          have v26 : Agv y2 y6 r v1 m1 := Agv_trans v24 (Agv_trans g9 (show Agv y5 y6 r v1 m1 by rw [t1] at x7; exact x7) (Nat.le_refl _) (Nat.le_refl _)) (Nat.le_refl _) (Nat.le_refl _)
          have v27 : Agv y2 y7 r v1 m1 := Agv_trans v26 u4 x4 (by omega)
          have hE1 : SumP L xs y2 r n1 v1 m1 (fun u => evl u p1.2.2) := SumP_of (i0 := v) a2 (by omega) e5.2.2.2 (e9.trans c3) e10 e4 e11
          have hE2 : SumP L xs y6 r n5 v2 m5 (fun u => evl u p2.2.2) := SumP_of (i0 := v1) g6 (by have := x5.2.2.1.2.1; omega) x5.2.2.2 (x9.trans t3) x10 x4 x11
          have hE1' : SumP L xs y7 r n1 v2 m5 (fun u => evl u p1.2.2) := SumP_mono hE1 v27 x4 (by omega)
          have hE2' : SumP L xs y7 r (n1 + 1) v2 m5 (fun u => evl u p2.2.2) := by
            rw [show n1 + 1 = n5 by omega]
            exact SumP_mono hE2 u4 (Nat.le_refl _) (Nat.le_refl _)
          have hseg := Seg_cmp hk hE1' hE2' u6 u7
          refine ⟨y7, 1, cI_of b0, Or.inr ⟨(p2.1, p2.2.1, p1.2.2 ++ p2.2.2 ++ [(cmK T p1.1, 0)]), by rw [x1]; rfl, rfl, v2, m5, fa + 1, st + 1, u2, by show v2 + (fa + 1) = p2.2.1; omega, by omega, ⟨by omega, by omega, by omega, by omega⟩, by show 2 * (st + 1) + s ≤ 2 * st + p2.1; omega, Off_trans (Off_trans o5 x6) u3, ?_, ?_, ?_⟩⟩
          · exact Agv_trans a5 (Agv_trans (show Agv y1 y2 r v sm by rw [c1] at e7; exact e7) v27 e4 (by omega)) (Nat.le_refl _) (Nat.le_refl _)
          · refine Agc_trans (Agc_trans a6 e8 (Nat.le_refl _) (Nat.le_refl _)) (Agc_trans c24 (Agc_trans g10 x8 (Nat.le_refl _) (Nat.le_refl _)) (Nat.le_refl _) (Nat.le_refl _)) (Nat.le_refl _) (Nat.le_refl _) |> fun q => Agc_trans (j := st) (fun k h1 h2 => q k h1 (by have := e5.1.2.1; omega)) u5 (Nat.le_refl _) (Nat.le_refl _)
          · have hev : ∀ u, evl u (p1.2.2 ++ p2.2.2 ++ [(cmK T p1.1, 0)]) = bo (cmK T p1.1) (evl u p1.2.2) (evl u p2.2.2) := evl_B k1 l1 (cmK_b hk).1
            show SegP L xs y7 r st (st + 1) v2 m5 (fun u => decide (evl u (p1.2.2 ++ p2.2.2 ++ [(cmK T p1.1, 0)]) = 1))
            rw [show (fun u => decide (evl u (p1.2.2 ++ p2.2.2 ++ [(cmK T p1.1, 0)]) = 1)) = (fun u => decide (bo (cmK T p1.1) (evl u p1.2.2) (evl u p2.2.2) = 1)) from funext fun u => by rw [hev]]
            exact hseg
end RX4
