/-! liars, ruled -/
section LIARS
variable {L : Nat} {xs : Nat → Int32} {W : WD}
theorem shl_np : ∀ n, n ≤ 6 → iShl 1 (nI n) = nI (2 ^ n)
  | 0, _ => by decide
  | 1, _ => by decide
  | 2, _ => by decide
  | 3, _ => by decide
  | 4, _ => by decide
  | 5, _ => by decide
  | 6, _ => by decide
  | n + 7, h => by omega
theorem and_full {n k : Nat} (hn : n ≤ 6) (hk : k < 2 ^ n) : (nI (2 ^ n) - 1) &&& nI k = nI k := by
  have h2 : (2 : Nat) ^ n ≤ 2 ^ 6 := Nat.pow_le_pow_right (by decide) hn
  have h1 : 1 ≤ 2 ^ n := Nat.one_le_two_pow
  have e : nI (2 ^ n) - 1 = nI (2 ^ n - 1) := by
    have := nI_pred (2 ^ n - 1)
    rw [Nat.sub_add_cancel h1] at this
    exact this
  rw [e, Int32.and_comm, pk_andN (by omega) n (by rw [nI_bv, Nat.mod_eq_of_lt (by omega)]), Nat.mod_eq_of_lt hk]
section
variable {sh : List Sh} {z : ST}
theorem Q_windv (d : Nat) (hx : XI L xs sh z W) {v : Value} (h1 : isR v = true) {R : Option ((Nat → Int32) → Int64)} (hR : RuV L xs sh z v R) (wr : Int32) (b : Nat) : ∃ (t : Nat) (z' : ST), fR (HP sh z) (.ref 3) 6 0 = some (.ref t) ∧ cV (ZZ L xs) (d + 1) mX0_wind [.ref 183, .ref t, v, .int wr] (HP sh z) = some (HP sh z') ∧ Off (fun o => o = 183) z z' ∧ QT L xs sh W b R wr z' (gSt z' b) := by
  obtain ⟨t, t1, t2, t3, t0, t4⟩ := X_town hx
  have hC : isCk sh 183 := hx.1.1.2.2.2
  have hoff : Off (fun o => o = 183) z (sI (sR (sR z 183 3 (.ref t)) 183 4 v) 183 5 wr) := Off_sI (Off_sR (Off_sR (Off_refl _ _) (by rfl) _ _) (by rfl) _ _) (by rfl) _ _
  refine ⟨t, _, t4, v_wind d hC h1 wr z, hoff, ?_, SQ_refl _, t, t1, t2, ?_, Wnd_wind _ hR⟩
  · refine XI_q (Off_mono hoff (fun o q => by unfold Dq; omega)) ?_ hx
    rw [gCk_off hoff (fun o q1 q2 => by omega)]
    exact hx.2.2.1
  · rw [gTo_off hoff (fun o q1 q2 => by omega)]
    exact t3
end
/-- cells that the history writes -/
def Dh (o : Nat) : Prop := Dt 250 o ∨ o = 183
def liG (W : WD) (k : Nat) (a : Int32 × Int32 × Int32) : Int32 × Int32 × Int32 := if fiV W (RF W W.2.1.2.2.2.1.1) (nI k) = 0 then a else (a.1 + 1, if a.1 = 0 then nI k else a.2.1, if a.1 = 0 then nI k else a.2.2 &&& nI k)
def liA (e : Int32) (a : Int32 × Int32 × Int32) : Int32 := if e = 0 then a.1 else if e = 1 then a.2.1 else a.2.2
/-- counted, and the first of them -/
def liC (k : Nat) (a : Int32 × Int32 × Int32) : Prop := ∃ c : Nat, c ≤ k ∧ a.1 = nI c ∧ (c = 0 → a.2.1 = -2 ∧ a.2.2 = 0) ∧ (0 < c → ∃ j : Nat, j < k ∧ a.2.1 = nI j)
theorem liC_G {k : Nat} {a : Int32 × Int32 × Int32} (hk : k < 64) (h : liC k a) : liC (k + 1) (liG W k a) := by
  obtain ⟨c, c1, c2, c3, c4⟩ := h
  unfold liG
  split
  · exact ⟨c, by omega, c2, c3, fun h => by obtain ⟨j, j1, j2⟩ := c4 h; exact ⟨j, by omega, j2⟩⟩
  · refine ⟨c + 1, by omega, by rw [c2, nI_1], fun h => absurd h (by omega), fun _ => ?_⟩
    rcases Nat.eq_zero_or_pos c with h0 | h0
    · exact ⟨k, by omega, if_pos (by rw [c2, h0]; rfl)⟩
    · obtain ⟨j, j1, j2⟩ := c4 h0
      refine ⟨j, by omega, ?_⟩
      show (if a.1 = 0 then nI k else a.2.1) = nI j
      rw [if_neg (by rw [c2]; exact nI_ne0 h0 (by omega)), j2]
theorem liC_0 {k : Nat} {a : Int32 × Int32 × Int32} (hk : k ≤ 64) (h : liC k a) : a.1 = 0 ↔ a.2.1 = -2 := by
  obtain ⟨c, c1, c2, c3, c4⟩ := h
  constructor
  · intro e
    rw [c2] at e
    rcases Nat.eq_zero_or_pos c with h0 | h0
    · exact (c3 h0).1
    · exact absurd e (nI_ne0 h0 (by omega))
  · intro e
    rcases Nat.eq_zero_or_pos c with h0 | h0
    · rw [c2, h0]
      rfl
    · obtain ⟨j, j1, j2⟩ := c4 h0
      rw [j2] at e
      exact absurd (nI_pos (n := j) (by omega)) (fun z => z (by rw [e]; decide))
theorem Sp_liars (hv : VW W) (a : Int32) : Step L xs W mX12_liars mX13_liars [.int a] := by
  have h5 : W.2.1.1.2.2.2 ≤ 5 := hv.2.1.1.1.1.2.2.2
  have h6 : W.2.1.1.2.2.1 ≤ 6 := hv.2.1.1.1.1.2.1
  have h8 : W.2.1.1.2.1 ≤ 8 := hv.2.1.1.1.2.2.2.2.1.1
  have hb : trq 206 := Or.inl rfl
  by_cases g1 : decide (0 < W.2.1.1.2.1) = true
  rotate_left
  · refine ⟨W, -3, Xsame fun sh y d hx => ?_, Msame hv fun sh x m d hM hi => ?_⟩
    · show RS (ZZ L xs) (d + 60) mX12_liars 0 [some (.ref 0), some (.int a)] [] _ = _
      rw [bX12_liars_0, WM_is hx.1.1.1, some_bind', i_hasTown _ hx hv, some_bind', if_pos (z0 g1), bX12_liars_16]
    · show RS (ZZ L xs) (d + 60) mX13_liars 0 [some (.ref 259), some (.int a), none, none, none, none, none] [] _ = _
      rw [bX13_liars_0, M_is hM, some_bind', i_townM _ hM hi hv, some_bind', if_pos (z0 g1), bX13_liars_19]
  by_cases g2 : wiB 0 2 a = true
  rotate_left
  · refine ⟨W, -3, Xsame fun sh y d hx => ?_, Msame hv fun sh x m d hM hi => ?_⟩
    · show RS (ZZ L xs) (d + 60) mX12_liars 0 [some (.ref 0), some (.int a)] [] _ = _
      rw [bX12_liars_0, WM_is hx.1.1.1, some_bind', i_hasTown _ hx hv, some_bind', if_neg (z1 g1), i_within, some_bind', if_neg (fun z => z (z0 g2)), bX12_liars_16]
    · show RS (ZZ L xs) (d + 60) mX13_liars 0 [some (.ref 259), some (.int a), none, none, none, none, none] [] _ = _
      rw [bX13_liars_0, M_is hM, some_bind', i_townM _ hM hi hv, some_bind', if_neg (z1 g1), i_inM _ (show (0 : Int64) = (0 : Int32).toInt64 from rfl) (show (2 : Int64) = (2 : Int32).toInt64 from rfl), some_bind', if_neg (fun z => z (z0 g2)), bX13_liars_19]
  have hp : 0 < W.2.1.1.2.1 := of_decide_eq_true g1
  have h2 : (2 : Nat) ^ W.2.1.1.2.2.1 ≤ 2 ^ 6 := Nat.pow_le_pow_right (by decide) h6
  refine ⟨W, liA a (lp (liG W) (2 ^ W.2.1.1.2.2.1) 0 (0, -2, 0)), Xask fun sh y d hx => ?_, Mask hv fun sh x m d hM hi => ?_⟩
  · have hS : isSc sh 3 := hx.1.1.2.2.1
    have hW : isWM sh 0 := hx.1.1.1
    have hC : isCk sh 183 := hx.1.1.2.2.2
    have hH : isHi sh 249 := hx.1.2.2.2.1
    obtain ⟨v, v1, v2, v3⟩ := r_ruleN (L := L) (xs := xs) (d + 58) hx hv W.2.1.2.2.2.1.1 hv.2.1.2
    have hfo : y.1 3 3 = W.2.1.2.2.2.1.1 := hx.2.2.2.2.1.2.2.2.2.1
    have loop : ∀ (f k : Nat), f + k = 2 ^ W.2.1.1.2.2.1 → ∀ (z : ST) (r : Int32 × Int32 × Int32) (xa : Int32), liC k r → (r.1 = 0 → xa = nI (2 ^ W.2.1.1.2.2.1) - 1) → (¬ r.1 = 0 → xa = r.2.2) → XI L xs sh z W → RuV L xs sh z v (RF W W.2.1.2.2.2.1.1) → ∃ z', RS (ZZ L xs) (d + 59) mX1_wrongSets 25 [some (.ref 249), some v, some (.int a), some (.int r.1), some (.int r.2.1), some (.int xa), some (.int (nI k))] [] (HP sh z) = some (HP sh z', some (.int (liA a (lp (liG W) f k r)))) ∧ Off Dh z z' ∧ XI L xs sh z' W := by
      intro f
      induction f with
      | zero =>
        intro k hk z r xa hc x1 x2 hz hR
        obtain ⟨t, t1, -, t3, -⟩ := Q_places hz hv
        refine ⟨z, ?_, Off_refl _ _, hz⟩
        rw [bX1_wrongSets_25 (hv1 := v1), Hi_now hH, some_bind', t1, some_bind', t3, some_bind', shl_np _ h6, if_pos (nI_le (by omega) (by omega))]
        unfold liA
        by_cases c0 : a = 0
        · rw [if_pos c0, if_pos c0, bX1_wrongSets_124]
          rfl
        · rw [if_neg c0, if_neg c0]
          by_cases c1 : a = 1
          · rw [if_pos c1, if_pos c1, bX1_wrongSets_126]
            rfl
          · rw [if_neg c1, if_neg c1, bX1_wrongSets_129]
            by_cases r0 : r.1 = 0
            · rw [if_neg (fun z => z r0), bX1_wrongSets_139]
              obtain ⟨c, q1, q2, q3, -⟩ := hc
              rw [q2] at r0
              rcases Nat.eq_zero_or_pos c with h0 | h0
              · show _ = some (HP sh z, some (Value.int r.2.2))
                rw [(q3 h0).2]
              · exact absurd r0 (nI_ne0 h0 (by omega))
            · rw [if_pos r0, bX1_wrongSets_139, x2 r0]
              rfl
      | succ f ih =>
        intro k hk z r xa hc x1 x2 hz hR
        obtain ⟨t', t1, -, t3, -⟩ := Q_places hz hv
        obtain ⟨t, w, w0, w1, w2, w3⟩ := Q_windv (L := L) (xs := xs) (d + 57) hz v1 hR (nI k) 250
        obtain ⟨u, s', u1, u2, u3⟩ := i_notes (L := L) (xs := xs) (d + 53) hv w3
        have hoff : Off Dh z u := Off_trans (Off_mono w2 (fun o q => Or.inr q)) (Off_mono u2 (fun o q => Or.inl q))
        have hR2 : RuV L xs sh u v (RF W W.2.1.2.2.2.1.1) := RuV_off hoff (fun o q1 q2 q => by unfold Dh Dt at q; omega) (fun o q1 q => by unfold Dh Dt at q; omega) hR
        have hc2 := liC_G (W := W) (by omega) hc
        rw [bX1_wrongSets_25 (hv1 := v1), Hi_now hH, some_bind', t1, some_bind', t3, some_bind', shl_np _ h6, if_neg (nI_ge (by omega) (by omega)), Hi_clock hH, some_bind', some_bind', w0, some_bind', Ck_is hC, some_bind', w1, some_bind', Hi_is hH, some_bind', u1, some_bind']
        by_cases e0 : fiV W (RF W W.2.1.2.2.2.1.1) (nI k) = 0
        · have hl : liG W k r = r := if_pos e0
          rw [hl] at hc2
          obtain ⟨z', p1, p2, p3⟩ := ih (k + 1) (by omega) u r xa hc2 x1 x2 u3.1 hR2
          refine ⟨z', ?_, Off_trans hoff p2, p3⟩
          rw [if_pos e0, bX1_wrongSets_92 (hv1 := v1), nI_1, p1, show lp (liG W) (f + 1) k r = lp (liG W) f (k + 1) r from congrArg (lp (liG W) f (k + 1)) hl]
        · rw [if_neg e0]
          by_cases r0 : r.1 = 0
          · have hl : liG W k r = (r.1 + 1, nI k, nI k) := by unfold liG; rw [if_neg e0, if_pos r0, if_pos r0]
            rw [hl] at hc2
            have rn : ¬ r.1 + 1 = 0 := by rw [r0]; decide
            obtain ⟨z', p1, p2, p3⟩ := ih (k + 1) (by omega) u (r.1 + 1, nI k, nI k) (nI k) hc2 (fun z => absurd z rn) (fun _ => rfl) u3.1 hR2
            refine ⟨z', ?_, Off_trans hoff p2, p3⟩
            rw [if_neg (fun z => z ((liC_0 (by omega) hc).mp r0)), bX1_wrongSets_83 (hv1 := v1), bX1_wrongSets_92 (hv1 := v1), nI_1, x1 r0, and_full h6 (by omega), p1, show lp (liG W) (f + 1) k r = lp (liG W) f (k + 1) (r.1 + 1, nI k, nI k) from congrArg (lp (liG W) f (k + 1)) hl]
          · have hl : liG W k r = (r.1 + 1, r.2.1, r.2.2 &&& nI k) := by unfold liG; rw [if_neg e0, if_neg r0, if_neg r0]
            rw [hl] at hc2
            have rn : ¬ r.1 + 1 = 0 := by
              obtain ⟨c, q1, q2, -⟩ := hc
              rw [q2, nI_1]
              exact nI_ne0 (by omega) (by omega)
            obtain ⟨z', p1, p2, p3⟩ := ih (k + 1) (by omega) u (r.1 + 1, r.2.1, r.2.2 &&& nI k) (r.2.2 &&& nI k) hc2 (fun z => absurd z rn) (fun _ => rfl) u3.1 hR2
            refine ⟨z', ?_, Off_trans hoff p2, p3⟩
            rw [if_pos (fun z => r0 ((liC_0 (by omega) hc).mpr z)), bX1_wrongSets_83 (hv1 := v1), bX1_wrongSets_92 (hv1 := v1), nI_1, x2 r0, p1, show lp (liG W) (f + 1) k r = lp (liG W) f (k + 1) (r.1 + 1, r.2.1, r.2.2 &&& nI k) from congrArg (lp (liG W) f (k + 1)) hl]
    obtain ⟨z, p1, p2, p3⟩ := loop (2 ^ W.2.1.1.2.2.1) 0 (by omega) y (0, -2, 0) (nI (2 ^ W.2.1.1.2.2.1) - 1) ⟨0, by omega, rfl, fun _ => ⟨rfl, rfl⟩, fun q => absurd q (by omega)⟩ (fun _ => rfl) (fun q => absurd rfl q) hx v3
    obtain ⟨t, t1, -, t3, -⟩ := Q_places hx hv
    have haf : cI (ZZ L xs) (d + 59) mX1_wrongSets [.ref 249, v, .int a] (HP sh y) = some (HP sh z, liA a (lp (liG W) (2 ^ W.2.1.1.2.2.1) 0 (0, -2, 0))) := by
      refine cI_of ?_
      have e : ent mX1_wrongSets [.ref 249, v, .int a] = [some (.ref 249), some v, some (.int a), none, none, none, none] := by
        cases v <;> first | rfl | cases v1
      show RS (ZZ L xs) (d + 59) mX1_wrongSets 0 (ent mX1_wrongSets [.ref 249, v, .int a]) [] _ = _
      rw [e, bX1_wrongSets_0 (hv1 := v1), Hi_now hH, some_bind', t1, some_bind', t3, some_bind', shl_np _ h6]
      exact p1
    refine ⟨z, ?_, p3, Off_mono p2 (fun o q => by unfold Dh Dt at q; unfold Dq; omega)⟩
    show RS (ZZ L xs) (d + 60) mX12_liars 0 [some (.ref 0), some (.int a)] [] _ = _
    rw [bX12_liars_0, WM_is hx.1.1.1, some_bind', i_hasTown _ hx hv, some_bind', if_neg (z1 g1), i_within, some_bind', if_pos (z1 g2), WM_history hW, some_bind', WM_now hW, some_bind', Sc_force hS, some_bind', hfo, WM_is hW, some_bind', v2, some_bind', Hi_is hH, some_bind', haf, some_bind']
  · obtain ⟨m1, k1, k2, k3⟩ := Q_keep (L := L) (xs := xs) (x := x) (d + 56) hM hv hi
    have set9 : ∀ (f j : Nat), f + j = 6 → ∀ (m1 : MM) (i2 i3 i4 : Int32) (k : Nat), k < 64 → (∀ r, r < j → m1.2.1 9 r = iShr (nI k) (nI r) &&& 1) → ∃ m2, RS (ZZ L xs) (d + 60) mX13_liars 53 [some (.ref 259), some (.int a), some (.int i2), some (.int i3), some (.int i4), some (.int (nI k)), some (.int (nI j))] [] (HP sh (pM x m1)) = RS (ZZ L xs) (d + 60) mX13_liars 53 [some (.ref 259), some (.int a), some (.int i2), some (.int i3), some (.int i4), some (.int (nI k)), some (.int 6)] [] (HP sh (pM x m2)) ∧ m2.1 = m1.1 ∧ (∀ r, r ≠ 9 → m2.2.1 r = m1.2.1 r) ∧ ∀ r, r < 6 → m2.2.1 9 r = iShr (nI k) (nI r) &&& 1 := by
      intro f
      induction f with
      | zero =>
        intro j hj m1 i2 i3 i4 k hk h
        have : j = 6 := by omega
        subst this
        exact ⟨m1, rfl, rfl, fun _ _ => rfl, h⟩
      | succ f ih =>
        intro j hj m1 i2 i3 i4 k hk h
        obtain ⟨m2, p1, p2, p3, p4⟩ := ih (j + 1) (by omega) (mA m1 9 j (iShr (nI k) (nI j) &&& 1)) i2 i3 i4 k hk (fun r hr => by
          rw [mA_eq]
          by_cases e : r = j
          · rw [e, upd_at]
          · rw [upd_ne _ _ e]
            exact h r (by omega))
        refine ⟨m2, ?_, p2, fun r hr => (p3 r hr).trans (mA_ne _ _ _ hr), p4⟩
        rw [bX13_liars_53, if_neg (show ¬ (6 : Int32) ≤ nI j from nI_ge (b := 6) (by omega) (by omega)), M_wrong hM, some_bind', Mu_wrong hM (by omega), some_bind', nI_1]
        exact p1
    have loop : ∀ (f k : Nat), f + k = 2 ^ W.2.1.1.2.2.1 → ∀ (m1 : MM) (r : Int32 × Int32 × Int32) (u6 : Option Value), liC k r → MJ m m1 → QM L xs sh x W m (RF W W.2.1.2.2.2.1.1) (W.2.1.1.1.1 5) m1 W.2.1.2.1 → ∃ m2, RS (ZZ L xs) (d + 60) mX13_liars 37 [some (.ref 259), some (.int a), some (.int r.1), some (.int r.2.1), some (.int r.2.2), some (.int (nI k)), u6] [] (HP sh (pM x m1)) = some (HP sh (pM x m2), some (.int (liA a (lp (liG W) f k r)))) ∧ MJ m m2 := by
      intro f
      induction f with
      | zero =>
        intro k hk m1 r u6 hc hJ q
        refine ⟨m1, ?_, hJ⟩
        rw [bX13_liars_37, M_scalar hM, some_bind', eI_l2, Me_scalar hM (by decide), some_bind', q.2.1.2.2.1, shl_np _ h6, if_pos (nI_le (by omega) (by omega))]
        unfold liA
        by_cases c0 : a = 0
        · rw [if_neg (fun z => z c0), if_pos c0, bX13_liars_142]
          rfl
        · rw [if_pos c0, if_neg c0]
          by_cases c1 : a = 1
          · rw [if_neg (fun z => z c1), if_pos c1, bX13_liars_142]
            rfl
          · rw [if_pos c1, if_neg c1, bX13_liars_142]
            rfl
      | succ f ih =>
        intro k hk m1 r u6 hc hJ q
        obtain ⟨m2, s1, s2, s3, s4⟩ := set9 6 0 rfl m1 r.1 r.2.1 r.2.2 k (by omega) (fun r hr => absurd hr (by omega))
        have hB : QB L xs sh x W m (RF W W.2.1.2.2.2.1.1) (nI k) m2 := by
          obtain ⟨h1, ⟨b0, b1, b2, b3, b4, b5⟩, h3, h4, hvs, h7⟩ := q
          refine ⟨⟨by rw [s2]; exact h1.1, fun a i ha hai => by rw [s3 a (by omega)]; exact h1.2.1 a i ha hai, fun a ha i hai => by rw [s3 45 (by decide)]; exact h1.2.2 a ha i hai⟩, ⟨by rw [s3 0 (by decide)]; exact b0, by rw [s3 0 (by decide)]; exact b1, by rw [s3 0 (by decide)]; exact b2, by rw [s3 0 (by decide)]; exact b3, fun p hp => s4 p (by omega), by rw [s3 10 (by decide), s3 11 (by decide), s3 12 (by decide)]; exact b5⟩, RuM_fr ⟨by rw [s3 0 (by decide)], fun r q1 q2 => s3 r (by omega)⟩ h7⟩
        obtain ⟨m3, f1, f2, f3, -, -⟩ := Q_fit (L := L) (xs := xs) (x := x) (d + 49) hM hv hp hi hB
        have hc2 := liC_G (W := W) (by omega) hc
        rw [bX13_liars_37, M_scalar hM, some_bind', eI_l2, Me_scalar hM (by decide), some_bind', q.2.1.2.2.1, shl_np _ h6, if_neg (nI_ge (by omega) (by omega))]
        have key : ∃ m4, RS (ZZ L xs) (d + 60) mX13_liars 53 [some (.ref 259), some (.int a), some (.int r.1), some (.int r.2.1), some (.int r.2.2), some (.int (nI k)), some (.int 6)] [] (HP sh (pM x m2)) = some (HP sh (pM x m4), some (.int (liA a (lp (liG W) (f + 1) k r)))) ∧ MJ m m4 := by
          rw [bX13_liars_53, if_pos (by decide), M_is hM, some_bind', f1, some_bind']
          by_cases e0 : fiV W (RF W W.2.1.2.2.2.1.1) (nI k) = 0
          · have hl : liG W k r = r := if_pos e0
            rw [hl] at hc2
            obtain ⟨m4, p1, p2⟩ := ih (k + 1) (by omega) m3 r none hc2 f2 f3
            refine ⟨m4, ?_, p2⟩
            rw [if_pos e0, bX13_liars_117, nI_1, p1, show lp (liG W) (f + 1) k r = lp (liG W) f (k + 1) r from congrArg (lp (liG W) f (k + 1)) hl]
          · rw [if_neg e0]
            by_cases r0 : r.1 = 0
            · have hl : liG W k r = (r.1 + 1, nI k, nI k) := by unfold liG; rw [if_neg e0, if_pos r0, if_pos r0]
              rw [hl] at hc2
              obtain ⟨m4, p1, p2⟩ := ih (k + 1) (by omega) m3 (r.1 + 1, nI k, nI k) none hc2 f2 f3
              refine ⟨m4, ?_, p2⟩
              rw [if_neg (fun z => z r0), bX13_liars_97, if_neg (fun z => z r0), bX13_liars_112, bX13_liars_117, nI_1, p1, show lp (liG W) (f + 1) k r = lp (liG W) f (k + 1) (r.1 + 1, nI k, nI k) from congrArg (lp (liG W) f (k + 1)) hl]
            · have hl : liG W k r = (r.1 + 1, r.2.1, r.2.2 &&& nI k) := by unfold liG; rw [if_neg e0, if_neg r0, if_neg r0]
              rw [hl] at hc2
              obtain ⟨m4, p1, p2⟩ := ih (k + 1) (by omega) m3 (r.1 + 1, r.2.1, r.2.2 &&& nI k) none hc2 f2 f3
              refine ⟨m4, ?_, p2⟩
              rw [if_pos r0, bX13_liars_97, if_pos r0, bX13_liars_112, bX13_liars_117, nI_1, p1, show lp (liG W) (f + 1) k r = lp (liG W) f (k + 1) (r.1 + 1, r.2.1, r.2.2 &&& nI k) from congrArg (lp (liG W) f (k + 1)) hl]
        obtain ⟨m4, p1, p2⟩ := key
        exact ⟨m4, s1.trans p1, p2⟩
    obtain ⟨m2, p1, p2⟩ := loop (2 ^ W.2.1.1.2.2.1) 0 (by omega) m1 (0, -2, 0) none ⟨0, by omega, rfl, fun _ => ⟨rfl, rfl⟩, fun q => absurd q (by omega)⟩ k2 k3
    refine ⟨m2, ?_, p2⟩
    show RS (ZZ L xs) (d + 60) mX13_liars 0 [some (.ref 259), some (.int a), none, none, none, none, none] [] _ = _
    rw [bX13_liars_0, M_is hM, some_bind', i_townM _ hM hi hv, some_bind', if_neg (z1 g1), i_inM _ (show (0 : Int64) = (0 : Int32).toInt64 from rfl) (show (2 : Int64) = (2 : Int32).toInt64 from rfl), some_bind', if_pos (z1 g2), M_is hM, some_bind', k1, some_bind']
    exact p1
end LIARS
