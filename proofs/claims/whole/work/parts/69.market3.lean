section MARKET3
variable {L : Nat} {xs : Nat → Int32} {W : WD}
section
variable {sh : List Sh} {x : ST} {m0 m : MM} {s : SV} {k : Nat}
theorem i_draws (d : Nat) (hM : isMo sh) (hk : m.2.1 0 8 = nI k) (hl : k < 2 ^ 31) {c : Nat} (h0 : 0 < c) (hc : c < 2 ^ 31) : cI (ZZ L xs) (d + 1) mX13_draws [.ref 259, .int (nI c)] (HP sh (pM x m)) = some (HP sh (pM x (mA m 0 8 (nI (dnx k)))), nI (dnx k / 65536 % c)) := by
  have l1 := dnx_lt k
  have e1 : (mA m 0 8 (nI (dnx k))).2.1 0 8 = nI (dnx k) := by rw [mA_eq, upd_at]
  refine cI_of ?_
  show RS (ZZ L xs) (d + 1) mX13_draws 0 [some (.ref 259), some (.int (nI c))] [] _ = _
  rw [bX13_draws_0, M_scalar hM, some_bind', some_bind', show (8 : Int32) = nI 8 from rfl, Me_scalar hM (by decide), some_bind', hk, if_neg (by decide), dnx_m hl, Mu_scalar hM (by decide), some_bind', M_scalar hM, some_bind', Me_scalar hM (by decide), some_bind', e1, if_neg (by decide), if_neg (nI_ne0 h0 (by omega)), dnx_d, rem_nI (by omega) h0 hc]
theorem QM_x {R : Option ((Nat → Int32) → Int64)} {wr : Int32} (h : QM L xs sh x W m0 R wr m s) (v : Int32) : QM L xs sh x W m0 R wr (mA m 0 8 v) s := by
  obtain ⟨h1, ⟨s0, s1, s2, s3, s4, s5⟩, h3, ⟨c1, c2, c3, c4⟩, h5, h6⟩ := h
  have e0 : ∀ j, j ≠ 8 → (mA m 0 8 v).2.1 0 j = m.2.1 0 j := fun j hj => by rw [mA_eq, upd_ne _ _ hj]
  have e1 : ∀ a, a ≠ 0 → (mA m 0 8 v).2.1 a = m.2.1 a := fun a ha => mA_ne m _ _ ha
  refine ⟨KJ_A h1 (Or.inl (by decide)) _ _, ⟨by rw [e0 _ (by decide)]; exact s0, by rw [e0 _ (by decide)]; exact s1, by rw [e0 _ (by decide)]; exact s2, by rw [e0 _ (by decide)]; exact s3, by rw [e1 9 (by decide)]; exact s4, by rw [e1 10 (by decide), e1 11 (by decide), e1 12 (by decide)]; exact s5⟩, fun i hi => by rw [e1 8 (by decide)]; exact h3 i hi, ⟨by rw [e0 _ (by decide)]; exact c1, by rw [e0 _ (by decide)]; exact c2, by rw [e0 _ (by decide)]; exact c3, fun j hj q hq => by rw [e1 _ (by omega)]; exact c4 j hj q hq⟩, h5, RuM_fr ⟨e0 _ (by decide), fun r q1 q2 => e1 r (by omega)⟩ h6⟩
end
section
variable {sh : List Sh} {x : ST} {m : MM}
theorem mkt_inM (d : Nat) (hM : isMo sh) (hv : VW W) (hp : 0 < W.2.1.1.2.1) (hi : MI L xs m W) {n hr : Nat} (hn : n ≤ 10) (hh : hr ≤ 60) {c : Int32} (e i5 bs sm : Int32) (r : Nat) (hbs : bs = if e = 0 then W.2.1.2.1.1.2.2 else allF W.2.1.2.1 W.2.1.1.2.2.1 0 0) : ∀ (f j : Nat), f + j = hr → ∀ (m1 : MM) (s : SV) (k : Nat) (a : Int32) (u6 u11 : Option Value), k < 2 ^ 31 → m1.2.1 0 8 = nI k → QM L xs sh x W m (RF W W.2.1.2.2.2.1.1) (W.2.1.1.1.1 5) m1 s → ∃ m2, RS (ZZ L xs) (d + 60) mX13_markets 118 [some (.ref 259), some (.int (nI n)), some (.int (nI hr)), some (.int c), some (.int e), some (.int i5), u6, some (.int bs), some (.int sm), some (.int (nI r)), some (.int (nI j)), u11] [] (HP sh (pM x m1)) = RS (ZZ L xs) (d + 60) mX13_markets 100 [some (.ref 259), some (.int (nI n)), some (.int (nI hr)), some (.int c), some (.int e), some (.int i5), some (.int (nI (mkF W c f (k, s, a)).1)), some (.int bs), some (.int (sm + ((if e = 0 then (mkF W c f (k, s, a)).2.1.1.2.2 else allF (mkF W c f (k, s, a)).2.1 W.2.1.1.2.2.1 0 0) - bs))), some (.int (nI (r + 1))), none, none] [] (HP sh (pM x m2)) ∧ MJ m m2 ∧ QM L xs sh x W m (RF W W.2.1.2.2.2.1.1) (W.2.1.1.1.1 5) m2 W.2.1.2.1 := by
  have h5 : W.2.1.1.2.2.2 ≤ 5 := hv.2.1.1.1.1.2.2.2
  have h6 : W.2.1.1.2.2.1 ≤ 6 := hv.2.1.1.1.1.2.1
  have h8 : W.2.1.1.2.1 ≤ 8 := hv.2.1.1.1.2.2.2.2.1.1
  have hVT := hv.2.1.1.1.2.2.2.1 hp
  intro f
  induction f with
  | zero =>
    intro j hj m1 s k a u6 u11 hk hm h
    obtain ⟨l, l1, l2, l3, -⟩ := Q_lay (L := L) (xs := xs) (x := x) (d + 56) hM hv hi h.1
    refine ⟨l, ?_, l2, l3⟩
    show _ = RS (ZZ L xs) (d + 60) mX13_markets 100 [some (.ref 259), some (.int (nI n)), some (.int (nI hr)), some (.int c), some (.int e), some (.int i5), some (.int (nI k)), some (.int bs), some (.int (sm + ((if e = 0 then s.1.2.2 else allF s W.2.1.1.2.2.1 0 0) - bs))), some (.int (nI (r + 1))), none, none] [] (HP sh (pM x l))
    rw [bX13_markets_118, if_pos (nI_le (by omega) (by omega))]
    by_cases c0 : e = 0
    · rw [if_neg (fun z => z c0), if_pos c0, M_scalar hM, some_bind', eI_l6, Me_scalar hM (by decide), some_bind', h.2.2.2.1.2.2.1, bX13_markets_204, M_scalar hM, some_bind', show (8 : Int32) = nI 8 from rfl, Me_scalar hM (by decide), some_bind', hm, M_is hM, some_bind', l1, some_bind', nI_1]
    · rw [if_pos c0, if_neg c0, M_is hM, some_bind', i_allM _ hM h.2.1.2.2.1 h6 h.2.2.2.1, some_bind', bX13_markets_204, M_scalar hM, some_bind', show (8 : Int32) = nI 8 from rfl, Me_scalar hM (by decide), some_bind', hm, M_is hM, some_bind', l1, some_bind', nI_1]
  | succ f ih =>
    intro j hj m1 s k a u6 u11 hk hm h
    have tail : ∀ (m3 : MM) (s1 : SV) (k1 : Nat) (u11 : Option Value), QM L xs sh x W m (RF W W.2.1.2.2.2.1.1) (W.2.1.1.1.1 5) m3 s1 → m3.2.1 0 8 = nI k1 → mkP W c k s = (k1, s1) → ∃ m2, RS (ZZ L xs) (d + 60) mX13_markets 172 [some (.ref 259), some (.int (nI n)), some (.int (nI hr)), some (.int c), some (.int e), some (.int i5), none, some (.int bs), some (.int sm), some (.int (nI r)), some (.int (nI j)), u11] [] (HP sh (pM x m3)) = RS (ZZ L xs) (d + 60) mX13_markets 100 [some (.ref 259), some (.int (nI n)), some (.int (nI hr)), some (.int c), some (.int e), some (.int i5), some (.int (nI (mkF W c (f + 1) (k, s, a)).1)), some (.int bs), some (.int (sm + ((if e = 0 then (mkF W c (f + 1) (k, s, a)).2.1.1.2.2 else allF (mkF W c (f + 1) (k, s, a)).2.1 W.2.1.1.2.2.1 0 0) - bs))), some (.int (nI (r + 1))), none, none] [] (HP sh (pM x m2)) ∧ MJ m m2 ∧ QM L xs sh x W m (RF W W.2.1.2.2.2.1.1) (W.2.1.1.1.1 5) m2 W.2.1.2.1 := fun m3 s1 k1 u11 q3 hm3 hp => by
      obtain ⟨g, g1, g2, g3, -⟩ := Q_goes (L := L) (xs := xs) (x := x) (d + 52) hM hVT q3
      have hl : k1 < 2 ^ 31 := by
        have := mkP_lt (W := W) c k s
        rw [hp] at this
        exact this
      obtain ⟨m2, p1, p2, p3⟩ := ih (j + 1) (by omega) g _ k1 (a + woN W s1) none none hl ((g2.2.2 8 (Or.inr (by decide))).trans hm3) g3
      have e0 : mkF W c (f + 1) (k, s, a) = mkF W c f (k1, woS W s1, a + woN W s1) := by
        show mkF W c f ((mkP W c k s).1, woS W (mkP W c k s).2, a + woN W (mkP W c k s).2) = _
        rw [hp]
      rw [e0]
      refine ⟨m2, ?_, p2, p3⟩
      rw [bX13_markets_172, M_is hM, some_bind', g1, some_bind', nI_1]
      exact p1
    have l1 := dnx_lt k
    have l2 := dnx_lt (dnx k)
    have l3 := dnx_lt (dnx (dnx k))
    have h1 := QM_x h (nI (dnx k))
    have v1 : (mA m1 0 8 (nI (dnx k))).2.1 0 8 = nI (dnx k) := by rw [mA_eq, upd_at]
    have d1 := i_draws (L := L) (xs := xs) (x := x) (d + 58) hM hm hk (c := 100) (by omega) (by omega)
    generalize mA m1 0 8 (nI (dnx k)) = ma at *
    rw [bX13_markets_118, if_neg (nI_ge (by omega) (by omega)), M_is hM, some_bind', show (100 : Int32) = nI 100 from rfl, d1, some_bind']
    by_cases c1 : c ≤ nI (dnx k / 65536 % 100)
    · rw [if_pos c1]
      exact tail ma s (dnx k) none h1 v1 (by unfold mkP; rw [if_pos c1])
    · rw [if_neg c1, M_scalar hM, some_bind', eI_l2, Me_scalar hM (by decide), some_bind', h1.2.1.2.2.1]
      by_cases h0 : W.2.1.1.2.2.1 = 0
      · rw [if_pos (by rw [h0]; decide)]
        exact tail ma s (dnx k) none h1 v1 (by unfold mkP; rw [if_neg c1, if_pos h0])
      · have h2 := QM_x h1 (nI (dnx (dnx k)))
        have v2 : (mA ma 0 8 (nI (dnx (dnx k)))).2.1 0 8 = nI (dnx (dnx k)) := by rw [mA_eq, upd_at]
        have d2 := i_draws (L := L) (xs := xs) (x := x) (d + 58) hM v1 l1 (c := W.2.1.1.2.2.1) (by omega) (by omega)
        generalize mA ma 0 8 (nI (dnx (dnx k))) = mb at *
        have h3 := QM_x h2 (nI (dnx (dnx (dnx k))))
        have v3 : (mA mb 0 8 (nI (dnx (dnx (dnx k))))).2.1 0 8 = nI (dnx (dnx (dnx k))) := by rw [mA_eq, upd_at]
        have d3 := i_draws (L := L) (xs := xs) (x := x) (d + 58) hM v2 l2 (c := W.2.1.1.2.1) (by omega) (by omega)
        generalize mA mb 0 8 (nI (dnx (dnx (dnx k)))) = mc at *
        have m1 : dnx (dnx k) / 65536 % W.2.1.1.2.2.1 < W.2.1.1.2.2.1 := Nat.mod_lt _ (by omega)
        have m2 : dnx (dnx (dnx k)) / 65536 % W.2.1.1.2.1 < W.2.1.1.2.1 := Nat.mod_lt _ (by omega)
        have h4 := QM_at h3 (q := dnx (dnx k) / 65536 % W.2.1.1.2.2.1) m2
        have v4 : (mA mc 1 (dnx (dnx k) / 65536 % W.2.1.1.2.2.1) (nI (dnx (dnx (dnx k)) / 65536 % W.2.1.1.2.1))).2.1 0 8 = nI (dnx (dnx (dnx k))) := by rw [mA_ne _ _ _ (by decide), v3]
        rw [if_neg (show ¬ nI W.2.1.1.2.2.1 ≤ 0 from nI_ge (a := 0) (by omega) (by omega)), some_bind', eI_l2, Me_scalar hM (by decide), some_bind', h1.2.1.2.2.1, M_is hM, some_bind', d2, some_bind', M_at hM, some_bind', M_scalar hM, some_bind', eI_l0, Me_scalar hM (by decide), some_bind', h2.2.1.1, M_is hM, some_bind', d3, some_bind', Mu_at hM (by omega), some_bind']
        exact tail _ _ _ _ h4 v4 (by unfold mkP; rw [if_neg c1, if_neg h0])
theorem mkt_outM (d : Nat) (hM : isMo sh) (hv : VW W) (hp : 0 < W.2.1.1.2.1) (hi : MI L xs m W) {n hr : Nat} (hn : n ≤ 10) (hh : hr ≤ 60) {c : Int32} (e bs : Int32) (hbs : bs = if e = 0 then W.2.1.2.1.1.2.2 else allF W.2.1.2.1 W.2.1.1.2.2.1 0 0) : ∀ (f r : Nat), f + r = n → ∀ (m1 : MM) (t : Nat × Int32 × Int32) (u10 u11 : Option Value), t.1 < 2 ^ 31 → MJ m m1 → QM L xs sh x W m (RF W W.2.1.2.2.2.1.1) (W.2.1.1.1.1 5) m1 W.2.1.2.1 → ∃ m2, RS (ZZ L xs) (d + 60) mX13_markets 100 [some (.ref 259), some (.int (nI n)), some (.int (nI hr)), some (.int c), some (.int e), some (.int (m.2.1 0 8)), some (.int (nI t.1)), some (.int bs), some (.int (if e = 0 then t.2.1 else t.2.2)), some (.int (nI r)), u10, u11] [] (HP sh (pM x m1)) = some (HP sh (pM x m2), some (.int (if e = 0 then (lp (mkG W c hr) f r t).2.1 else (lp (mkG W c hr) f r t).2.2))) ∧ MJ m m2 := by
  intro f
  induction f with
  | zero =>
    intro r hrr m1 t u10 u11 ht hJ h
    refine ⟨mA m1 0 8 (m.2.1 0 8), ?_, hJ.1, fun a i hi2 => ?_⟩
    · rw [bX13_markets_100, if_pos (nI_le (by omega) (by omega)), M_scalar hM, some_bind', wI_l8, Mu_scalar hM (by decide), some_bind']
      rfl
    · by_cases ha : a = 0
      · subst ha
        rw [mA_eq]
        by_cases h8 : i = 8
        · subst h8
          rw [upd_at]
        · rw [upd_ne _ _ h8]
          exact hJ.2 0 i hi2
      · rw [mA_ne _ _ _ ha]
        exact hJ.2 a i hi2
  | succ f ih =>
    intro r hrr m1 t u10 u11 ht hJ h
    have v1 : (mA m1 0 8 (nI t.1)).2.1 0 8 = nI t.1 := by rw [mA_eq, upd_at]
    obtain ⟨m2, p1, p2, p3⟩ := mkt_inM (L := L) (xs := xs) (x := x) d hM hv hp hi hn hh (c := c) e (m.2.1 0 8) bs (if e = 0 then t.2.1 else t.2.2) r hbs hr 0 rfl _ _ t.1 t.2.2 (some (.int (nI t.1))) none ht v1 (QM_x h (nI t.1))
    obtain ⟨m3, q1, q2⟩ := ih (r + 1) (by omega) m2 (mkG W c hr r t) none none (mkF_lt c hr _ ht) p2 p3
    refine ⟨m3, ?_, q2⟩
    rw [bX13_markets_100, if_neg (nI_ge (by omega) (by omega)), M_scalar hM, some_bind', wI_l8, Mu_scalar hM (by decide), some_bind']
    refine Eq.trans ?_ q1
    have e1 : (if e = 0 then t.2.1 else t.2.2) + ((if e = 0 then (mkF W c hr (t.1, W.2.1.2.1, t.2.2)).2.1.1.2.2 else allF (mkF W c hr (t.1, W.2.1.2.1, t.2.2)).2.1 W.2.1.1.2.2.1 0 0) - bs) = if e = 0 then (mkG W c hr r t).2.1 else (mkG W c hr r t).2.2 := by
      rw [hbs]
      by_cases c0 : e = 0
      · rw [if_pos c0, if_pos c0, if_pos c0, if_pos c0]
        rfl
      · rw [if_neg c0, if_neg c0, if_neg c0, if_neg c0]
        exact grp2 (mkF_all hv c hr (t.1, W.2.1.2.1, t.2.2))
    rw [← e1]
    exact p1
end
theorem Sp_markets (hv : VW W) (a b c e : Int32) : Step L xs W mX12_markets mX13_markets [.int a, .int b, .int c, .int e] := by
  have hb : trq 206 := Or.inl rfl
  have h6 : W.2.1.1.2.2.1 ≤ 6 := hv.2.1.1.1.1.2.1
  have X0 : ∀ (sh : List Sh) (y : ST) (d : Nat), XI L xs sh y W → RS (ZZ L xs) (d + 60) mX12_markets 0 [some (.ref 0), some (.int a), some (.int b), some (.int c), some (.int e), none] [] (HP sh y) = RS (ZZ L xs) (d + 60) mX12_markets 35 [some (.ref 0), some (.int a), some (.int b), some (.int c), some (.int e), none] [.int (if wiB 1 10 a = true ∧ wiB 1 60 b = true ∧ wiB 0 100 c = true then 1 else 0)] (HP sh y) := fun sh y d hx => by
    rw [bX12_markets_0, i_within, some_bind']
    by_cases g1 : wiB 1 10 a = true
    · rw [if_neg (z1 g1), i_within, some_bind']
      by_cases g2 : wiB 1 60 b = true
      · rw [if_neg (z1 g2), i_within, some_bind']
        by_cases g3 : wiB 0 100 c = true
        · rw [if_neg (z1 g3), if_pos ⟨g1, g2, g3⟩]
        · rw [if_pos (z0 g3), bX12_markets_34, if_neg (fun z => g3 z.2.2)]
      · rw [if_pos (z0 g2), bX12_markets_34, if_neg (fun z => g2 z.2.1)]
    · rw [if_pos (z0 g1), bX12_markets_34, if_neg (fun z => g1 z.1)]
  by_cases g : decide (0 < W.2.1.1.2.1) = true ∧ (wiB 1 10 a = true ∧ wiB 1 60 b = true ∧ wiB 0 100 c = true) ∧ wiB 0 1 e = true
  rotate_left
  · refine ⟨W, -1, Xsame fun sh y d hx => ?_, Msame hv fun sh x m d hM hi => ?_⟩
    · show RS (ZZ L xs) (d + 60) mX12_markets 0 [some (.ref 0), some (.int a), some (.int b), some (.int c), some (.int e), none] [] _ = _
      rw [X0 sh y d hx, bX12_markets_35, WM_is hx.1.1.1, some_bind', i_hasTown _ hx hv, some_bind']
      by_cases g1 : decide (0 < W.2.1.1.2.1) = true
      · rw [if_neg (z1 g1)]
        by_cases g2 : wiB 1 10 a = true ∧ wiB 1 60 b = true ∧ wiB 0 100 c = true
        · rw [if_pos g2, if_neg (by decide), i_within, some_bind', if_neg (fun z => z (z0 (fun q => g ⟨g1, g2, q⟩))), bX12_markets_59]
        · rw [if_neg g2, if_pos rfl, bX12_markets_59]
      · rw [if_pos (z0 g1), bX12_markets_59]
    · show RS (ZZ L xs) (d + 60) mX13_markets 0 [some (.ref 259), some (.int a), some (.int b), some (.int c), some (.int e), none, none, none, none, none, none, none] [] _ = _
      rw [bX13_markets_0, M_is hM, some_bind', i_townM _ hM hi hv, some_bind']
      by_cases g1 : decide (0 < W.2.1.1.2.1) = true
      · rw [if_neg (z1 g1), i_inM _ (show (1 : Int64) = (1 : Int32).toInt64 from rfl) (show (10 : Int64) = (10 : Int32).toInt64 from rfl), some_bind']
        by_cases g2 : wiB 1 10 a = true
        · rw [if_neg (z1 g2), i_inM _ (show (1 : Int64) = (1 : Int32).toInt64 from rfl) (show (60 : Int64) = (60 : Int32).toInt64 from rfl), some_bind']
          by_cases g3 : wiB 1 60 b = true
          · rw [if_neg (z1 g3), i_inM _ (show (0 : Int64) = (0 : Int32).toInt64 from rfl) (show (100 : Int64) = (100 : Int32).toInt64 from rfl), some_bind']
            by_cases g4 : wiB 0 100 c = true
            · rw [if_neg (z1 g4), i_inM _ (show (0 : Int64) = (0 : Int32).toInt64 from rfl) (show (1 : Int64) = (1 : Int32).toInt64 from rfl), some_bind', if_neg (fun z => z (z0 (fun q => g ⟨g1, ⟨g2, g3, g4⟩, q⟩))), bX13_markets_54]
            · rw [if_pos (z0 g4), bX13_markets_54]
          · rw [if_pos (z0 g3), bX13_markets_54]
        · rw [if_pos (z0 g2), bX13_markets_54]
      · rw [if_pos (z0 g1), bX13_markets_54]
  obtain ⟨g1, ⟨g2, g3, g4⟩, g5⟩ := id g
  have hp : 0 < W.2.1.1.2.1 := of_decide_eq_true g1
  obtain ⟨n, ln, hn, rfl⟩ := wiB_ex (lo := 1) (hi := 10) rfl rfl (by decide) (by decide) g2
  obtain ⟨hr, lh, hh, rfl⟩ := wiB_ex (lo := 1) (hi := 60) rfl rfl (by decide) (by decide) g3
  obtain ⟨k, hk, hkx⟩ := hv.2.1.1.2.2.2.1
  refine ⟨W, mkA W c e n hr k, Xask fun sh y d hx => ?_, Mask hv fun sh x m d hM hi => ?_⟩
  · have hS : isSc sh 3 := hx.1.1.2.2.1
    have hW : isWM sh 0 := hx.1.1.1
    have hO : isOl sh 205 := hx.1.2.2.1
    obtain ⟨u, u1, u2, u3⟩ := Q_wind (L := L) (xs := xs) (d + 57) hv hx 206
    have ex : u.1 3 4 = nI k := by rw [u3.1.2.2.2.2.1.2.2.2.2.2.1, hkx]
    have ho : Off (fun o => o = 205) u (sI u 205 10 (nI k)) := Off_sI (D := fun o => o = 205) (Off_refl _ _) (by rfl) _ _
    have hq : QD L xs sh W (sI u 205 10 (nI k)) (gSt u 206) k := by
      refine ⟨QT_off u3 ho (fun o q => by omega), ?_⟩
      show (if 205 = 205 ∧ 10 = 10 then nI k else u.1 205 10) = nI k
      rw [if_pos ⟨rfl, rfl⟩]
    obtain ⟨w, w1, w2, w3⟩ := mkt_out (L := L) (xs := xs) d hv hp hn hh (c := c) e n 0 (by omega) _ _ (k, 0, 0) none hq
    have hoff : Off Dq y w := Off_trans (Off_trans (Off_mono u2 (fun o q => by unfold Dq; omega)) (Off_mono ho (fun o q => by unfold Dq; omega))) (Off_mono w2 (fun o q => by unfold Dm Dt at q; unfold Dq; omega))
    have haf : cI (ZZ L xs) (d + 59) mX2_drawn [.ref 205, .int (nI n), .int (nI hr), .int c, .int e] (HP sh u) = some (HP sh w, mkA W c e n hr k) := by
      refine cI_of ?_
      show RS (ZZ L xs) (d + 59) mX2_drawn 0 [some (.ref 205), some (.int (nI n)), some (.int (nI hr)), some (.int c), some (.int e), none, none, none, none] [] _ = _
      rw [bX2_drawn_0, Ol_now hO, some_bind', Sc_x hS, some_bind', ex, Olw_x hO, some_bind']
      exact w1
    refine ⟨w, ?_, w3, hoff⟩
    show RS (ZZ L xs) (d + 60) mX12_markets 0 [some (.ref 0), some (.int (nI n)), some (.int (nI hr)), some (.int c), some (.int e), none] [] _ = _
    rw [X0 sh y d hx, bX12_markets_35, WM_is hx.1.1.1, some_bind', i_hasTown _ hx hv, some_bind', if_neg (z1 g1), if_pos g.2.1, if_neg (by decide), i_within, some_bind', if_pos (z1 g5), WM_is hW, some_bind', u1, some_bind', WM_outlook hW, some_bind', Ol_is hO, some_bind', haf, some_bind']
  · obtain ⟨m1, k1, k2, k3⟩ := Q_keep (L := L) (xs := xs) (x := x) (d + 56) hM hv hi
    have e8 : m.2.1 0 8 = nI k := hi.2.1.2.2.2.1.2.trans hkx
    obtain ⟨m2, q1, q2⟩ := mkt_outM (L := L) (xs := xs) (x := x) d hM hv hp hi hn hh (c := c) e (if e = 0 then W.2.1.2.1.1.2.2 else allF W.2.1.2.1 W.2.1.1.2.2.1 0 0) rfl n 0 (by omega) m1 (k, 0, 0) none none hk k2 k3
    refine ⟨m2, ?_, q2⟩
    show RS (ZZ L xs) (d + 60) mX13_markets 0 [some (.ref 259), some (.int (nI n)), some (.int (nI hr)), some (.int c), some (.int e), none, none, none, none, none, none, none] [] _ = _
    rw [bX13_markets_0, M_is hM, some_bind', i_townM _ hM hi hv, some_bind', if_neg (z1 g1), i_inM _ (show (1 : Int64) = (1 : Int32).toInt64 from rfl) (show (10 : Int64) = (10 : Int32).toInt64 from rfl), some_bind', if_neg (z1 g2), i_inM _ (show (1 : Int64) = (1 : Int32).toInt64 from rfl) (show (60 : Int64) = (60 : Int32).toInt64 from rfl), some_bind', if_neg (z1 g3), i_inM _ (show (0 : Int64) = (0 : Int32).toInt64 from rfl) (show (100 : Int64) = (100 : Int32).toInt64 from rfl), some_bind', if_neg (z1 g4), i_inM _ (show (0 : Int64) = (0 : Int32).toInt64 from rfl) (show (1 : Int64) = (1 : Int32).toInt64 from rfl), some_bind', if_pos (z1 g5), M_scalar hM, some_bind', eI_l8, Me_scalar hM (by decide), some_bind']
    have q1' : RS (ZZ L xs) (d + 60) mX13_markets 100 [some (.ref 259), some (.int (nI n)), some (.int (nI hr)), some (.int c), some (.int e), some (.int (m.2.1 0 8)), some (.int (m.2.1 0 8)), some (.int (if e = 0 then W.2.1.2.1.1.2.2 else allF W.2.1.2.1 W.2.1.1.2.2.1 0 0)), some (.int 0), some (.int 0), none, none] [] (HP sh (pM x m1)) = some (HP sh (pM x m2), some (.int (mkA W c e n hr k))) := by
      rw [show (if e = 0 then ((k, (0 : Int32), (0 : Int32)) : Nat × Int32 × Int32).2.1 else ((k, (0 : Int32), (0 : Int32)) : Nat × Int32 × Int32).2.2) = 0 from ite_self _] at q1
      rw [e8] at q1 ⊢
      exact q1
    by_cases c0 : e = 0
    · rw [if_neg (fun z => z c0), some_bind', eI_l6, Me_scalar hM (by decide), some_bind', hi.2.1.2.1.2.2.2.1, bX13_markets_88, M_is hM, some_bind', k1, some_bind']
      rw [if_pos c0] at q1'
      exact q1'
    · rw [if_pos c0, M_is hM, some_bind', i_allM _ hM hi.2.1.1.1.2.2.1 h6 hi.2.1.2.1.2, some_bind', bX13_markets_88, M_is hM, some_bind', k1, some_bind']
      rw [if_neg c0] at q1'
      exact q1'
end MARKET3
