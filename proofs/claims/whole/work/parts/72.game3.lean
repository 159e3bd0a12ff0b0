section GAME3
variable {L : Nat} {xs : Nat → Int32} {W : WD} {sh : List Sh} {x : ST} {m : MM}
theorem m_play (d : Nat) (hM : isMo sh) (hv : VW W) (hi : MI L xs m W) {p q n c : Nat} (hp : p < W.2.1.1.2.2.1) (hq : q < W.2.1.1.2.2.1) (hn : n ≤ 3) (hc : c < 512) : ∀ (f t : Nat), f + t = n → ∀ (m1 : MM) (s : SV) (u5 u10 u11 : Option Value), QM L xs sh x W m (RF W W.2.1.2.2.2.1.1) (W.2.1.1.1.1 5) m1 s → gaT W p q t (c / W.2.1.1.2.1 ^ f) = some s → ∃ m2, RS (ZZ L xs) (d + 59) mX13_playOf 25 [some (.ref 259), some (.int (nI p)), some (.int (nI q)), some (.int (nI n)), some (.int (nI c)), u5, some (.int (nI (W.2.1.1.2.1 ^ f))), some (.int (gaL p q W.2.1.2.1)), some (.int 1), some (.int (nI t)), u10, u11] [] (HP sh (pM x m1)) = some (HP sh (pM x m2), some (.int (gaC (gaEv W p q n n c)))) ∧ MJ m m2 ∧ QM L xs sh x W m (RF W W.2.1.2.2.2.1.1) (W.2.1.1.1.1 5) m2 W.2.1.2.1 ∧ m2.2.1 40 = m1.2.1 40 := by
  have h5 : W.2.1.1.2.2.2 ≤ 5 := hv.2.1.1.1.1.2.2.2
  have h6 : W.2.1.1.2.2.1 ≤ 6 := hv.2.1.1.1.1.2.1
  have h8 : W.2.1.1.2.1 ≤ 8 := hv.2.1.1.1.2.2.2.2.1.1
  have hP : 0 < W.2.1.1.2.1 := pl_of_np hv hp
  have hVT := hv.2.1.1.1.2.2.2.1 hP
  -- no play: laid back
  have dead : ∀ (t : Nat) (m1 : MM) (i6 : Int32) (u5 u10 u11 : Option Value), t ≤ 3 → KJ m m1 → gaEv W p q n n c = none → ∃ m2, RS (ZZ L xs) (d + 59) mX13_playOf 25 [some (.ref 259), some (.int (nI p)), some (.int (nI q)), some (.int (nI n)), some (.int (nI c)), u5, some (.int i6), some (.int (gaL p q W.2.1.2.1)), some (.int 0), some (.int (nI t)), u10, u11] [] (HP sh (pM x m1)) = some (HP sh (pM x m2), some (.int (gaC (gaEv W p q n n c)))) ∧ MJ m m2 ∧ QM L xs sh x W m (RF W W.2.1.2.2.2.1.1) (W.2.1.1.1.1 5) m2 W.2.1.2.1 ∧ m2.2.1 40 = m1.2.1 40 := fun t m1 i6 u5 u10 u11 ht hK hE => by
    obtain ⟨l, l1, l2, l3, l4⟩ := Q_lay (L := L) (xs := xs) (x := x) (d + 55) hM hv hi hK
    refine ⟨l, ?_, l2, l3, l4 40 (by decide)⟩
    rw [hE, bX13_playOf_25]
    by_cases hle : nI n ≤ nI t
    · rw [if_pos hle, bX13_playOf_139, if_pos rfl, bX13_playOf_166, M_is hM, some_bind', l1, some_bind']
      rfl
    · rw [if_neg hle, if_pos rfl, bX13_playOf_139, if_pos rfl, bX13_playOf_166, M_is hM, some_bind', l1, some_bind']
      rfl
  intro f
  induction f with
  | zero =>
    intro t ht m1 s u5 u10 u11 h hs
    have ht : t = n := by omega
    subst ht
    rw [Nat.pow_zero, Nat.div_one] at hs
    obtain ⟨l, l1, l2, l3, l4⟩ := Q_lay (L := L) (xs := xs) (x := x) (d + 55) hM hv hi h.1
    refine ⟨l, ?_, l2, l3, l4 40 (by decide)⟩
    have e1 : m1.2.1 4 p = s.2.2 3 p := Md_all h.2.2.2.1 hp
    have e2 : m1.2.1 4 q = s.2.2 3 q := Md_all h.2.2.2.1 hq
    have e3 : gaC (gaEv W p q t t c) = s.2.2 3 p - s.2.2 3 q - gaL p q W.2.1.2.1 := by
      unfold gaEv
      rw [hs, Nat.sub_self]
      rfl
    rw [bX13_playOf_25, if_pos (nI_le (by omega) (by omega)), bX13_playOf_139, if_neg (by decide)]
    simp (disch := omega) only [M_askedAll hM, Me_askedAll hM, some_bind', e1, e2]
    rw [bX13_playOf_166, M_is hM, some_bind', l1, some_bind', e3]
  | succ f ih =>
    intro t ht m1 s u5 u10 u11 h hs
    rw [← div_p] at hs
    have hk0 : 0 < W.2.1.1.2.1 ^ f := Nat.pow_pos hP
    have hk1 : W.2.1.1.2.1 ^ f ≤ 8 ^ f := Nat.pow_le_pow_left h8 f
    have hk2 : 8 ^ f ≤ 8 ^ 2 := Nat.pow_le_pow_right (by decide) (by omega)
    have hk3 : W.2.1.1.2.1 ^ (f + 1) = W.2.1.1.2.1 ^ f * W.2.1.1.2.1 := Nat.pow_succ ..
    have hk4 : W.2.1.1.2.1 ^ f * W.2.1.1.2.1 ≤ 64 * 8 := Nat.mul_le_mul (by omega) h8
    have d1 : nI (W.2.1.1.2.1 ^ (f + 1)) / nI W.2.1.1.2.1 = nI (W.2.1.1.2.1 ^ f) := by
      rw [pk_div (by omega) hP (by omega), hk3, Nat.mul_div_cancel _ hP]
    have d2 : nI c / nI (W.2.1.1.2.1 ^ f) = nI (c / W.2.1.1.2.1 ^ f) := pk_div (by omega) hk0 (by omega)
    have hcl : c / W.2.1.1.2.1 ^ f ≤ c := Nat.div_le_self _ _
    have d3 : iRem (nI (c / W.2.1.1.2.1 ^ f)) (nI W.2.1.1.2.1) = nI (c / W.2.1.1.2.1 ^ f % W.2.1.1.2.1) := rem_nI (by omega) hP (by omega)
    have r1 : iRem (nI t) 2 = nI (t % 2) := rem_nI (b := 2) (by omega) (by omega) (by omega)
    have hm : gaM p q t < W.2.1.1.2.2.1 := by
      unfold gaM
      split
      · exact hp
      · exact hq
    have hst := gaT_some hs
    obtain ⟨a, ha, hat⟩ := h.2.2.2.2.1.2.1 _ hm
    have hdg : c / W.2.1.1.2.1 ^ f % W.2.1.1.2.1 < W.2.1.1.2.1 := Nat.mod_lt _ hP
    generalize hD : c / W.2.1.1.2.1 ^ f % W.2.1.1.2.1 = D at *
    have e1 : m1.2.1 1 (gaM p q t) = nI a := (Md_at h.2.2.2.1 hm).trans hat
    have e8 : m1.2.1 8 a = nb s.2.1 (nI a) := h.2.2.1 a (by omega)
    have go : ∀ (u5 u8 u10 u11 : Option Value), ∃ m2, RS (ZZ L xs) (d + 59) mX13_playOf 48 [some (.ref 259), some (.int (nI p)), some (.int (nI q)), some (.int (nI n)), some (.int (nI c)), u5, some (.int (nI (W.2.1.1.2.1 ^ (f + 1)))), some (.int (gaL p q W.2.1.2.1)), u8, some (.int (nI t)), u10, u11] [.int (nI (gaM p q t))] (HP sh (pM x m1)) = some (HP sh (pM x m2), some (.int (gaC (gaEv W p q n n c)))) ∧ MJ m m2 ∧ QM L xs sh x W m (RF W W.2.1.2.2.2.1.1) (W.2.1.1.1.1 5) m2 W.2.1.2.1 ∧ m2.2.1 40 = m1.2.1 40 := fun u5 u8 u10 u11 => by
      -- the move is one
      have yes : gaO s (gaM p q t) D = true → ∃ m2, RS (ZZ L xs) (d + 59) mX13_playOf 107 [some (.ref 259), some (.int (nI p)), some (.int (nI q)), some (.int (nI n)), some (.int (nI c)), none, some (.int (nI (W.2.1.1.2.1 ^ f))), some (.int (gaL p q W.2.1.2.1)), none, some (.int (nI t)), some (.int (nI (gaM p q t))), some (.int (nI D))] [] (HP sh (pM x m1)) = some (HP sh (pM x m2), some (.int (gaC (gaEv W p q n n c)))) ∧ MJ m m2 ∧ QM L xs sh x W m (RF W W.2.1.2.2.2.1.1) (W.2.1.1.1.1 5) m2 W.2.1.2.1 ∧ m2.2.1 40 = m1.2.1 40 := fun ok => by
        have h1 := QM_at h (q := gaM p q t) (p := D) hdg
        obtain ⟨g, g1, g2, g3, -⟩ := Q_goes (L := L) (xs := xs) (x := x) (d + 51) hM hVT h1
        rw [if_pos ok] at hst
        obtain ⟨m2, p1, p2, p3, p4⟩ := ih (t + 1) (by omega) g _ none none none g3 hst
        refine ⟨m2, ?_, p2, p3, p4.trans ((g2.2.1 40 (by decide) (by decide)).trans (mA_ne m1 _ _ (by decide)))⟩
        rw [bX13_playOf_107, bX13_playOf_112, if_neg (by decide), M_at hM, some_bind', Mu_at hM (by omega), some_bind', M_is hM, some_bind', g1, some_bind', bX13_playOf_133, nI_1]
        exact p1
      rw [bX13_playOf_48, M_scalar hM, some_bind', eI_l0, Me_scalar hM (by decide), some_bind', h.2.1.1, if_neg (nI_ne0 (by omega) (by omega)), d1, if_neg (nI_ne0 (by omega) (by omega)), some_bind', eI_l0, Me_scalar hM (by decide), some_bind', h.2.1.1, if_neg (nI_ne0 (by omega) (by omega)), d2, d3, M_at hM, some_bind', Me_at hM (by omega), some_bind', e1]
      by_cases eq : nI D = nI a
      · rw [if_pos eq]
        exact yes (by unfold gaO; rw [hat, ← eq]; simp)
      · rw [if_neg eq, M_open hM, some_bind', some_bind', Me_at hM (by omega), some_bind', e1, Me_open hM (by omega), some_bind', e8, i_has _ _ (by omega), some_bind']
        by_cases hbt : bt (nb s.2.1 (nI a)) D = true
        · rw [if_neg (fun z => b01_0.mp z hbt)]
          exact yes (by unfold gaO; rw [hat, hbt]; rfl)
        · have no : ¬ gaO s (gaM p q t) D = true := fun z => by
            unfold gaO at z
            rw [hat, Bool.or_eq_true] at z
            rcases z with z | z
            · exact hbt z
            · exact eq (of_decide_eq_true z).symm
          rw [if_neg no] at hst
          have hE : gaEv W p q n n c = none := by
            have := gaT_dead (W := W) (p := p) (q := q) (c := c) f (t + 1) hst
            unfold gaEv
            rw [show f + (t + 1) = n by omega] at this
            rw [this]
          obtain ⟨m2, p1, p2, p3, p4⟩ := dead (t + 1) m1 (nI (W.2.1.1.2.1 ^ f)) none none none (by omega) h.1 hE
          refine ⟨m2, ?_, p2, p3, p4⟩
          rw [if_pos (b01_0.mpr hbt), bX13_playOf_112, if_pos rfl, bX13_playOf_133, nI_1]
          exact p1
    rw [bX13_playOf_25, if_neg (nI_ge (by omega) (by omega)), if_neg (by decide), if_neg (by decide), r1]
    by_cases par : t % 2 = 0
    · rw [if_neg (fun z => z (by rw [par]; rfl))]
      have := go none (some (.int 1)) none none
      rw [show gaM p q t = p from if_pos par] at this
      exact this
    · rw [if_pos (show ¬ nI (t % 2) = 0 from nI_ne0 (by omega) (by omega))]
      have := go none (some (.int 1)) none none
      rw [show gaM p q t = q from if_neg par] at this
      exact this
theorem i_playOf (d : Nat) (hM : isMo sh) (hv : VW W) (hi : MI L xs m W) {p q n c : Nat} (hp : p < W.2.1.1.2.2.1) (hq : q < W.2.1.1.2.2.1) (hn : n ≤ 3) (hc : c < W.2.1.1.2.1 ^ n) {m1 : MM} (h : QM L xs sh x W m (RF W W.2.1.2.2.2.1.1) (W.2.1.1.1.1 5) m1 W.2.1.2.1) : ∃ m2, cI (ZZ L xs) (d + 59) mX13_playOf [.ref 259, .int (nI p), .int (nI q), .int (nI n), .int (nI c), .int (nI (W.2.1.1.2.1 ^ n))] (HP sh (pM x m1)) = some (HP sh (pM x m2), gaC (gaEv W p q n n c)) ∧ MJ m m2 ∧ QM L xs sh x W m (RF W W.2.1.2.2.2.1.1) (W.2.1.1.1.1 5) m2 W.2.1.2.1 ∧ m2.2.1 40 = m1.2.1 40 := by
  have h6 : W.2.1.1.2.2.1 ≤ 6 := hv.2.1.1.1.1.2.1
  have h8 : W.2.1.1.2.1 ≤ 8 := hv.2.1.1.1.2.2.2.2.1.1
  have hk1 : W.2.1.1.2.1 ^ n ≤ 8 ^ n := Nat.pow_le_pow_left h8 n
  have hk2 : 8 ^ n ≤ 8 ^ 3 := Nat.pow_le_pow_right (by decide) hn
  obtain ⟨m2, p1, p2, p3, p4⟩ := m_play (L := L) (xs := xs) (x := x) d hM hv hi hp hq hn (c := c) (by omega) n 0 rfl m1 _ (some (.int (nI (W.2.1.1.2.1 ^ n)))) none none h rfl
  refine ⟨m2, cI_of ?_, p2, p3, p4⟩
  have e1 : m1.2.1 4 p = W.2.1.2.1.2.2 3 p := Md_all h.2.2.2.1 hp
  have e2 : m1.2.1 4 q = W.2.1.2.1.2.2 3 q := Md_all h.2.2.2.1 hq
  show RS (ZZ L xs) (d + 59) mX13_playOf 0 [some (.ref 259), some (.int (nI p)), some (.int (nI q)), some (.int (nI n)), some (.int (nI c)), some (.int (nI (W.2.1.1.2.1 ^ n))), none, none, none, none, none, none] [] _ = _
  rw [bX13_playOf_0]
  simp (disch := omega) only [M_askedAll hM, Me_askedAll hM, some_bind', e1, e2]
  exact p1
/-- the best of a row of plays -/
theorem i_best (d : Nat) (hM : isMo sh) {P b : Nat} (hP : 0 < P) (hb : b + P ≤ 512) {e : Nat → Option Int32} (hr : ∀ j v, e j = some v → gaR v) (hA : ∀ j, j < P → m.2.1 40 (b + j) = gaC (e j)) (mx : Bool) {t0 : Int32} (ht : t0 = if mx = true then 1 else 0) : ∃ a, a < P ∧ cI (ZZ L xs) (d + 1) mX13_bestAt [.ref 259, .int (nI b), .int (nI P), .int t0] (HP sh (pM x m)) = some (HP sh (pM x m), nI (b + a)) ∧ m.2.1 40 (b + a) = (match lp (gaG mx e) P 0 none with
    | none => -100000
    | some c => c.1) ∧ ∀ c, lp (gaG mx e) P 0 none = some c → a = c.2 := by
  have loop : ∀ (f j : Nat), f + j = P → 0 < j → ∀ (acc : Option (Int32 × Nat)) (k : Nat) (u6 : Option Value), k < P → (acc = none → m.2.1 40 (b + k) = -100000) → (∀ c, acc = some c → c.2 = k ∧ m.2.1 40 (b + k) = c.1 ∧ gaR c.1) → ∃ a, a < P ∧ RS (ZZ L xs) (d + 1) mX13_bestAt 8 [some (.ref 259), some (.int (nI b)), some (.int (nI P)), some (.int t0), some (.int (nI (b + k))), some (.int (nI (b + j))), u6] [] (HP sh (pM x m)) = some (HP sh (pM x m), some (.int (nI (b + a)))) ∧ m.2.1 40 (b + a) = (match lp (gaG mx e) f j acc with
    | none => -100000
    | some c => c.1) ∧ ∀ c, lp (gaG mx e) f j acc = some c → a = c.2 := by
    intro f
    induction f with
    | zero =>
      intro j hj h0 acc k u6 hk h1 h2
      refine ⟨k, hk, ?_, ?_, fun c hc => (h2 c hc).1.symm⟩
      · rw [bX13_bestAt_8, nI_add, if_pos (nI_le (by omega) (by omega))]
      · show _ = (match acc with
          | none => -100000
          | some c => c.1)
        cases hc : acc with
        | none => exact h1 hc
        | some c => exact (h2 c hc).2.1
    | succ f ih =>
      intro j hj h0 acc k u6 hk h1 h2
      have hj2 := hA j (by omega)
      -- taken or kept
      have take : ∀ (u4 u6 : Option Value) (v : Int32), e j = some v → gaG mx e j acc = some (v, j) → ∃ a, a < P ∧ RS (ZZ L xs) (d + 1) mX13_bestAt 100 [some (.ref 259), some (.int (nI b)), some (.int (nI P)), some (.int t0), u4, some (.int (nI (b + j))), u6] [] (HP sh (pM x m)) = some (HP sh (pM x m), some (.int (nI (b + a)))) ∧ m.2.1 40 (b + a) = (match lp (gaG mx e) (f + 1) j acc with
          | none => -100000
          | some c => c.1) ∧ ∀ c, lp (gaG mx e) (f + 1) j acc = some c → a = c.2 := fun u4 u6 v hv hg => by
        obtain ⟨a, a1, a2, a3, a4⟩ := ih (j + 1) (by omega) (by omega) (some (v, j)) j none (by omega) (fun z => by cases z) (fun c hc => by
          cases hc
          exact ⟨rfl, by rw [hj2, hv]; rfl, hr j v hv⟩)
        rw [← hg] at a3 a4
        refine ⟨a, a1, ?_, a3, a4⟩
        rw [bX13_bestAt_100, bX13_bestAt_104, nI_1, show b + j + 1 = b + (j + 1) by omega]
        exact a2
      have keep : ∀ (u6 : Option Value), gaG mx e j acc = acc → ∃ a, a < P ∧ RS (ZZ L xs) (d + 1) mX13_bestAt 104 [some (.ref 259), some (.int (nI b)), some (.int (nI P)), some (.int t0), some (.int (nI (b + k))), some (.int (nI (b + j))), u6] [] (HP sh (pM x m)) = some (HP sh (pM x m), some (.int (nI (b + a)))) ∧ m.2.1 40 (b + a) = (match lp (gaG mx e) (f + 1) j acc with
          | none => -100000
          | some c => c.1) ∧ ∀ c, lp (gaG mx e) (f + 1) j acc = some c → a = c.2 := fun u6 hg => by
        obtain ⟨a, a1, a2, a3, a4⟩ := ih (j + 1) (by omega) (by omega) acc k none hk h1 h2
        have hl : lp (gaG mx e) (f + 1) j acc = lp (gaG mx e) f (j + 1) acc := congrArg (lp (gaG mx e) f (j + 1)) hg
        rw [← hl] at a3 a4
        refine ⟨a, a1, ?_, a3, a4⟩
        rw [bX13_bestAt_104, nI_1, show b + j + 1 = b + (j + 1) by omega]
        exact a2
      have dec : ∀ (t : Int32) (u6 : Option Value), (∀ v c, e j = some v → acc = some c → (t = 0 → gaG mx e j acc = acc) ∧ (¬ t = 0 → gaG mx e j acc = some (v, j))) → ∃ a, a < P ∧ RS (ZZ L xs) (d + 1) mX13_bestAt 67 [some (.ref 259), some (.int (nI b)), some (.int (nI P)), some (.int t0), some (.int (nI (b + k))), some (.int (nI (b + j))), u6] [.int t] (HP sh (pM x m)) = some (HP sh (pM x m), some (.int (nI (b + a)))) ∧ m.2.1 40 (b + a) = (match lp (gaG mx e) (f + 1) j acc with
          | none => -100000
          | some c => c.1) ∧ ∀ c, lp (gaG mx e) (f + 1) j acc = some c → a = c.2 := fun t u6 hd => by
        rw [bX13_bestAt_67, M_plays hM, some_bind', Me_plays hM (by omega), some_bind', hj2]
        cases hv : e j with
        | none =>
          rw [if_pos (show gaC none = -100000 from rfl)]
          exact keep _ (by unfold gaG; rw [hv])
        | some v =>
          rw [if_neg (show ¬ gaC (some v) = -100000 from gaR_ne (hr j v hv)), some_bind', Me_plays hM (by omega), some_bind']
          cases hc : acc with
          | none =>
            rw [if_pos (h1 hc), ← hc]
            exact take _ _ v hv (by unfold gaG; rw [hv, hc])
          | some c =>
            obtain ⟨c1, c2, c3⟩ := h2 c hc
            rw [c2, if_neg (gaR_ne c3), ← hc]
            obtain ⟨d1, d2⟩ := hd v c hv hc
            by_cases t00 : t = 0
            · rw [if_pos t00]
              exact keep _ (d1 t00)
            · rw [if_neg t00]
              exact take _ _ v hv (d2 t00)
      rw [bX13_bestAt_8, nI_add, if_neg (nI_ge (by omega) (by omega))]
      cases mx with
      | true =>
        rw [if_neg (show ¬ t0 = 0 by rw [ht]; decide)]
        simp (disch := omega) only [M_plays hM, Me_plays hM, some_bind']
        by_cases le : m.2.1 40 (b + j) ≤ m.2.1 40 (b + k)
        · rw [if_pos le]
          exact dec 0 _ (fun v c hv hc => ⟨fun _ => by
            obtain ⟨c1, c2, c3⟩ := h2 c hc
            have le : v ≤ c.1 := by rw [hj2, hv, c2] at le; exact le
            unfold gaG
            rw [hv, hc]
            exact if_pos le, fun z => absurd rfl z⟩)
        · rw [if_neg le]
          exact dec 1 _ (fun v c hv hc => ⟨fun z => absurd z (by decide), fun _ => by
            obtain ⟨c1, c2, c3⟩ := h2 c hc
            have le : ¬ v ≤ c.1 := by rw [hj2, hv, c2] at le; exact le
            unfold gaG
            rw [hv, hc]
            exact if_neg le⟩)
      | false =>
        rw [if_pos (show t0 = 0 by rw [ht]; rfl)]
        simp (disch := omega) only [M_plays hM, Me_plays hM, some_bind']
        by_cases le : m.2.1 40 (b + k) ≤ m.2.1 40 (b + j)
        · rw [if_pos le]
          exact dec 0 _ (fun v c hv hc => ⟨fun _ => by
            obtain ⟨c1, c2, c3⟩ := h2 c hc
            have le : c.1 ≤ v := by rw [hj2, hv, c2] at le; exact le
            unfold gaG
            rw [hv, hc]
            exact if_pos le, fun z => absurd rfl z⟩)
        · rw [if_neg le]
          exact dec 1 _ (fun v c hv hc => ⟨fun z => absurd z (by decide), fun _ => by
            obtain ⟨c1, c2, c3⟩ := h2 c hc
            have le : ¬ c.1 ≤ v := by rw [hj2, hv, c2] at le; exact le
            unfold gaG
            rw [hv, hc]
            exact if_neg le⟩)
  have h00 := hA 0 hP
  obtain ⟨a, a1, a2, a3, a4⟩ := loop (P - 1) 1 (by omega) (by omega) (gaG mx e 0 none) 0 none hP (fun hz => by
    rw [h00]
    cases hv : e 0 with
    | none => rfl
    | some v =>
      unfold gaG at hz
      rw [hv] at hz
      cases hz) (fun c hc => by
    cases hv : e 0 with
    | none =>
      unfold gaG at hc
      rw [hv] at hc
      cases hc
    | some v =>
      unfold gaG at hc
      rw [hv] at hc
      cases hc
      exact ⟨rfl, by rw [h00, hv]; rfl, hr 0 v hv⟩)
  have hl : lp (gaG mx e) P 0 none = lp (gaG mx e) (P - 1) 1 (gaG mx e 0 none) := by
    obtain ⟨P', rfl⟩ : ∃ P', P = P' + 1 := ⟨P - 1, by omega⟩
    rfl
  rw [← hl] at a3 a4
  refine ⟨a, a1, cI_of ?_, a3, a4⟩
  show RS (ZZ L xs) (d + 1) mX13_bestAt 0 [some (.ref 259), some (.int (nI b)), some (.int (nI P)), some (.int t0), none, none, none] [] _ = _
  rw [bX13_bestAt_0, nI_1]
  exact a2
end GAME3
