/-! what the class's rule comes to: sums, and code as equations -/
section RX3
variable {L : Nat} {xs : Nat → Int32}
theorem j_sumOf (d : Nat) {sh : List Sh} {z : ST} {r a v q S i0 i1 : Nat} (hR : isRu sh r) (ha : sh[a]? = some (.inl (0, 12))) (hS : z.1 r 3 = nI S) (hq : q < S) (hS60 : S ≤ 60) (hv : v ≤ 60) (hok : okV z r v) (hF : z.2.2.2.1 (r + 3) q = nI i0) (hTo : z.2.2.2.1 (r + 4) q = nI i1) (h01 : i0 ≤ i1) (h1v : i1 ≤ v) : cJ (ZZ L xs) (d + 1) mX4_sumOf [.ref r, .int (nI q), .ref a] (HP sh z) = some (HP sh z, fin3 (rg (uW (z.2.2.2.1 a)) (z.2.2.2.1 (r + 1)) (z.2.2.2.1 (r + 2)) (i1 - i0) i0 (0, 0, false))) := by
  have loop : ∀ (n i : Nat) (t p : Int64) (m : Bool) (u9 u10 : Option Value), n + i = i1 → i ≤ i1 → RS (ZZ L xs) (d + 1) mX4_sumOf 30 [some (.ref r), some (.int (nI q)), some (.ref a), some (.long t), none, some (.long p), none, some (.int (z01 m)), some (.int (nI i)), u9, u10] [] (HP sh z) = some (HP sh z, some (.long (fin3 (rg (uW (z.2.2.2.1 a)) (z.2.2.2.1 (r + 1)) (z.2.2.2.1 (r + 2)) n i (t, p, m))))) := by
    intro n
    induction n with
    | zero =>
      intro i t p m u9 u10 hi hle
      rw [bX4_sumOf_30 (hv2 := rfl), Ru_sumTo hR, some_bind', Rue_sumTo hR _ (by omega), some_bind', hTo, if_pos (nI_le (by omega) (by omega))]
      show _ = some (HP sh z, some (Value.long (if m = true then t - p else t + p)))
      cases m with
      | true => rw [if_neg (by decide), if_pos rfl, bX4_sumOf_230]
      | false => rw [if_pos (by decide), if_neg (by decide), bX4_sumOf_230]
    | succ n ih =>
      intro i t p m u9 u10 hi hle
      have b74 : ∀ (u9 u10 : Option Value) (x : Int64), RS (ZZ L xs) (d + 1) mX4_sumOf 74 [some (.ref r), some (.int (nI q)), some (.ref a), some (.long t), none, some (.long p), none, some (.int (z01 m)), some (.int (nI i)), u9, u10] [.long x] (HP sh z) = some (HP sh z, some (.long (fin3 (rg (uW (z.2.2.2.1 a)) (z.2.2.2.1 (r + 1)) (z.2.2.2.1 (r + 2)) n (i + 1) (sg (z.2.2.2.1 (r + 1) i) x (t, p, m)))))) := fun u9 u10 x => by
        have b208 : ∀ (t p : Int64) (m : Bool) (u9 u10 : Option Value), RS (ZZ L xs) (d + 1) mX4_sumOf 208 [some (.ref r), some (.int (nI q)), some (.ref a), some (.long t), none, some (.long p), none, some (.int (z01 m)), some (.int (nI i)), u9, u10] [] (HP sh z) = some (HP sh z, some (.long (fin3 (rg (uW (z.2.2.2.1 a)) (z.2.2.2.1 (r + 1)) (z.2.2.2.1 (r + 2)) n (i + 1) (t, p, m))))) := fun t p m u9 u10 => by
          rw [bX4_sumOf_208 (hv2 := rfl), nI_1]
          exact ih (i + 1) t p m none none (by omega) (by omega)
        rw [bX4_sumOf_74 (hv2 := rfl), Ru_join hR, some_bind', Rue_join hR _ (by omega), some_bind']
        unfold sg
        by_cases j37 : z.2.2.2.1 (r + 1) i = 37
        · rw [if_pos j37, if_pos j37, bX4_sumOf_147 (hv2 := rfl)]
          by_cases x0 : x = 0
          · rw [if_neg (fun k => lg_ne0.mp k x0), bX4_sumOf_163 (hv2 := rfl), if_pos x0]
            exact b208 _ _ _ _ _
          · rw [if_pos (lg_ne0.mpr x0), if_neg x0, bX4_sumOf_163 (hv2 := rfl), if_neg x0]
            exact b208 _ _ _ _ _
        · rw [if_neg j37, if_neg j37]
          by_cases j42 : z.2.2.2.1 (r + 1) i = 42
          · rw [if_pos j42, if_pos j42, bX4_sumOf_116 (hv2 := rfl)]
            exact b208 _ _ _ _ _
          · rw [if_neg j42, if_neg j42]
            by_cases j47 : z.2.2.2.1 (r + 1) i = 47
            · rw [if_pos j47, if_pos j47, bX4_sumOf_126 (hv2 := rfl)]
              by_cases x0 : x = 0
              · rw [if_neg (fun k => lg_ne0.mp k x0), bX4_sumOf_142 (hv2 := rfl), if_pos x0]
                exact b208 _ _ _ _ _
              · rw [if_pos (lg_ne0.mpr x0), if_neg x0, bX4_sumOf_142 (hv2 := rfl), if_neg x0]
                exact b208 _ _ _ _ _
            · rw [if_neg j47, if_neg j47, bX4_sumOf_168 (hv2 := rfl)]
              have b184 : ∀ (u3 u4 u5 u6 u7 : Option Value) (t2 : Int64), RS (ZZ L xs) (d + 1) mX4_sumOf 184 [some (.ref r), some (.int (nI q)), some (.ref a), u3, u4, u5, u6, u7, some (.int (nI i)), some (.long x), none] [.long t2] (HP sh z) = some (HP sh z, some (.long (fin3 (rg (uW (z.2.2.2.1 a)) (z.2.2.2.1 (r + 1)) (z.2.2.2.1 (r + 2)) n (i + 1) (t2, x, decide (z.2.2.2.1 (r + 1) i = 45)))))) := fun u3 u4 u5 u6 u7 t2 => by
                rw [bX4_sumOf_184 (hv2 := rfl), Ru_join hR, some_bind', Rue_join hR _ (by omega), some_bind']
                by_cases j45 : z.2.2.2.1 (r + 1) i = 45
                · rw [if_neg (fun k => k j45), bX4_sumOf_202 (hv2 := rfl), decide_eq_true j45]
                  exact b208 t2 x true _ _
                · rw [if_pos j45, bX4_sumOf_202 (hv2 := rfl), decide_eq_false j45]
                  exact b208 t2 x false _ _
              cases m with
              | true =>
                rw [if_neg (show ¬ z01 true = 0 by decide), if_pos rfl]
                exact b184 _ _ _ _ _ _
              | false =>
                rw [if_pos (show z01 false = 0 by decide), if_neg (show ¬ (t, p, false).2.2 = true from fun k => by cases k)]
                exact b184 _ _ _ _ _ _
      rw [bX4_sumOf_30 (hv2 := rfl), Ru_sumTo hR, some_bind', Rue_sumTo hR _ (by omega), some_bind', hTo, if_neg (nI_ge (by omega) (by omega)), Ru_value hR, some_bind', Rue_value hR _ (by omega), some_bind']
      show _ = some (HP sh z, some (Value.long (fin3 (rg (uW (z.2.2.2.1 a)) (z.2.2.2.1 (r + 1)) (z.2.2.2.1 (r + 2)) n (i + 1) (sg (z.2.2.2.1 (r + 1) i) (xv (uW (z.2.2.2.1 a)) (z.2.2.2.1 (r + 2) i)) (t, p, m))))))
      rcases hok i (by omega) with ⟨w, hw, e⟩ | ⟨w, hw, e⟩
      · rw [e, if_pos (nI_pos' hw), some_bind', Rue_value hR _ (by omega), some_bind', e, xv_n _ hw]
        exact b74 _ _ _
      · have hu : uW (z.2.2.2.1 a) w = (z.2.2.2.1 a w).toInt64 := if_pos hw
        rw [e, if_neg (neg12 ⟨w, hw⟩), some_bind', Rue_value hR _ (by omega), some_bind', e, not_not32, rA ha hw (by decide), some_bind', xv_w _ hw, hu]
        exact b74 _ _ _
  refine cJ_of ?_
  show RS (ZZ L xs) (d + 1) mX4_sumOf 0 [some (.ref r), some (.int (nI q)), some (.ref a), none, none, none, none, none, none, none, none] [] _ = _
  rw [bX4_sumOf_0 (hv2 := rfl), if_neg (nI_pos (by omega)), Ru_sums hR, some_bind', hS, if_pos (nI_lt hq (by omega)), Ru_sumFrom hR, some_bind', Rue_sumFrom hR _ (by omega), some_bind', hF]
  exact loop (i1 - i0) i0 0 0 false none none (by omega) h01
/-- a sum of the rule comes to E, wherever it is read -/
def SumP (L : Nat) (xs : Nat → Int32) (y : ST) (r q v sm : Nat) (E : (Nat → Int64) → Int64) : Prop := ∀ (sh : List Sh) (z : ST) (a d S : Nat), isRu sh r → sh[a]? = some (.inl (0, 12)) → z.1 r 3 = nI S → sm ≤ S → S ≤ 60 → Agv y z r v sm → cJ (ZZ L xs) (d + 1) mX4_sumOf [.ref r, .int (nI q), .ref a] (HP sh z) = some (HP sh z, E (uW (z.2.2.2.1 a)))
theorem SumP_mono {y y' : ST} {r q v sm v' sm' : Nat} {E : (Nat → Int64) → Int64} (h : SumP L xs y r q v sm E) (g : Agv y y' r v sm) (h1 : v ≤ v') (h2 : sm ≤ sm') : SumP L xs y' r q v' sm' E := fun sh z a d S a1 a2 a3 a4 a5 a6 => h sh z a d S a1 a2 a3 (by omega) a5 (Agv_trans g a6 h1 h2)
theorem SumP_of {y : ST} {r q v sm i0 : Nat} {E : (Nat → Int64) → Int64} (hq : q < sm) (hv : v ≤ 60) (hok : okV y r v) (hF : y.2.2.2.1 (r + 3) q = nI i0) (hTo : y.2.2.2.1 (r + 4) q = nI v) (h01 : i0 ≤ v) (hE : ∀ u, fin3 (rg u (y.2.2.2.1 (r + 1)) (y.2.2.2.1 (r + 2)) (v - i0) i0 (0, 0, false)) = E u) : SumP L xs y r q v sm E := fun sh z a d S a1 a2 a3 a4 a5 a6 => by
  rw [j_sumOf d a1 a2 a3 (by omega) a5 hv (fun k hk => by rw [(a6.1 k hk).2]; exact hok k hk) ((a6.2 q hq).1.trans hF) ((a6.2 q hq).2.trans hTo) h01 (Nat.le_refl _), rg_cg (J := y.2.2.2.1 (r + 1)) (V := y.2.2.2.1 (r + 2)) _ _ _ (fun k h1 h2 => a6.1 k (by omega)), hE]
/-- the rule's worth, at a step -/
noncomputable def Rw (L : Nat) (xs : Nat → Int32) (sh : List Sh) (z : ST) (r a d : Nat) (i : Nat) (h : Bool) : Option (PH × Option Value) := RS (ZZ L xs) (d + 2) mX4_worth 4 [some (.ref r), some (.ref a), some (.int (z01 h)), some (.int (nI i)), none] [] (HP sh z)
/-- code from i to j makes D of whatever held -/
def SegP (L : Nat) (xs : Nat → Int32) (y : ST) (r i j v sm : Nat) (D : (Nat → Int64) → Bool) : Prop := ∀ (sh : List Sh) (z : ST) (a d N S : Nat), isRu sh r → sh[a]? = some (.inl (0, 12)) → z.1 r 7 = nI N → j ≤ N → N ≤ 256 → z.1 r 3 = nI S → sm ≤ S → S ≤ 60 → Agv y z r v sm → Agc y z r i j → ∀ h, Rw L xs sh z r a d i h = Rw L xs sh z r a d j (D (uW (z.2.2.2.1 a)))
theorem SegP_mono {y y' : ST} {r i j v sm v' sm' : Nat} {D : (Nat → Int64) → Bool} (h : SegP L xs y r i j v sm D) (g : Agv y y' r v sm) (gc : Agc y y' r i j) (h1 : v ≤ v') (h2 : sm ≤ sm') : SegP L xs y' r i j v' sm' D := fun sh z a d N S a1 a2 a3 a4 a5 a6 a7 a8 a9 a10 => h sh z a d N S a1 a2 a3 a4 a5 a6 (by omega) a8 (Agv_trans g a9 h1 h2) (Agc_trans gc a10 (Nat.le_refl _) (Nat.le_refl _))
section WK
variable {sh : List Sh} {z : ST} {r a d N i : Nat}
theorem w_start (hR : isRu sh r) (hN : z.1 r 7 = nI N) (hi : i < N) (hN256 : N ≤ 256) (h : Bool) {s w : Int32} (hs : z.2.2.2.1 (r + 5) i = s) (hw : z.2.2.2.1 (r + 6) i = w) : Rw L xs sh z r a d i h = if s = 1 then RS (ZZ L xs) (d + 2) mX4_worth 56 [some (.ref r), some (.ref a), some (.int (z01 h)), some (.int (nI i)), some (.int w)] [] (HP sh z) else if s = 2 then RS (ZZ L xs) (d + 2) mX4_worth 69 [some (.ref r), some (.ref a), some (.int (z01 h)), some (.int (nI i)), some (.int w)] [] (HP sh z) else if s = 3 then RS (ZZ L xs) (d + 2) mX4_worth 89 [some (.ref r), some (.ref a), some (.int (z01 h)), some (.int (nI i)), some (.int w)] [] (HP sh z) else if s = 4 then RS (ZZ L xs) (d + 2) mX4_worth 109 [some (.ref r), some (.ref a), some (.int (z01 h)), some (.int (nI i)), some (.int w)] [] (HP sh z) else RS (ZZ L xs) (d + 2) mX4_worth 117 [some (.ref r), some (.ref a), some (.int (z01 h)), some (.int (nI i)), some (.int w)] [] (HP sh z) := by
  unfold Rw
  rw [bX4_worth_4 (hv1 := rfl), Ru_steps hR, some_bind', hN, if_neg (nI_ge hi (by omega)), Ru_with hR, some_bind', Rue_with hR _ (by omega), some_bind', hw, Ru_step hR, some_bind', Rue_step hR _ (by omega), some_bind', hs]
theorem w_143 {h : Bool} {u4 : Option Value} : RS (ZZ L xs) (d + 2) mX4_worth 143 [some (.ref r), some (.ref a), some (.int (z01 h)), some (.int (nI i)), u4] [] (HP sh z) = Rw L xs sh z r a d (i + 1) h := by
  rw [bX4_worth_143 (hv1 := rfl), nI_1]
  rfl
theorem w_not (hR : isRu sh r) (hN : z.1 r 7 = nI N) (hi : i < N) (hN256 : N ≤ 256) (h : Bool) (hs : z.2.2.2.1 (r + 5) i = 1) : Rw L xs sh z r a d i h = Rw L xs sh z r a d (i + 1) (!h) := by
  rw [w_start hR hN hi hN256 h hs rfl, if_pos rfl, bX4_worth_56 (hv1 := rfl)]
  cases h with
  | true =>
    rw [if_pos (show ¬ z01 true = 0 by decide), bX4_worth_65 (hv1 := rfl)]
    exact w_143 (h := false)
  | false =>
    rw [if_neg (show ¬ ¬ z01 false = 0 by decide), bX4_worth_65 (hv1 := rfl)]
    exact w_143 (h := true)
theorem w_jump {t : Nat} (ht : i < t) (ht2 : t ≤ 256) : (if (nI i : Int32) < nI t - 1 then nI t - 1 else nI i) = nI (t - 1) := by
  rw [nI_m1 (by omega)]
  by_cases e : i < t - 1
  · rw [if_pos (nI_lt e (by omega))]
  · rw [if_neg (nI_nlt (by omega) (by omega)), show i = t - 1 by omega]
theorem w_unl {t : Nat} (hR : isRu sh r) (hN : z.1 r 7 = nI N) (hi : i < N) (hN256 : N ≤ 256) (h : Bool) (hs : z.2.2.2.1 (r + 5) i = 2) (hw : z.2.2.2.1 (r + 6) i = nI t) (ht : i < t) (ht2 : t ≤ 256) : Rw L xs sh z r a d i h = if h = true then Rw L xs sh z r a d (i + 1) true else Rw L xs sh z r a d t false := by
  rw [w_start hR hN hi hN256 h hs hw, if_neg (by decide), if_pos rfl, bX4_worth_69 (hv1 := rfl)]
  cases h with
  | true =>
    rw [if_neg (show ¬ z01 true = 0 by decide), bX4_worth_85 (hv1 := rfl), if_pos rfl]
    exact w_143
  | false =>
    rw [if_pos (show z01 false = 0 by decide), w_jump ht ht2, bX4_worth_85 (hv1 := rfl), if_neg (by decide), w_143, show t - 1 + 1 = t by omega]
theorem w_if {t : Nat} (hR : isRu sh r) (hN : z.1 r 7 = nI N) (hi : i < N) (hN256 : N ≤ 256) (h : Bool) (hs : z.2.2.2.1 (r + 5) i = 3) (hw : z.2.2.2.1 (r + 6) i = nI t) (ht : i < t) (ht2 : t ≤ 256) : Rw L xs sh z r a d i h = if h = true then Rw L xs sh z r a d t true else Rw L xs sh z r a d (i + 1) false := by
  rw [w_start hR hN hi hN256 h hs hw, if_neg (by decide), if_neg (by decide), if_pos rfl, bX4_worth_89 (hv1 := rfl)]
  cases h with
  | true =>
    rw [if_neg (show ¬ z01 true = 0 by decide), w_jump ht ht2, bX4_worth_105 (hv1 := rfl), if_pos rfl, w_143, show t - 1 + 1 = t by omega]
  | false =>
    rw [if_pos (show z01 false = 0 by decide), bX4_worth_105 (hv1 := rfl), if_neg (by decide)]
    exact w_143
end WK
/-! code put together -/
theorem Seg_trans {y : ST} {r i j k v sm : Nat} {D E : (Nat → Int64) → Bool} (h : SegP L xs y r i j v sm D) (g : SegP L xs y r j k v sm E) (h1 : i ≤ j) (h2 : j ≤ k) : SegP L xs y r i k v sm E := fun sh z a d N S a1 a2 a3 a4 a5 a6 a7 a8 a9 a10 b => by
  rw [h sh z a d N S a1 a2 a3 (by omega) a5 a6 a7 a8 a9 (fun q q1 q2 => a10 q q1 (by omega)) b]
  exact g sh z a d N S a1 a2 a3 a4 a5 a6 a7 a8 a9 (fun q q1 q2 => a10 q (by omega) q2) _
theorem Seg_not {y : ST} {r i j v sm : Nat} {D : (Nat → Int64) → Bool} (h : SegP L xs y r i j v sm D) (hij : i ≤ j) (hs : y.2.2.2.1 (r + 5) j = 1) : SegP L xs y r i (j + 1) v sm (fun u => !D u) := fun sh z a d N S a1 a2 a3 a4 a5 a6 a7 a8 a9 a10 b => by
  rw [h sh z a d N S a1 a2 a3 (by omega) a5 a6 a7 a8 a9 (fun q q1 q2 => a10 q q1 (by omega)) b]
  exact w_not a1 a3 (by omega) a5 _ ((a10 j (by omega) (by omega)).1.trans hs)
/-- cur, then a skip unless, then a fact -/
theorem Seg_and {y : ST} {r i j k v sm : Nat} {D E : (Nat → Int64) → Bool} (h : SegP L xs y r i j v sm D) (g : SegP L xs y r (j + 1) k v sm E) (h1 : i ≤ j) (h2 : j + 1 ≤ k) (hs : y.2.2.2.1 (r + 5) j = 2) (hw : y.2.2.2.1 (r + 6) j = nI k) : SegP L xs y r i k v sm (fun u => D u && E u) := fun sh z a d N S a1 a2 a3 a4 a5 a6 a7 a8 a9 a10 b => by
  rw [h sh z a d N S a1 a2 a3 (by omega) a5 a6 a7 a8 a9 (fun q q1 q2 => a10 q q1 (by omega)) b, w_unl a1 a3 (by omega) a5 _ ((a10 j (by omega) (by omega)).1.trans hs) ((a10 j (by omega) (by omega)).2.trans hw) (by omega) (by omega)]
  have e := g sh z a d N S a1 a2 a3 a4 a5 a6 a7 a8 a9 (fun q q1 q2 => a10 q (by omega) q2) true
  show _ = Rw L xs sh z r a d k (D (uW (z.2.2.2.1 a)) && E (uW (z.2.2.2.1 a)))
  cases D (uW (z.2.2.2.1 a)) with
  | true => rw [if_pos rfl, e, Bool.true_and]
  | false => rw [if_neg (by decide), Bool.false_and]
/-- a skip if, behind what held; then what else holds -/
theorem Seg_or {y : ST} {r i j k v sm : Nat} {D E : (Nat → Int64) → Bool} (h : SegP L xs y r i j v sm D) (g : SegP L xs y r (j + 1) k v sm E) (h1 : i ≤ j) (h2 : j + 1 ≤ k) (hs : y.2.2.2.1 (r + 5) j = 3) (hw : y.2.2.2.1 (r + 6) j = nI k) : SegP L xs y r i k v sm (fun u => D u || E u) := fun sh z a d N S a1 a2 a3 a4 a5 a6 a7 a8 a9 a10 b => by
  rw [h sh z a d N S a1 a2 a3 (by omega) a5 a6 a7 a8 a9 (fun q q1 q2 => a10 q q1 (by omega)) b, w_if a1 a3 (by omega) a5 _ ((a10 j (by omega) (by omega)).1.trans hs) ((a10 j (by omega) (by omega)).2.trans hw) (by omega) (by omega)]
  have e := g sh z a d N S a1 a2 a3 a4 a5 a6 a7 a8 a9 (fun q q1 q2 => a10 q (by omega) q2) false
  show _ = Rw L xs sh z r a d k (D (uW (z.2.2.2.1 a)) || E (uW (z.2.2.2.1 a)))
  cases D (uW (z.2.2.2.1 a)) with
  | true => rw [if_pos rfl, Bool.true_or]
  | false => rw [if_neg (by decide), e, Bool.false_or]
/-- the sign of a comparison -/
def cS (T : TP) (s : Nat) : Int32 := nI (Bt T s) + (if jE T s = true then 256 else 0)
theorem i_cmp (d : Nat) {T : TP} {s : Nat} (hk : cmK T s ≠ 0) (l r : Int64) (ph : PH) : cI (ZZ L xs) (d + 1) mX4_compares [.int (cS T s), .long l, .long r] ph = some (ph, z01 (decide (bo (cmK T s) l r = 1))) := by
  have tr : ∀ (p : Prop) [Decidable p], z01 (decide (tr1 p = 1)) = if p then 1 else 0 := fun p _ => by
    unfold tr1
    by_cases h : p
    · rw [if_pos h, if_pos h]
      rfl
    · rw [if_neg h, if_neg h]
      rfl
  refine cI_of ?_
  show RS (ZZ L xs) (d + 1) mX4_compares 0 [some (.int (cS T s)), some (.long l), none, some (.long r), none] [] ph = _
  rw [bX4_compares_0]
  unfold cS cmK
  unfold cmK at hk
  by_cases h61 : Bt T s = 61
  · have hj : ¬ jE T s = true := fun z => by have := jE_iff.mp z; omega
    rw [if_pos h61, if_neg hj, h61, if_neg (by decide), if_neg (by decide), if_neg (by decide), if_neg (by decide), bX4_compares_92]
    show _ = some (ph, some (Value.int (z01 (decide (tr1 (l = r) = 1)))))
    rw [tr]
    by_cases e : l = r
    · rw [if_neg (fun k => k (lg_eq.mpr e)), bX4_compares_103, if_pos (Or.inr rfl), if_pos e]
    · rw [if_pos (fun k => e (lg_eq.mp k)), bX4_compares_103, if_pos (Or.inl rfl), if_neg e]
  · rw [if_neg h61] at hk ⊢
    by_cases h60 : Bt T s = 60
    · rw [if_pos h60, h60]
      by_cases hj : jE T s = true
      · rw [if_pos hj, if_pos hj, if_neg (by decide), if_neg (by decide), if_pos (by decide), bX4_compares_56]
        show _ = some (ph, some (Value.int (z01 (decide (tr1 (l ≤ r) = 1)))))
        rw [tr]
        by_cases e : r < l
        · rw [if_pos (lg_gt.mpr e), bX4_compares_67, if_pos (Or.inl rfl), if_neg (Int64.not_le.mpr e)]
        · rw [if_neg (fun k => e (lg_gt.mp k)), bX4_compares_67, if_pos (Or.inr rfl), if_pos (Int64.not_lt.mp e)]
      · rw [if_neg hj, if_neg hj, if_pos (by decide), bX4_compares_44]
        show _ = some (ph, some (Value.int (z01 (decide (tr1 (l < r) = 1)))))
        rw [tr]
        by_cases e : l < r
        · rw [if_neg (fun k => absurd (lg_lt.mpr e) (Int32.not_lt.mpr k)), bX4_compares_55, if_pos (Or.inr rfl), if_pos e]
        · rw [if_pos (Int32.not_lt.mp (fun k => e (lg_lt.mp k))), bX4_compares_55, if_pos (Or.inl rfl), if_neg e]
    · rw [if_neg h60] at hk ⊢
      by_cases h62 : Bt T s = 62
      · rw [if_pos h62, h62]
        by_cases hj : jE T s = true
        · rw [if_pos hj, if_pos hj, if_neg (by decide), if_neg (by decide), if_neg (by decide), if_pos (by decide), bX4_compares_80]
          show _ = some (ph, some (Value.int (z01 (decide (tr1 (r ≤ l) = 1)))))
          rw [tr]
          by_cases e : l < r
          · rw [if_pos (lg_lt.mpr e), bX4_compares_91, if_pos (Or.inl rfl), if_neg (Int64.not_le.mpr e)]
          · rw [if_neg (fun k => e (lg_lt.mp k)), bX4_compares_91, if_pos (Or.inr rfl), if_pos (Int64.not_lt.mp e)]
        · rw [if_neg hj, if_neg hj, if_neg (by decide), if_pos (by decide), bX4_compares_68]
          show _ = some (ph, some (Value.int (z01 (decide (tr1 (r < l) = 1)))))
          rw [tr]
          by_cases e : r < l
          · rw [if_neg (fun k => lg_le.mp k e), bX4_compares_79, if_pos (Or.inr rfl), if_pos e]
          · rw [if_pos (lg_le.mpr e), bX4_compares_79, if_pos (Or.inl rfl), if_neg e]
      · rw [if_neg h62] at hk
        exact absurd rfl hk
/-- a comparison -/
theorem Seg_cmp {y : ST} {r i v sm q : Nat} {T : TP} {s : Nat} {E F : (Nat → Int64) → Int64} (hk : cmK T s ≠ 0) (hE : SumP L xs y r q v sm E) (hF : SumP L xs y r (q + 1) v sm F) (hs : y.2.2.2.1 (r + 5) i = cS T s) (hw : y.2.2.2.1 (r + 6) i = nI q) : SegP L xs y r i (i + 1) v sm (fun u => decide (bo (cmK T s) (E u) (F u) = 1)) := fun sh z a d N S a1 a2 a3 a4 a5 a6 a7 a8 a9 a10 b => by
  have hc : ∀ k : Nat, k < 10 → cS T s ≠ nI k := fun k hk2 => by
    obtain ⟨-, -, h3⟩ := cmK_b hk
    unfold cS
    split
    · rw [show (256 : Int32) = nI 256 from rfl, nI_add]
      exact fun z => by have := (nI_eq (by omega) (by omega)).mp z; omega
    · rw [Int32.add_zero]
      exact fun z => by have := (nI_eq (by omega) (by omega)).mp z; omega
  have hsz := (a10 i (Nat.le_refl _) (by omega)).1.trans hs
  rw [w_start a1 a3 (by omega) a5 b hsz ((a10 i (Nat.le_refl _) (by omega)).2.trans hw), if_neg (show ¬ cS T s = 1 from hc 1 (by decide)), if_neg (show ¬ cS T s = 2 from hc 2 (by decide)), if_neg (show ¬ cS T s = 3 from hc 3 (by decide)), if_neg (show ¬ cS T s = 4 from hc 4 (by decide)), bX4_worth_117 (hv1 := rfl), Ru_step a1, some_bind', Rue_step a1 _ (by omega), some_bind', hsz, Ru_is a1, some_bind', hE sh z a d S a1 a2 a6 a7 a8 a9, some_bind', Ru_is a1, some_bind', nI_1, hF sh z a d S a1 a2 a6 a7 a8 a9, some_bind', i_cmp d hk, some_bind']
  exact w_143
end RX3
