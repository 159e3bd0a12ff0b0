/-! the model's leaves -/
def MSt (m : MM) (w : TW) (pl np ns : Nat) (wr : Int32) : Prop := m.2.1 0 0 = nI pl ∧ m.2.1 0 1 = w.1 1 ∧ m.2.1 0 2 = nI np ∧ m.2.1 0 3 = nI ns ∧ (∀ p, p < np → m.2.1 9 p = iShr wr (nI p) &&& 1) ∧ ∀ g, g < ns → m.2.1 10 g = w.2.2 2 g ∧ m.2.1 11 g = w.2.2 3 g ∧ m.2.1 12 g = w.2.2 4 g
def MOp (m : MM) (l : Int64) : Prop := ∀ i, i < 8 → m.2.1 8 i = nb l (nI i)
def VO (pl : Nat) (l : Int64) : Prop := pl ≤ 8 ∧ symm8 l ∧ ∀ i j, i < 8 → j < 8 → aj l i j = true → i < pl ∧ j < pl
def VT (w : TW) (pl np ns : Nat) : Prop := 2 ≤ pl ∧ pl ≤ 8 ∧ w.1 0 = nI pl ∧ (∃ tm, 1 ≤ tm ∧ tm ≤ 30 ∧ w.1 1 = nI tm) ∧ TOK w np ns ∧ ∀ g, g < ns → (∃ i, i < pl ∧ w.2.2 2 g = nI i) ∧ (∃ i, i < pl ∧ w.2.2 3 g = nI i) ∧ ∃ e, 1 ≤ e ∧ e ≤ 20 ∧ w.2.2 4 g = nI e
def VS (pl np ns : Nat) (s : SV) : Prop := VO pl s.2.1 ∧ (∀ p, p < np → ∃ i, i < pl ∧ s.2.2 0 p = nI i) ∧ ∀ g, g < ns → s.2.2 5 g = -1 ∨ ∃ i, i < pl ∧ s.2.2 5 g = nI i
def b01 (p : Prop) [Decidable p] : Int32 := if p then 1 else 0
theorem b01_or (p : Prop) [Decidable p] : b01 p = 0 ∨ b01 p = 1 := by
  unfold b01
  split
  · exact Or.inr rfl
  · exact Or.inl rfl
theorem b01_0 {p : Prop} [Decidable p] : b01 p = 0 ↔ ¬ p := by
  unfold b01
  by_cases h : p
  · rw [if_pos h]
    exact ⟨fun q => absurd q (by decide), fun q => absurd h q⟩
  · rw [if_neg h]
    exact ⟨fun _ => h, fun _ => rfl⟩
theorem lg_lt {a b : Int64} : (lg_cmp a b : Int32) < 0 ↔ a < b := by
  unfold lg_cmp
  by_cases h : b < a
  · rw [if_pos h]
    exact ⟨fun q => absurd q (by decide), fun q => absurd q (Int64.not_lt.mpr (Int64.le_of_lt h))⟩
  · rw [if_neg h]
    by_cases e : a = b
    · rw [if_pos e]
      exact ⟨fun q => absurd q (by decide), fun q => by rw [e] at q; exact absurd q Int64.lt_irrefl⟩
    · rw [if_neg e]
      exact ⟨fun _ => Int64.lt_of_le_of_ne (Int64.not_lt.mp h) e, fun _ => by decide⟩
theorem lg_gt {a b : Int64} : (0 : Int32) < lg_cmp a b ↔ b < a := by
  unfold lg_cmp
  by_cases h : b < a
  · rw [if_pos h]
    exact ⟨fun _ => h, fun _ => by decide⟩
  · rw [if_neg h]
    refine ⟨fun q => ?_, fun q => absurd q h⟩
    split at q
    · exact absurd q (by decide)
    · exact absurd q (by decide)
section MHOUR
variable {L : Nat} {xs : Nat → Int32} {sh : List Sh} {x : ST} {m : MM}
theorem i_in (d : Nat) (a lo hi : Int64) (ph : PH) : cI (ZZ L xs) (d + 1) mX13_in [.long a, .long lo, .long hi] ph = some (ph, b01 (lo ≤ a ∧ a ≤ hi)) := by
  have h : CL (ZZ L xs) (d + 1) mX13_in [.long a, .long lo, .long hi] ph = some (ph, some (.int (b01 (lo ≤ a ∧ a ≤ hi)))) := by
    show RS (ZZ L xs) (d + 1) mX13_in 0 [some (.long a), none, some (.long lo), none, some (.long hi), none] [] ph = _
    rw [bX13_in_0]
    unfold b01
    by_cases h1 : a < lo
    · rw [if_pos (lg_lt.mpr h1), if_neg (fun q => absurd h1 (Int64.not_lt.mpr q.1)), bX13_in_17, bX13_in_18, if_pos (Or.inl rfl)]
    · rw [if_neg (fun q => h1 (lg_lt.mp q))]
      by_cases h2 : hi < a
      · rw [if_pos (lg_gt.mpr h2), if_neg (fun q => absurd h2 (Int64.not_lt.mpr q.2)), bX13_in_17, bX13_in_18, if_pos (Or.inl rfl)]
      · rw [if_neg (fun q => h2 (lg_gt.mp q)), if_pos ⟨Int64.not_lt.mp h1, Int64.not_lt.mp h2⟩, bX13_in_18, if_pos (Or.inr rfl)]
  unfold cI
  rw [h]
  rfl
theorem i_has (d : Nat) (e : Int32) {j : Nat} (hj : j < 32) (ph : PH) : cI (ZZ L xs) (d + 1) mX13_has [.int e, .int (nI j)] ph = some (ph, b01 (bt e j = true)) := by
  have h : CL (ZZ L xs) (d + 1) mX13_has [.int e, .int (nI j)] ph = some (ph, some (.int (b01 (bt e j = true)))) := by
    show RS (ZZ L xs) (d + 1) mX13_has 0 [some (.int e), some (.int (nI j))] [] ph = _
    rw [bX13_has_0]
    unfold b01
    by_cases h1 : bt e j = true
    · rw [if_neg (fun q => q ((bt_shr hj).mpr h1)), if_pos h1, bX13_has_14, if_pos (Or.inr rfl)]
    · rw [if_pos (fun q => h1 ((bt_shr hj).mp q)), if_neg h1, bX13_has_14, if_pos (Or.inl rfl)]
  unfold cI
  rw [h]
  rfl
theorem far_in (d : Nat) (hM : isMo sh) (pl : Nat) (hpl : m.2.1 0 0 = nI pl) (hp8 : pl ≤ 8) (a st dd : Int32) (u2 : Option Value) : ∀ (f k : Nat), f + k = pl → ∀ (ac : Int32), ∃ ac', (∀ j, bt ac' j = true ↔ bt ac j = true ∨ ∃ q, k ≤ q ∧ q < pl ∧ bt st q = true ∧ bt (m.2.1 8 q) j = true) ∧ ∃ u5 u6, RS (ZZ L xs) (d + 2) mX13_farFrom 31 [some (.ref 259), some (.int a), none, some (.int st), some (.int dd), some (.int ac), some (.int (nI k))] [] (HP sh (pM x m)) = RS (ZZ L xs) (d + 2) mX13_farFrom 7 [some (.ref 259), some (.int a), none, some (.int ac'), some (.int (dd + 1)), u5, u6] [] (HP sh (pM x m)) := by
  intro f
  induction f with
  | zero =>
    intro k hk ac
    refine ⟨ac, fun j => ⟨Or.inl, fun h => ?_⟩, some (.int ac), some (.int (nI k)), ?_⟩
    · rcases h with h | ⟨q, h1, h2, -⟩
      · exact h
      · omega
    · rw [bX13_farFrom_31, lI0]
      simp (disch := omega) only [M_thrown hM, Mw_thrown hM, M_taped hM, Mw_taped hM, M_p hM, Mw_p hM, M_fault hM, Mw_fault hM, M_slot hM, Mw_slot hM, M_rules hM, Mw_rules hM, M_entries hM, Mw_entries hM, M_deep hM, Mw_deep hM, M_counted hM, Mw_counted hM, M_opened hM, Mw_opened hM, M_words hM, Mw_words hM, M_pastMany hM, Mw_pastMany hM, M_pastAt hM, Mw_pastAt hM, Mw_takesBack hM, M_imageAt hM, Mw_imageAt hM, Mw_goesBack hM, M_scalar hM, Me_scalar hM, Mu_scalar hM, Ml_scalar hM, M_at hM, Me_at hM, Mu_at hM, Ml_at hM, M_kind hM, Me_kind hM, Mu_kind hM, Ml_kind hM, M_asks hM, Me_asks hM, Mu_asks hM, Ml_asks hM, M_askedAll hM, Me_askedAll hM, Mu_askedAll hM, Ml_askedAll hM, M_chains hM, Me_chains hM, Mu_chains hM, Ml_chains hM, M_where hM, Me_where hM, Mu_where hM, Ml_where hM, M_knows hM, Me_knows hM, Mu_knows hM, Ml_knows hM, M_open hM, Me_open hM, Mu_open hM, Ml_open hM, M_wrong hM, Me_wrong hM, Mu_wrong hM, Ml_wrong hM, M_from hM, Me_from hM, Mu_from hM, Ml_from hM, M_to hM, Me_to hM, Mu_to hM, Ml_to hM, M_every hM, Me_every hM, Mu_every hM, Ml_every hM, M_noteHour hM, Me_noteHour hM, Mu_noteHour hM, Ml_noteHour hM, M_noteWho hM, Me_noteWho hM, Mu_noteWho hM, Ml_noteWho hM, M_noteWhom hM, Me_noteWhom hM, Mu_noteWhom hM, Ml_noteWhom hM, M_toldAt hM, Me_toldAt hM, Mu_toldAt hM, Ml_toldAt hM, M_toldKind hM, Me_toldKind hM, Mu_toldKind hM, Ml_toldKind hM, M_toldStreets hM, Me_toldStreets hM, Mu_toldStreets hM, Ml_toldStreets hM, M_newScalar hM, Me_newScalar hM, Mu_newScalar hM, Ml_newScalar hM, M_newAt hM, Me_newAt hM, Mu_newAt hM, Ml_newAt hM, M_newKind hM, Me_newKind hM, Mu_newKind hM, Ml_newKind hM, M_newWrong hM, Me_newWrong hM, Mu_newWrong hM, Ml_newWrong hM, M_newFrom hM, Me_newFrom hM, Mu_newFrom hM, Ml_newFrom hM, M_newTo hM, Me_newTo hM, Mu_newTo hM, Ml_newTo hM, M_newEvery hM, Me_newEvery hM, Mu_newEvery hM, Ml_newEvery hM, M_newStreets hM, Me_newStreets hM, Mu_newStreets hM, Ml_newStreets hM, M_tape hM, Me_tape hM, Mu_tape hM, Ml_tape hM, M_sort hM, Me_sort hM, Mu_sort hM, Ml_sort hM, M_number hM, Me_number hM, Mu_number hM, Ml_number hM, M_clauses hM, Me_clauses hM, Mu_clauses hM, Ml_clauses hM, M_sumAt hM, Me_sumAt hM, Mu_sumAt hM, Ml_sumAt hM, M_testAt hM, Me_testAt hM, Mu_testAt hM, Ml_testAt hM, M_endAt hM, Me_endAt hM, Mu_endAt hM, Ml_endAt hM, M_openAt hM, Me_openAt hM, Mu_openAt hM, Ml_openAt hM, M_asked hM, Me_asked hM, Mu_asked hM, Ml_asked hM, M_stack hM, Me_stack hM, Mu_stack hM, Ml_stack hM, M_gone hM, Me_gone hM, Mu_gone hM, Ml_gone hM, M_past hM, Me_past hM, Mu_past hM, Ml_past hM, M_pastOf hM, Me_pastOf hM, Mu_pastOf hM, Ml_pastOf hM, M_plays hM, Me_plays hM, Mu_plays hM, Ml_plays hM, M_firstHas hM, Me_firstHas hM, Mu_firstHas hM, Ml_firstHas hM, M_secondHas hM, Me_secondHas hM, Mu_secondHas hM, Ml_secondHas hM, M_lay hM, Me_lay hM, Mu_lay hM, Ml_lay hM, M_shows hM, Me_shows hM, Mu_shows hM, Ml_shows hM, M_images hM, Me_images hM, Mu_images hM, Ml_images hM, M_isMade hM, Me_isMade hM, Mu_isMade hM, Ml_isMade hM, M_is hM, mA_1, mA_L, mA_eq, mA_ne, mL_1, mL_A, mL_eq, mL_ne, mI_A, mI_eq, mI_ne, some_bind', nI_1, nI_add, pk_mul, hpl, nI_leI]
      rw [if_pos (by omega)]
  | succ f ih =>
    intro k hk ac
    rw [bX13_farFrom_31, lI0]
    simp (disch := omega) only [M_thrown hM, Mw_thrown hM, M_taped hM, Mw_taped hM, M_p hM, Mw_p hM, M_fault hM, Mw_fault hM, M_slot hM, Mw_slot hM, M_rules hM, Mw_rules hM, M_entries hM, Mw_entries hM, M_deep hM, Mw_deep hM, M_counted hM, Mw_counted hM, M_opened hM, Mw_opened hM, M_words hM, Mw_words hM, M_pastMany hM, Mw_pastMany hM, M_pastAt hM, Mw_pastAt hM, Mw_takesBack hM, M_imageAt hM, Mw_imageAt hM, Mw_goesBack hM, M_scalar hM, Me_scalar hM, Mu_scalar hM, Ml_scalar hM, M_at hM, Me_at hM, Mu_at hM, Ml_at hM, M_kind hM, Me_kind hM, Mu_kind hM, Ml_kind hM, M_asks hM, Me_asks hM, Mu_asks hM, Ml_asks hM, M_askedAll hM, Me_askedAll hM, Mu_askedAll hM, Ml_askedAll hM, M_chains hM, Me_chains hM, Mu_chains hM, Ml_chains hM, M_where hM, Me_where hM, Mu_where hM, Ml_where hM, M_knows hM, Me_knows hM, Mu_knows hM, Ml_knows hM, M_open hM, Me_open hM, Mu_open hM, Ml_open hM, M_wrong hM, Me_wrong hM, Mu_wrong hM, Ml_wrong hM, M_from hM, Me_from hM, Mu_from hM, Ml_from hM, M_to hM, Me_to hM, Mu_to hM, Ml_to hM, M_every hM, Me_every hM, Mu_every hM, Ml_every hM, M_noteHour hM, Me_noteHour hM, Mu_noteHour hM, Ml_noteHour hM, M_noteWho hM, Me_noteWho hM, Mu_noteWho hM, Ml_noteWho hM, M_noteWhom hM, Me_noteWhom hM, Mu_noteWhom hM, Ml_noteWhom hM, M_toldAt hM, Me_toldAt hM, Mu_toldAt hM, Ml_toldAt hM, M_toldKind hM, Me_toldKind hM, Mu_toldKind hM, Ml_toldKind hM, M_toldStreets hM, Me_toldStreets hM, Mu_toldStreets hM, Ml_toldStreets hM, M_newScalar hM, Me_newScalar hM, Mu_newScalar hM, Ml_newScalar hM, M_newAt hM, Me_newAt hM, Mu_newAt hM, Ml_newAt hM, M_newKind hM, Me_newKind hM, Mu_newKind hM, Ml_newKind hM, M_newWrong hM, Me_newWrong hM, Mu_newWrong hM, Ml_newWrong hM, M_newFrom hM, Me_newFrom hM, Mu_newFrom hM, Ml_newFrom hM, M_newTo hM, Me_newTo hM, Mu_newTo hM, Ml_newTo hM, M_newEvery hM, Me_newEvery hM, Mu_newEvery hM, Ml_newEvery hM, M_newStreets hM, Me_newStreets hM, Mu_newStreets hM, Ml_newStreets hM, M_tape hM, Me_tape hM, Mu_tape hM, Ml_tape hM, M_sort hM, Me_sort hM, Mu_sort hM, Ml_sort hM, M_number hM, Me_number hM, Mu_number hM, Ml_number hM, M_clauses hM, Me_clauses hM, Mu_clauses hM, Ml_clauses hM, M_sumAt hM, Me_sumAt hM, Mu_sumAt hM, Ml_sumAt hM, M_testAt hM, Me_testAt hM, Mu_testAt hM, Ml_testAt hM, M_endAt hM, Me_endAt hM, Mu_endAt hM, Ml_endAt hM, M_openAt hM, Me_openAt hM, Mu_openAt hM, Ml_openAt hM, M_asked hM, Me_asked hM, Mu_asked hM, Ml_asked hM, M_stack hM, Me_stack hM, Mu_stack hM, Ml_stack hM, M_gone hM, Me_gone hM, Mu_gone hM, Ml_gone hM, M_past hM, Me_past hM, Mu_past hM, Ml_past hM, M_pastOf hM, Me_pastOf hM, Mu_pastOf hM, Ml_pastOf hM, M_plays hM, Me_plays hM, Mu_plays hM, Ml_plays hM, M_firstHas hM, Me_firstHas hM, Mu_firstHas hM, Ml_firstHas hM, M_secondHas hM, Me_secondHas hM, Mu_secondHas hM, Ml_secondHas hM, M_lay hM, Me_lay hM, Mu_lay hM, Ml_lay hM, M_shows hM, Me_shows hM, Mu_shows hM, Ml_shows hM, M_images hM, Me_images hM, Mu_images hM, Ml_images hM, M_isMade hM, Me_isMade hM, Mu_isMade hM, Ml_isMade hM, M_is hM, mA_1, mA_L, mA_eq, mA_ne, mL_1, mL_A, mL_eq, mL_ne, mI_A, mI_eq, mI_ne, some_bind', nI_1, nI_add, pk_mul, hpl, nI_leI, i_has]
    rw [if_neg (by omega), show nI 0 = (0 : Int32) from rfl]
    by_cases hb : bt st k = true
    · rw [if_neg (fun q => b01_0.mp q hb), bX13_farFrom_64, nI_1]
      obtain ⟨ac', h1, h2⟩ := ih (k + 1) (by omega) (ac ||| m.2.1 8 k)
      refine ⟨ac', fun j => ?_, h2⟩
      rw [h1 j, bt_or, Bool.or_eq_true]
      constructor
      · rintro ((h | h) | ⟨q, h1, h2, h3, h4⟩)
        · exact Or.inl h
        · exact Or.inr ⟨k, Nat.le_refl _, by omega, hb, h⟩
        · exact Or.inr ⟨q, by omega, h2, h3, h4⟩
      · rintro (h | ⟨q, h1, h2, h3, h4⟩)
        · exact Or.inl (Or.inl h)
        · by_cases hq : q = k
          · subst hq
            exact Or.inl (Or.inr h4)
          · exact Or.inr ⟨q, by omega, h2, h3, h4⟩
    · rw [if_pos (b01_0.mpr hb), bX13_farFrom_64, nI_1]
      obtain ⟨ac', h1, h2⟩ := ih (k + 1) (by omega) (ac ||| 0)
      refine ⟨ac', fun j => ?_, h2⟩
      rw [h1 j, bt_or, Bool.or_eq_true, bt_0]
      constructor
      · rintro ((h | h) | ⟨q, h1, h2, h3, h4⟩)
        · exact Or.inl h
        · cases h
        · exact Or.inr ⟨q, by omega, h2, h3, h4⟩
      · rintro (h | ⟨q, h1, h2, h3, h4⟩)
        · exact Or.inl (Or.inl h)
        · by_cases hq : q = k
          · subst hq
            exact absurd h3 hb
          · exact Or.inr ⟨q, by omega, h2, h3, h4⟩
theorem far_out (d : Nat) (hM : isMo sh) (pl : Nat) (hpl : m.2.1 0 0 = nI pl) (l : Int64) (hO : MOp m l) (hV : VO pl l) (a b : Nat) (ha : a < 8) (hb : b < 8) : ∀ (f n : Nat), f + n = 8 → ∀ (st : Int32) (u2 u5 u6 : Option Value), (∀ j, j < 8 → (bt st j = true ↔ Bl l b n j)) → (∀ k, k < n → ¬ Bl l b k a) → ∃ v, isFar l b a v ∧ RS (ZZ L xs) (d + 2) mX13_farFrom 7 [some (.ref 259), some (.int (nI a)), u2, some (.int st), some (.int (nI n)), u5, u6] [] (HP sh (pM x m)) = some (HP sh (pM x m), some (.int v)) := by
  obtain ⟨hp8, hsy, hin⟩ := hV
  intro f
  induction f with
  | zero =>
    intro n hn st u2 u5 u6 hs hk
    have : n = 8 := by omega
    subst this
    refine ⟨99, Or.inr ⟨rfl, hk⟩, ?_⟩
    rw [bX13_farFrom_7, if_pos (by decide)]
  | succ f ih =>
    intro n hn st u2 u5 u6 hs hk
    rw [bX13_farFrom_7, if_neg (show ¬ (8 : Int32) ≤ nI n from nI_ge (b := 8) (by omega) (by decide)), i_has (d := d) st (by omega), some_bind']
    by_cases hq : bt st a = true
    · refine ⟨nI n, Or.inl ⟨n, by omega, rfl, (hs a ha).mp hq, hk⟩, ?_⟩
      rw [if_neg (fun q => b01_0.mp q hq)]
    · rw [if_pos (b01_0.mpr hq)]
      obtain ⟨ac', h1, u5', u6', h2⟩ := far_in (L := L) (xs := xs) (x := x) d hM pl hpl hp8 (nI a) st (nI n) none pl 0 rfl st
      rw [show nI 0 = (0 : Int32) from rfl] at h2
      rw [h2, nI_1]
      refine ih (n + 1) (by omega) ac' none u5' u6' (fun j hj => ?_) (fun k hkk => ?_)
      · rw [h1 j, hs j hj]
        constructor
        · rintro (h | ⟨q, -, h2, h3, h4⟩)
          · exact Or.inl h
          · rw [hO q (by omega), bt_nb l (by omega) (by omega)] at h4
            simp only [hj, decide_true, Bool.true_and] at h4
            exact Or.inr ⟨q, by omega, (hs q (by omega)).mp h3, h4⟩
        · rintro (h | ⟨q, h2, h3, h4⟩)
          · exact Or.inl h
          · refine Or.inr ⟨q, by omega, (hin q j h2 hj h4).1, (hs q h2).mpr h3, ?_⟩
            rw [hO q h2, bt_nb l h2 (by omega)]
            simp [hj, h4]
      · rcases Nat.lt_or_ge k n with h | h
        · exact hk k h
        · have : k = n := by omega
          subst this
          exact fun q => hq ((hs a ha).mpr q)
theorem i_farM (d : Nat) (hM : isMo sh) (pl : Nat) (hpl : m.2.1 0 0 = nI pl) (l : Int64) (hO : MOp m l) (hV : VO pl l) {a b : Nat} (ha : a < 8) (hb : b < 8) : cI (ZZ L xs) (d + 2) mX13_farFrom [.ref 259, .int (nI a), .int (nI b)] (HP sh (pM x m)) = some (HP sh (pM x m), farS (dst l) (nI a) (nI b)) := by
  have h : CL (ZZ L xs) (d + 2) mX13_farFrom [.ref 259, .int (nI a), .int (nI b)] (HP sh (pM x m)) = some (HP sh (pM x m), some (.int (farS (dst l) (nI a) (nI b)))) := by
    show RS (ZZ L xs) (d + 2) mX13_farFrom 0 [some (.ref 259), some (.int (nI a)), some (.int (nI b)), none, none, none, none] [] _ = _
    rw [bX13_farFrom_0]
    obtain ⟨v, h1, h2⟩ := far_out (L := L) (xs := xs) (x := x) d hM pl hpl l hO hV a b ha hb 8 0 rfl (iShl 1 (nI b)) (some (.int (nI b))) none none (fun j hj => by
      rw [bt_shl (by omega) (by omega), decide_eq_true_iff]
      exact Iff.rfl) (fun k hk => by omega)
    have e := far_uni (far_sym hV.2.1 hb ha h1) (dst_far l ha hb)
    subst e
    exact h2
  unfold cI
  rw [h]
  rfl
theorem leastF_no (near wo : Int32) : ∀ (f p : Nat), f + p ≤ 32 → (∀ j, p ≤ j → j < f + p → bt near j = false) → leastF near wo f p = wo
  | 0, _, _, _ => rfl
  | f + 1, p, hl, h => by
    unfold leastF
    rw [if_neg (fun q => by
      have := (bt_shr (by omega)).mp q
      rw [h p (Nat.le_refl _) (by omega)] at this
      cases this)]
    exact leastF_no near wo f (p + 1) (by omega) (fun j h1 h2 => h j (by omega) (by omega))
theorem nb_off {pl : Nat} {l : Int64} (hV : VO pl l) {a j : Nat} (ha : a < 8) (hj : pl ≤ j) (hj2 : j < 32) : bt (nb l (nI a)) j = false := by
  rw [bt_nb l ha hj2]
  by_cases h8 : j < 8
  · simp only [h8, decide_true, Bool.true_and]
    cases hq : aj l a j with
    | false => rfl
    | true =>
      have := (hV.2.2 a j ha h8 hq).2
      omega
  · simp [h8]
theorem i_leastM (d : Nat) (hM : isMo sh) (pl : Nat) (hpl : m.2.1 0 0 = nI pl) (l : Int64) (hO : MOp m l) (hV : VO pl l) {a : Nat} (ha : a < 8) : cI (ZZ L xs) (d + 2) mX13_leastBy [.ref 259, .int (nI a)] (HP sh (pM x m)) = some (HP sh (pM x m), leastF (nb l (nI a)) (nI a) 8 0) := by
  have hp8 : pl ≤ 8 := hV.1
  have loop : ∀ (f k : Nat), f + k = pl → RS (ZZ L xs) (d + 2) mX13_leastBy 2 [some (.ref 259), some (.int (nI a)), some (.int (nI k))] [] (HP sh (pM x m)) = some (HP sh (pM x m), some (.int (leastF (nb l (nI a)) (nI a) (8 - pl + f) k))) := by
    intro f
    induction f with
    | zero =>
      intro k hk
      rw [bX13_leastBy_2, lI0]
      simp (disch := omega) only [M_thrown hM, Mw_thrown hM, M_taped hM, Mw_taped hM, M_p hM, Mw_p hM, M_fault hM, Mw_fault hM, M_slot hM, Mw_slot hM, M_rules hM, Mw_rules hM, M_entries hM, Mw_entries hM, M_deep hM, Mw_deep hM, M_counted hM, Mw_counted hM, M_opened hM, Mw_opened hM, M_words hM, Mw_words hM, M_pastMany hM, Mw_pastMany hM, M_pastAt hM, Mw_pastAt hM, Mw_takesBack hM, M_imageAt hM, Mw_imageAt hM, Mw_goesBack hM, M_scalar hM, Me_scalar hM, Mu_scalar hM, Ml_scalar hM, M_at hM, Me_at hM, Mu_at hM, Ml_at hM, M_kind hM, Me_kind hM, Mu_kind hM, Ml_kind hM, M_asks hM, Me_asks hM, Mu_asks hM, Ml_asks hM, M_askedAll hM, Me_askedAll hM, Mu_askedAll hM, Ml_askedAll hM, M_chains hM, Me_chains hM, Mu_chains hM, Ml_chains hM, M_where hM, Me_where hM, Mu_where hM, Ml_where hM, M_knows hM, Me_knows hM, Mu_knows hM, Ml_knows hM, M_open hM, Me_open hM, Mu_open hM, Ml_open hM, M_wrong hM, Me_wrong hM, Mu_wrong hM, Ml_wrong hM, M_from hM, Me_from hM, Mu_from hM, Ml_from hM, M_to hM, Me_to hM, Mu_to hM, Ml_to hM, M_every hM, Me_every hM, Mu_every hM, Ml_every hM, M_noteHour hM, Me_noteHour hM, Mu_noteHour hM, Ml_noteHour hM, M_noteWho hM, Me_noteWho hM, Mu_noteWho hM, Ml_noteWho hM, M_noteWhom hM, Me_noteWhom hM, Mu_noteWhom hM, Ml_noteWhom hM, M_toldAt hM, Me_toldAt hM, Mu_toldAt hM, Ml_toldAt hM, M_toldKind hM, Me_toldKind hM, Mu_toldKind hM, Ml_toldKind hM, M_toldStreets hM, Me_toldStreets hM, Mu_toldStreets hM, Ml_toldStreets hM, M_newScalar hM, Me_newScalar hM, Mu_newScalar hM, Ml_newScalar hM, M_newAt hM, Me_newAt hM, Mu_newAt hM, Ml_newAt hM, M_newKind hM, Me_newKind hM, Mu_newKind hM, Ml_newKind hM, M_newWrong hM, Me_newWrong hM, Mu_newWrong hM, Ml_newWrong hM, M_newFrom hM, Me_newFrom hM, Mu_newFrom hM, Ml_newFrom hM, M_newTo hM, Me_newTo hM, Mu_newTo hM, Ml_newTo hM, M_newEvery hM, Me_newEvery hM, Mu_newEvery hM, Ml_newEvery hM, M_newStreets hM, Me_newStreets hM, Mu_newStreets hM, Ml_newStreets hM, M_tape hM, Me_tape hM, Mu_tape hM, Ml_tape hM, M_sort hM, Me_sort hM, Mu_sort hM, Ml_sort hM, M_number hM, Me_number hM, Mu_number hM, Ml_number hM, M_clauses hM, Me_clauses hM, Mu_clauses hM, Ml_clauses hM, M_sumAt hM, Me_sumAt hM, Mu_sumAt hM, Ml_sumAt hM, M_testAt hM, Me_testAt hM, Mu_testAt hM, Ml_testAt hM, M_endAt hM, Me_endAt hM, Mu_endAt hM, Ml_endAt hM, M_openAt hM, Me_openAt hM, Mu_openAt hM, Ml_openAt hM, M_asked hM, Me_asked hM, Mu_asked hM, Ml_asked hM, M_stack hM, Me_stack hM, Mu_stack hM, Ml_stack hM, M_gone hM, Me_gone hM, Mu_gone hM, Ml_gone hM, M_past hM, Me_past hM, Mu_past hM, Ml_past hM, M_pastOf hM, Me_pastOf hM, Mu_pastOf hM, Ml_pastOf hM, M_plays hM, Me_plays hM, Mu_plays hM, Ml_plays hM, M_firstHas hM, Me_firstHas hM, Mu_firstHas hM, Ml_firstHas hM, M_secondHas hM, Me_secondHas hM, Mu_secondHas hM, Ml_secondHas hM, M_lay hM, Me_lay hM, Mu_lay hM, Ml_lay hM, M_shows hM, Me_shows hM, Mu_shows hM, Ml_shows hM, M_images hM, Me_images hM, Mu_images hM, Ml_images hM, M_isMade hM, Me_isMade hM, Mu_isMade hM, Ml_isMade hM, M_is hM, mA_1, mA_L, mA_eq, mA_ne, mL_1, mL_A, mL_eq, mL_ne, mI_A, mI_eq, mI_ne, some_bind', nI_1, nI_add, pk_mul, hpl, nI_leI]
      rw [if_pos (by omega), leastF_no _ _ _ _ (by omega) (fun j h1 h2 => nb_off hV ha (by omega) (by omega))]
    | succ f ih =>
      intro k hk
      rw [bX13_leastBy_2, lI0]
      simp (disch := omega) only [M_thrown hM, Mw_thrown hM, M_taped hM, Mw_taped hM, M_p hM, Mw_p hM, M_fault hM, Mw_fault hM, M_slot hM, Mw_slot hM, M_rules hM, Mw_rules hM, M_entries hM, Mw_entries hM, M_deep hM, Mw_deep hM, M_counted hM, Mw_counted hM, M_opened hM, Mw_opened hM, M_words hM, Mw_words hM, M_pastMany hM, Mw_pastMany hM, M_pastAt hM, Mw_pastAt hM, Mw_takesBack hM, M_imageAt hM, Mw_imageAt hM, Mw_goesBack hM, M_scalar hM, Me_scalar hM, Mu_scalar hM, Ml_scalar hM, M_at hM, Me_at hM, Mu_at hM, Ml_at hM, M_kind hM, Me_kind hM, Mu_kind hM, Ml_kind hM, M_asks hM, Me_asks hM, Mu_asks hM, Ml_asks hM, M_askedAll hM, Me_askedAll hM, Mu_askedAll hM, Ml_askedAll hM, M_chains hM, Me_chains hM, Mu_chains hM, Ml_chains hM, M_where hM, Me_where hM, Mu_where hM, Ml_where hM, M_knows hM, Me_knows hM, Mu_knows hM, Ml_knows hM, M_open hM, Me_open hM, Mu_open hM, Ml_open hM, M_wrong hM, Me_wrong hM, Mu_wrong hM, Ml_wrong hM, M_from hM, Me_from hM, Mu_from hM, Ml_from hM, M_to hM, Me_to hM, Mu_to hM, Ml_to hM, M_every hM, Me_every hM, Mu_every hM, Ml_every hM, M_noteHour hM, Me_noteHour hM, Mu_noteHour hM, Ml_noteHour hM, M_noteWho hM, Me_noteWho hM, Mu_noteWho hM, Ml_noteWho hM, M_noteWhom hM, Me_noteWhom hM, Mu_noteWhom hM, Ml_noteWhom hM, M_toldAt hM, Me_toldAt hM, Mu_toldAt hM, Ml_toldAt hM, M_toldKind hM, Me_toldKind hM, Mu_toldKind hM, Ml_toldKind hM, M_toldStreets hM, Me_toldStreets hM, Mu_toldStreets hM, Ml_toldStreets hM, M_newScalar hM, Me_newScalar hM, Mu_newScalar hM, Ml_newScalar hM, M_newAt hM, Me_newAt hM, Mu_newAt hM, Ml_newAt hM, M_newKind hM, Me_newKind hM, Mu_newKind hM, Ml_newKind hM, M_newWrong hM, Me_newWrong hM, Mu_newWrong hM, Ml_newWrong hM, M_newFrom hM, Me_newFrom hM, Mu_newFrom hM, Ml_newFrom hM, M_newTo hM, Me_newTo hM, Mu_newTo hM, Ml_newTo hM, M_newEvery hM, Me_newEvery hM, Mu_newEvery hM, Ml_newEvery hM, M_newStreets hM, Me_newStreets hM, Mu_newStreets hM, Ml_newStreets hM, M_tape hM, Me_tape hM, Mu_tape hM, Ml_tape hM, M_sort hM, Me_sort hM, Mu_sort hM, Ml_sort hM, M_number hM, Me_number hM, Mu_number hM, Ml_number hM, M_clauses hM, Me_clauses hM, Mu_clauses hM, Ml_clauses hM, M_sumAt hM, Me_sumAt hM, Mu_sumAt hM, Ml_sumAt hM, M_testAt hM, Me_testAt hM, Mu_testAt hM, Ml_testAt hM, M_endAt hM, Me_endAt hM, Mu_endAt hM, Ml_endAt hM, M_openAt hM, Me_openAt hM, Mu_openAt hM, Ml_openAt hM, M_asked hM, Me_asked hM, Mu_asked hM, Ml_asked hM, M_stack hM, Me_stack hM, Mu_stack hM, Ml_stack hM, M_gone hM, Me_gone hM, Mu_gone hM, Ml_gone hM, M_past hM, Me_past hM, Mu_past hM, Ml_past hM, M_pastOf hM, Me_pastOf hM, Mu_pastOf hM, Ml_pastOf hM, M_plays hM, Me_plays hM, Mu_plays hM, Ml_plays hM, M_firstHas hM, Me_firstHas hM, Mu_firstHas hM, Ml_firstHas hM, M_secondHas hM, Me_secondHas hM, Mu_secondHas hM, Ml_secondHas hM, M_lay hM, Me_lay hM, Mu_lay hM, Ml_lay hM, M_shows hM, Me_shows hM, Mu_shows hM, Ml_shows hM, M_images hM, Me_images hM, Mu_images hM, Ml_images hM, M_isMade hM, Me_isMade hM, Mu_isMade hM, Ml_isMade hM, M_is hM, mA_1, mA_L, mA_eq, mA_ne, mL_1, mL_A, mL_eq, mL_ne, mI_A, mI_eq, mI_ne, some_bind', nI_1, nI_add, pk_mul, hpl, nI_leI, i_has]
      rw [if_neg (by omega), hO a ha, show nI 0 = (0 : Int32) from rfl, show 8 - pl + (f + 1) = 8 - pl + f + 1 from rfl]
      unfold leastF
      by_cases hb : bt (nb l (nI a)) k = true
      · rw [if_neg (fun q => b01_0.mp q hb), if_pos ((bt_shr (by omega)).mpr hb)]
      · rw [if_pos (b01_0.mpr hb), if_neg (fun q => hb ((bt_shr (by omega)).mp q))]
        exact ih (k + 1) (by omega)
  have h : CL (ZZ L xs) (d + 2) mX13_leastBy [.ref 259, .int (nI a)] (HP sh (pM x m)) = some (HP sh (pM x m), some (.int (leastF (nb l (nI a)) (nI a) 8 0))) := by
    show RS (ZZ L xs) (d + 2) mX13_leastBy 0 [some (.ref 259), some (.int (nI a)), none] [] _ = _
    rw [bX13_leastBy_0]
    have := loop pl 0 rfl
    rw [show 8 - pl + pl = 8 by omega] at this
    exact this
  unfold cI
  rw [h]
  rfl
theorem greatF_no (near wo : Int32) : ∀ (r k : Nat), r + k ≤ 32 → (∀ j, k ≤ j → j < r + k → bt near j = false) → greatF near wo (r + k) = greatF near wo k
  | 0, k, _, _ => by rw [Nat.zero_add]
  | r + 1, k, hl, h => by
    rw [show r + 1 + k = (r + k) + 1 by omega]
    rw [greatF, if_neg (fun q => by
      have := (bt_shr (by omega)).mp q
      rw [h (r + k) (by omega) (by omega)] at this
      cases this)]
    exact greatF_no near wo r k (by omega) (fun j h1 h2 => h j h1 (by omega))
theorem i_greatM (d : Nat) (hM : isMo sh) (pl : Nat) (hpl : m.2.1 0 0 = nI pl) (l : Int64) (hO : MOp m l) (hV : VO pl l) {a : Nat} (ha : a < 8) : cI (ZZ L xs) (d + 2) mX13_greatestBy [.ref 259, .int (nI a)] (HP sh (pM x m)) = some (HP sh (pM x m), greatF (nb l (nI a)) (nI a) 8) := by
  have hp8 : pl ≤ 8 := hV.1
  have loop : ∀ (f k : Nat), f + k = pl → RS (ZZ L xs) (d + 2) mX13_greatestBy 4 [some (.ref 259), some (.int (nI a)), some (.int (greatF (nb l (nI a)) (nI a) k)), some (.int (nI k))] [] (HP sh (pM x m)) = some (HP sh (pM x m), some (.int (greatF (nb l (nI a)) (nI a) 8))) := by
    intro f
    induction f with
    | zero =>
      intro k hk
      rw [bX13_greatestBy_4, lI0]
      simp (disch := omega) only [M_thrown hM, Mw_thrown hM, M_taped hM, Mw_taped hM, M_p hM, Mw_p hM, M_fault hM, Mw_fault hM, M_slot hM, Mw_slot hM, M_rules hM, Mw_rules hM, M_entries hM, Mw_entries hM, M_deep hM, Mw_deep hM, M_counted hM, Mw_counted hM, M_opened hM, Mw_opened hM, M_words hM, Mw_words hM, M_pastMany hM, Mw_pastMany hM, M_pastAt hM, Mw_pastAt hM, Mw_takesBack hM, M_imageAt hM, Mw_imageAt hM, Mw_goesBack hM, M_scalar hM, Me_scalar hM, Mu_scalar hM, Ml_scalar hM, M_at hM, Me_at hM, Mu_at hM, Ml_at hM, M_kind hM, Me_kind hM, Mu_kind hM, Ml_kind hM, M_asks hM, Me_asks hM, Mu_asks hM, Ml_asks hM, M_askedAll hM, Me_askedAll hM, Mu_askedAll hM, Ml_askedAll hM, M_chains hM, Me_chains hM, Mu_chains hM, Ml_chains hM, M_where hM, Me_where hM, Mu_where hM, Ml_where hM, M_knows hM, Me_knows hM, Mu_knows hM, Ml_knows hM, M_open hM, Me_open hM, Mu_open hM, Ml_open hM, M_wrong hM, Me_wrong hM, Mu_wrong hM, Ml_wrong hM, M_from hM, Me_from hM, Mu_from hM, Ml_from hM, M_to hM, Me_to hM, Mu_to hM, Ml_to hM, M_every hM, Me_every hM, Mu_every hM, Ml_every hM, M_noteHour hM, Me_noteHour hM, Mu_noteHour hM, Ml_noteHour hM, M_noteWho hM, Me_noteWho hM, Mu_noteWho hM, Ml_noteWho hM, M_noteWhom hM, Me_noteWhom hM, Mu_noteWhom hM, Ml_noteWhom hM, M_toldAt hM, Me_toldAt hM, Mu_toldAt hM, Ml_toldAt hM, M_toldKind hM, Me_toldKind hM, Mu_toldKind hM, Ml_toldKind hM, M_toldStreets hM, Me_toldStreets hM, Mu_toldStreets hM, Ml_toldStreets hM, M_newScalar hM, Me_newScalar hM, Mu_newScalar hM, Ml_newScalar hM, M_newAt hM, Me_newAt hM, Mu_newAt hM, Ml_newAt hM, M_newKind hM, Me_newKind hM, Mu_newKind hM, Ml_newKind hM, M_newWrong hM, Me_newWrong hM, Mu_newWrong hM, Ml_newWrong hM, M_newFrom hM, Me_newFrom hM, Mu_newFrom hM, Ml_newFrom hM, M_newTo hM, Me_newTo hM, Mu_newTo hM, Ml_newTo hM, M_newEvery hM, Me_newEvery hM, Mu_newEvery hM, Ml_newEvery hM, M_newStreets hM, Me_newStreets hM, Mu_newStreets hM, Ml_newStreets hM, M_tape hM, Me_tape hM, Mu_tape hM, Ml_tape hM, M_sort hM, Me_sort hM, Mu_sort hM, Ml_sort hM, M_number hM, Me_number hM, Mu_number hM, Ml_number hM, M_clauses hM, Me_clauses hM, Mu_clauses hM, Ml_clauses hM, M_sumAt hM, Me_sumAt hM, Mu_sumAt hM, Ml_sumAt hM, M_testAt hM, Me_testAt hM, Mu_testAt hM, Ml_testAt hM, M_endAt hM, Me_endAt hM, Mu_endAt hM, Ml_endAt hM, M_openAt hM, Me_openAt hM, Mu_openAt hM, Ml_openAt hM, M_asked hM, Me_asked hM, Mu_asked hM, Ml_asked hM, M_stack hM, Me_stack hM, Mu_stack hM, Ml_stack hM, M_gone hM, Me_gone hM, Mu_gone hM, Ml_gone hM, M_past hM, Me_past hM, Mu_past hM, Ml_past hM, M_pastOf hM, Me_pastOf hM, Mu_pastOf hM, Ml_pastOf hM, M_plays hM, Me_plays hM, Mu_plays hM, Ml_plays hM, M_firstHas hM, Me_firstHas hM, Mu_firstHas hM, Ml_firstHas hM, M_secondHas hM, Me_secondHas hM, Mu_secondHas hM, Ml_secondHas hM, M_lay hM, Me_lay hM, Mu_lay hM, Ml_lay hM, M_shows hM, Me_shows hM, Mu_shows hM, Ml_shows hM, M_images hM, Me_images hM, Mu_images hM, Ml_images hM, M_isMade hM, Me_isMade hM, Mu_isMade hM, Ml_isMade hM, M_is hM, mA_1, mA_L, mA_eq, mA_ne, mL_1, mL_A, mL_eq, mL_ne, mI_A, mI_eq, mI_ne, some_bind', nI_1, nI_add, pk_mul, hpl, nI_leI]
      have := greatF_no (nb l (nI a)) (nI a) (8 - pl) pl (by omega) (fun j h1 h2 => nb_off hV ha (by omega) (by omega))
      rw [show 8 - pl + pl = 8 by omega] at this
      rw [if_pos (by omega), this, show k = pl by omega]
    | succ f ih =>
      intro k hk
      rw [bX13_greatestBy_4, lI0]
      simp (disch := omega) only [M_thrown hM, Mw_thrown hM, M_taped hM, Mw_taped hM, M_p hM, Mw_p hM, M_fault hM, Mw_fault hM, M_slot hM, Mw_slot hM, M_rules hM, Mw_rules hM, M_entries hM, Mw_entries hM, M_deep hM, Mw_deep hM, M_counted hM, Mw_counted hM, M_opened hM, Mw_opened hM, M_words hM, Mw_words hM, M_pastMany hM, Mw_pastMany hM, M_pastAt hM, Mw_pastAt hM, Mw_takesBack hM, M_imageAt hM, Mw_imageAt hM, Mw_goesBack hM, M_scalar hM, Me_scalar hM, Mu_scalar hM, Ml_scalar hM, M_at hM, Me_at hM, Mu_at hM, Ml_at hM, M_kind hM, Me_kind hM, Mu_kind hM, Ml_kind hM, M_asks hM, Me_asks hM, Mu_asks hM, Ml_asks hM, M_askedAll hM, Me_askedAll hM, Mu_askedAll hM, Ml_askedAll hM, M_chains hM, Me_chains hM, Mu_chains hM, Ml_chains hM, M_where hM, Me_where hM, Mu_where hM, Ml_where hM, M_knows hM, Me_knows hM, Mu_knows hM, Ml_knows hM, M_open hM, Me_open hM, Mu_open hM, Ml_open hM, M_wrong hM, Me_wrong hM, Mu_wrong hM, Ml_wrong hM, M_from hM, Me_from hM, Mu_from hM, Ml_from hM, M_to hM, Me_to hM, Mu_to hM, Ml_to hM, M_every hM, Me_every hM, Mu_every hM, Ml_every hM, M_noteHour hM, Me_noteHour hM, Mu_noteHour hM, Ml_noteHour hM, M_noteWho hM, Me_noteWho hM, Mu_noteWho hM, Ml_noteWho hM, M_noteWhom hM, Me_noteWhom hM, Mu_noteWhom hM, Ml_noteWhom hM, M_toldAt hM, Me_toldAt hM, Mu_toldAt hM, Ml_toldAt hM, M_toldKind hM, Me_toldKind hM, Mu_toldKind hM, Ml_toldKind hM, M_toldStreets hM, Me_toldStreets hM, Mu_toldStreets hM, Ml_toldStreets hM, M_newScalar hM, Me_newScalar hM, Mu_newScalar hM, Ml_newScalar hM, M_newAt hM, Me_newAt hM, Mu_newAt hM, Ml_newAt hM, M_newKind hM, Me_newKind hM, Mu_newKind hM, Ml_newKind hM, M_newWrong hM, Me_newWrong hM, Mu_newWrong hM, Ml_newWrong hM, M_newFrom hM, Me_newFrom hM, Mu_newFrom hM, Ml_newFrom hM, M_newTo hM, Me_newTo hM, Mu_newTo hM, Ml_newTo hM, M_newEvery hM, Me_newEvery hM, Mu_newEvery hM, Ml_newEvery hM, M_newStreets hM, Me_newStreets hM, Mu_newStreets hM, Ml_newStreets hM, M_tape hM, Me_tape hM, Mu_tape hM, Ml_tape hM, M_sort hM, Me_sort hM, Mu_sort hM, Ml_sort hM, M_number hM, Me_number hM, Mu_number hM, Ml_number hM, M_clauses hM, Me_clauses hM, Mu_clauses hM, Ml_clauses hM, M_sumAt hM, Me_sumAt hM, Mu_sumAt hM, Ml_sumAt hM, M_testAt hM, Me_testAt hM, Mu_testAt hM, Ml_testAt hM, M_endAt hM, Me_endAt hM, Mu_endAt hM, Ml_endAt hM, M_openAt hM, Me_openAt hM, Mu_openAt hM, Ml_openAt hM, M_asked hM, Me_asked hM, Mu_asked hM, Ml_asked hM, M_stack hM, Me_stack hM, Mu_stack hM, Ml_stack hM, M_gone hM, Me_gone hM, Mu_gone hM, Ml_gone hM, M_past hM, Me_past hM, Mu_past hM, Ml_past hM, M_pastOf hM, Me_pastOf hM, Mu_pastOf hM, Ml_pastOf hM, M_plays hM, Me_plays hM, Mu_plays hM, Ml_plays hM, M_firstHas hM, Me_firstHas hM, Mu_firstHas hM, Ml_firstHas hM, M_secondHas hM, Me_secondHas hM, Mu_secondHas hM, Ml_secondHas hM, M_lay hM, Me_lay hM, Mu_lay hM, Ml_lay hM, M_shows hM, Me_shows hM, Mu_shows hM, Ml_shows hM, M_images hM, Me_images hM, Mu_images hM, Ml_images hM, M_isMade hM, Me_isMade hM, Mu_isMade hM, Ml_isMade hM, M_is hM, mA_1, mA_L, mA_eq, mA_ne, mL_1, mL_A, mL_eq, mL_ne, mI_A, mI_eq, mI_ne, some_bind', nI_1, nI_add, pk_mul, hpl, nI_leI, i_has]
      rw [if_neg (by omega), hO a ha, show nI 0 = (0 : Int32) from rfl, ← ih (k + 1) (by omega)]
      rw [greatF]
      by_cases hb : bt (nb l (nI a)) k = true
      · rw [if_neg (fun q => b01_0.mp q hb), if_pos ((bt_shr (by omega)).mpr hb), bX13_greatestBy_32, nI_1]
      · rw [if_pos (b01_0.mpr hb), if_neg (fun q => hb ((bt_shr (by omega)).mp q)), bX13_greatestBy_32, nI_1]
  have h : CL (ZZ L xs) (d + 2) mX13_greatestBy [.ref 259, .int (nI a)] (HP sh (pM x m)) = some (HP sh (pM x m), some (.int (greatF (nb l (nI a)) (nI a) 8))) := by
    show RS (ZZ L xs) (d + 2) mX13_greatestBy 0 [some (.ref 259), some (.int (nI a)), none, none] [] _ = _
    rw [bX13_greatestBy_0]
    exact loop pl 0 rfl
  unfold cI
  rw [h]
  rfl
end MHOUR
