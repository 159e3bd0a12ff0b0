/-! the model's reader of towns, whole -/
section TOWNM3
variable {L : Nat} {xs : Nat → Int32} {sh : List Sh} {x : ST} {m : MM} {T : TP} {p f : Nat}
theorem i_isFullM (d : Nat) (hM : isMo sh) {k n : Nat} {b : TB} (hb : TBm m b) (hk : TBk b) (hk3 : k ≤ 3) (hn : n ≤ 40) : cI (ZZ L xs) (d + 1) mX13_isFull [.ref 259, .int (nI k), .int (nI n)] (HP sh (pM x (mS m p f))) = some (HP sh (pM x (mS m p f)), z01 (decide (n = 40 ∨ ¬ (n = 0 ↔ k = 0) ∨ k = 2 ∧ b.2.2.1 = 6 ∨ k = 3 ∧ b.2.2.2 = 5))) := by
  have h6 := hk.2.2.2.2.1
  have h5 := hk.2.2.2.2.2
  have e2 : (mS m p f).2.1 19 2 = nI b.2.2.1 := hb.1.2.2.1
  have e3 : (mS m p f).2.1 19 3 = nI b.2.2.2 := hb.1.2.2.2
  generalize mS m p f = M at *
  have b27 : ∀ u0 u1 u2 : Option Value, RS (ZZ L xs) (d + 1) mX13_isFull 27 [u0, u1, u2] [] (HP sh (pM x M)) = some (HP sh (pM x M), some (.int 1)) := fun u0 u1 u2 => by
    rw [bX13_isFull_27, if_pos (Or.inr rfl)]
  have b60 : ∀ u0 u1 u2 : Option Value, RS (ZZ L xs) (d + 1) mX13_isFull 60 [u0, u1, u2] [] (HP sh (pM x M)) = some (HP sh (pM x M), some (.int 1)) := fun u0 u1 u2 => by
    rw [bX13_isFull_60, bX13_isFull_65, if_pos (Or.inr rfl)]
  have b64 : ∀ u0 u1 u2 : Option Value, RS (ZZ L xs) (d + 1) mX13_isFull 64 [u0, u1, u2] [] (HP sh (pM x M)) = some (HP sh (pM x M), some (.int 0)) := fun u0 u1 u2 => by
    rw [bX13_isFull_64, bX13_isFull_65, if_pos (Or.inl rfl)]
  have ne : ∀ {c : Nat}, c < 10 → ¬ k = c → ¬ nI k = nI c := fun {c} hc h z => h ((nI_eq (by omega) (by omega)).mp z)
  have b24 : ∀ t0 t1 : Int32, RS (ZZ L xs) (d + 1) mX13_isFull 24 [some (.ref 259), some (.int (nI k)), some (.int (nI n))] [.int t0, .int t1] (HP sh (pM x M)) = some (HP sh (pM x M), some (.int (if t1 = t0 then z01 (decide (k = 2 ∧ b.2.2.1 = 6 ∨ k = 3 ∧ b.2.2.2 = 5)) else 1))) := fun t0 t1 => by
    rw [bX13_isFull_24]
    by_cases ht : t1 = t0
    · rw [if_pos ht, if_pos ht]
      by_cases k2 : k = 2
      · rw [if_neg (fun z => z (by rw [k2]; rfl)), M_newScalar hM, some_bind', eI_l2, Me_newScalar hM (by decide), some_bind', e2]
        by_cases q : b.2.2.1 = 6
        · rw [if_pos (show nI b.2.2.1 = 6 by rw [q]; rfl), b60, decide_eq_true (Or.inl ⟨k2, q⟩)]
          rfl
        · rw [if_neg (show ¬ nI b.2.2.1 = 6 from fun z => q ((nI_eq (b := 6) (by omega) (by decide)).mp z)), bX13_isFull_45, if_pos (show ¬ nI k = 3 from ne (c := 3) (by decide) (by omega)), b64, decide_eq_false (by omega)]
          rfl
      · rw [if_pos (show ¬ nI k = 2 from ne (c := 2) (by decide) k2), bX13_isFull_45]
        by_cases k3 : k = 3
        · rw [if_neg (fun z => z (by rw [k3]; rfl)), M_newScalar hM, some_bind', eI_l3, Me_newScalar hM (by decide), some_bind', e3]
          by_cases q : b.2.2.2 = 5
          · rw [if_neg (fun z => z (by rw [q]; rfl)), b60, decide_eq_true (Or.inr ⟨k3, q⟩)]
            rfl
          · rw [if_pos (show ¬ nI b.2.2.2 = 5 from fun z => q ((nI_eq (b := 5) (by omega) (by decide)).mp z)), b64, decide_eq_false (by omega)]
            rfl
        · rw [if_pos (show ¬ nI k = 3 from ne (c := 3) (by decide) k3), b64, decide_eq_false (by omega)]
          rfl
    · rw [if_neg ht, if_neg ht, b27]
  refine cI_of ?_
  show RS (ZZ L xs) (d + 1) mX13_isFull 0 [some (.ref 259), some (.int (nI k)), some (.int (nI n))] [] _ = _
  rw [bX13_isFull_0]
  by_cases n40 : n = 40
  · rw [if_pos (show nI n = 40 by rw [n40]; rfl), b27, decide_eq_true (Or.inl n40)]
    rfl
  · rw [if_neg (show ¬ nI n = 40 from fun z => n40 ((nI_eq (b := 40) (by omega) (by decide)).mp z))]
    by_cases k0 : k = 0
    · rw [if_neg (fun z => z (by rw [k0]; rfl)), bX13_isFull_15]
      by_cases n0 : n = 0
      · rw [if_neg (fun z => z (by rw [n0]; rfl)), b24, if_pos rfl]
        exact congrArg (fun z => some (HP sh (pM x M), some (Value.int (z01 z)))) (decide_eq_decide.mpr (by omega))
      · rw [if_pos (nI_ne0 (by omega) (by omega)), b24, if_neg (by decide), decide_eq_true (by omega)]
        rfl
    · rw [if_pos (nI_ne0 (by omega) (by omega)), bX13_isFull_15]
      by_cases n0 : n = 0
      · rw [if_neg (fun z => z (by rw [n0]; rfl)), b24, if_neg (by decide), decide_eq_true (by omega)]
        rfl
      · rw [if_pos (nI_ne0 (by omega) (by omega)), b24, if_pos rfl]
        exact congrArg (fun z => some (HP sh (pM x M), some (Value.int (z01 z)))) (decide_eq_decide.mpr (by omega))
def tW : Nat → List Nat
  | 0 => wTown
  | 1 => wStreet
  | 2 => wPerson
  | _ => wStranger
theorem tW_S : ∀ k, k ≤ 3 → isS (11 + k) (tW k) ∧ (tW k).length ≤ 100 ∧ 0 < (tW k).length ∧ (∀ c, c ∈ tW k → c < 128) := by
  intro k hk
  have : k = 0 ∨ k = 1 ∨ k = 2 ∨ k = 3 := by omega
  rcases this with rfl | rfl | rfl | rfl
  · exact ⟨by unfold isS; decide, by decide, by decide, by decide⟩
  · exact ⟨by unfold isS; decide, by decide, by decide, by decide⟩
  · exact ⟨by unfold isS; decide, by decide, by decide, by decide⟩
  · exact ⟨by unfold isS; decide, by decide, by decide, by decide⟩
theorem r_townWord (d : Nat) {k : Nat} (hk : k ≤ 3) (ph : PH) : cR (ZZ L xs) (d + 1) mX13_townWord [.int (nI k)] ph = some (ph, .retAddr (11 + k + 1)) := by
  refine cR_of rfl ?_
  show RS (ZZ L xs) (d + 1) mX13_townWord 0 [some (.int (nI k))] [] ph = _
  rw [bX13_townWord_0]
  have : k = 0 ∨ k = 1 ∨ k = 2 ∨ k = 3 := by omega
  rcases this with rfl | rfl | rfl | rfl
  · rw [if_pos (by decide), bX13_townWord_28]
  · rw [if_neg (by decide), if_pos (by decide), bX13_townWord_32]
  · rw [if_neg (by decide), if_neg (by decide), if_pos (by decide), bX13_townWord_36]
  · rw [if_neg (by decide), if_neg (by decide), if_neg (by decide), bX13_townWord_39]
theorem kW_is {s : Nat} (h : kW T s ≤ 3) : wdIs T s (tW (kW T s)) = true := by
  unfold kW at *
  by_cases h0 : wdIs T s wTown = true
  · rw [if_pos h0]
    exact h0
  · rw [if_neg h0] at h ⊢
    by_cases h1 : wdIs T s wStreet = true
    · rw [if_pos h1]
      exact h1
    · rw [if_neg h1] at h ⊢
      by_cases h2 : wdIs T s wPerson = true
      · rw [if_pos h2]
        exact h2
      · rw [if_neg h2] at h ⊢
        by_cases h3 : wdIs T s wStranger = true
        · rw [if_pos h3]
          exact h3
        · rw [if_neg h3] at h
          omega
theorem v_clauseM (d : Nat) (hM : isMo sh) (hi : MTa m T) (hV : VTa T) (hp : p ≤ 450) {b : TB} {n : Nat} (hb : TBm m b) (hN : TN n b) (hn : n ≤ 40) : ∃ m' p' f', cV (ZZ L xs) (d + 8) mX13_townClause [.ref 259, .int (nI n)] (HP sh (pM x (mS m p 0))) = some (HP sh (pM x (mS m' p' f'))) ∧ TMs T m m' p' f' (tCl T n (rn isB T p) b) := by
  have h400 := hV.1
  have hk := TN_k hN
  have hs := rn_top2 isB (T := T) hp (by omega)
  generalize hse : rn isB T p = s at *
  have k4 := kW_4 T s
  have b11 : ∀ k, k ≤ 3 → RS (ZZ L xs) (d + 8) mX13_townClause 11 [some (.ref 259), some (.int (nI n)), some (.int (nI s)), some (.int (nI k))] [] (HP sh (pM x (mS m s 0))) = if wdIs T s (tW k) = true then RS (ZZ L xs) (d + 8) mX13_townClause 33 [some (.ref 259), some (.int (nI n)), some (.int (nI s)), some (.int (nI k))] [] (HP sh (pM x (mS m s 0))) else RS (ZZ L xs) (d + 8) mX13_townClause 11 [some (.ref 259), some (.int (nI n)), some (.int (nI s)), some (.int (nI (k + 1)))] [] (HP sh (pM x (mS m s 0))) := fun k hk => by
    obtain ⟨q1, q2, q3, q4⟩ := tW_S k hk
    rw [bX13_townClause_11, if_neg (show ¬ (4 : Int32) ≤ nI k from nI_ge (b := 4) (by omega) (by decide)), r_townWord (d + 6) hk, some_bind', M_is hM, some_bind', i_stoodM (d + 6) hM hi hV (by omega) q1 q2 q3 q4, some_bind', nI_1]
    by_cases e : wdIs T s (tW k) = true
    · rw [if_pos (z1 e), if_pos e]
    · rw [if_neg (fun z => z (z0 e)), if_neg e]
  have b33 : RS (ZZ L xs) (d + 8) mX13_townClause 11 [some (.ref 259), some (.int (nI n)), some (.int (nI s)), some (.int (nI 0))] [] (HP sh (pM x (mS m s 0))) = RS (ZZ L xs) (d + 8) mX13_townClause 33 [some (.ref 259), some (.int (nI n)), some (.int (nI s)), some (.int (nI (kW T s)))] [] (HP sh (pM x (mS m s 0))) := by
    unfold kW
    rw [b11 0 (by decide)]
    by_cases h0 : wdIs T s wTown = true
    · rw [if_pos (show wdIs T s (tW 0) = true from h0), if_pos h0]
    · rw [if_neg (show ¬ wdIs T s (tW 0) = true from h0), if_neg h0, b11 1 (by decide)]
      by_cases h1 : wdIs T s wStreet = true
      · rw [if_pos (show wdIs T s (tW 1) = true from h1), if_pos h1]
      · rw [if_neg (show ¬ wdIs T s (tW 1) = true from h1), if_neg h1, b11 2 (by decide)]
        by_cases h2 : wdIs T s wPerson = true
        · rw [if_pos (show wdIs T s (tW 2) = true from h2), if_pos h2]
        · rw [if_neg (show ¬ wdIs T s (tW 2) = true from h2), if_neg h2, b11 3 (by decide)]
          by_cases h3 : wdIs T s wStranger = true
          · rw [if_pos (show wdIs T s (tW 3) = true from h3), if_pos h3]
          · rw [if_neg (show ¬ wdIs T s (tW 3) = true from h3), if_neg h3, bX13_townClause_11, if_pos (by decide)]
  have start : CL (ZZ L xs) (d + 8) mX13_townClause [.ref 259, .int (nI n)] (HP sh (pM x (mS m p 0))) = RS (ZZ L xs) (d + 8) mX13_townClause 33 [some (.ref 259), some (.int (nI n)), some (.int (nI s)), some (.int (nI (kW T s)))] [] (HP sh (pM x (mS m s 0))) := by
    show RS (ZZ L xs) (d + 8) mX13_townClause 0 [some (.ref 259), some (.int (nI n)), none, none] [] _ = _
    rw [bX13_townClause_0, M_is hM, some_bind', v_blM (d + 5) hM hi hV (by omega), some_bind', hse, M_p hM, some_bind', ← b33]
    rfl
  by_cases h4 : kW T s = 4
  · refine ⟨m, s, ft s 0, cV_of ?_, NwO_refl _, hs, Or.inl ⟨ft s 0, by unfold tCl; rw [if_pos h4], by unfold ft; omega, rfl⟩⟩
    rw [start, bX13_townClause_33, if_neg (fun z => z (by rw [h4]; rfl)), M_is hM, some_bind', show cV (ZZ L xs) (d + 7) mX13_fails [.ref 259, .int 0, .int (nI s)] (HP sh (pM x (mS m s 0))) = _ from v_failsM (d + 6) hM 0 s (by decide), some_bind', fz_z]
  · have hn4 : ¬ nI (kW T s) = 4 := fun z => h4 ((nI_eq (b := 4) (by omega) (by decide)).mp z)
    have hfull := i_isFullM (L := L) (xs := xs) (x := x) (p := s) (f := 0) (d + 6) hM hb hk (show kW T s ≤ 3 by omega) hn
    by_cases hf : tFull T n s b
    · have hf' : n = 40 ∨ ¬ (n = 0 ↔ kW T s = 0) ∨ kW T s = 2 ∧ b.2.2.1 = 6 ∨ kW T s = 3 ∧ b.2.2.2 = 5 := hf
      refine ⟨m, s, ft s 4, cV_of ?_, NwO_refl _, hs, Or.inl ⟨ft s 4, tCl_full h4 hf, by unfold ft; omega, rfl⟩⟩
      rw [start, bX13_townClause_33, if_pos hn4, M_is hM, some_bind', hfull, some_bind', if_neg (z1 (decide_eq_true hf')), M_is hM, some_bind', show cV (ZZ L xs) (d + 7) mX13_fails [.ref 259, .int 4, .int (nI s)] (HP sh (pM x (mS m s 0))) = _ from v_failsM (d + 6) hM 4 s (by decide), some_bind', fz_z]
    · have hf' : ¬ (n = 40 ∨ ¬ (n = 0 ↔ kW T s = 0) ∨ kW T s = 2 ∧ b.2.2.1 = 6 ∨ kW T s = 3 ∧ b.2.2.2 = 5) := hf
      obtain ⟨q1, q2, q3, q4⟩ := tW_S (kW T s) (by omega)
      have hne : tW (kW T s) ≠ [] := fun z => by rw [z] at q3; exact absurd q3 (Nat.lt_irrefl 0)
      obtain ⟨w1, w2⟩ := wdIs_en hne (kW_is (T := T) (s := s) (by omega))
      have hsT : s ≤ T.1 := Nat.le_of_lt (Nat.lt_of_not_le (fun q => by have := kd_0.mpr q; omega))
      have hen := en_le hsT
      have hp2 : rn isB T (s + (tW (kW T s)).length) = nx' T s := by
        unfold nx'
        rw [w2]
      have hpl : s + (tW (kW T s)).length ≤ 450 := by omega
      have go : CL (ZZ L xs) (d + 8) mX13_townClause [.ref 259, .int (nI n)] (HP sh (pM x (mS m p 0))) = (cV (ZZ L xs) (d + 7) mX13_townPart [.ref 259, .int (nI (kW T s))] (HP sh (pM x (mS m (s + (tW (kW T s)).length) 0)))).bind fun p79 => some (p79, none) := by
        rw [start, bX13_townClause_33, if_pos hn4, M_is hM, some_bind', hfull, some_bind', if_pos (z0 (fun q => hf' (of_decide_eq_true q))), M_p hM, some_bind', show (mS m s 0).1 29 = nI s from rfl, r_townWord (d + 6) (by omega), some_bind', sN_of q1, some_bind', nI_add, Mw_p hM, some_bind', mS_p, M_is hM, some_bind']
      have part0 : CL (ZZ L xs) (d + 7) mX13_townPart [.ref 259, .int (nI (kW T s))] (HP sh (pM x (mS m (s + (tW (kW T s)).length) 0))) = if nI (kW T s) = 0 then RS (ZZ L xs) (d + 7) mX13_townPart 36 [some (.ref 259), some (.int (nI (kW T s))), some (.int (nI b.2.1 - 1)), none, none] [] (HP sh (pM x (mS m (s + (tW (kW T s)).length) 0))) else if nI (kW T s) = 1 then RS (ZZ L xs) (d + 7) mX13_townPart 67 [some (.ref 259), some (.int (nI (kW T s))), some (.int (nI b.2.1 - 1)), none, none] [] (HP sh (pM x (mS m (s + (tW (kW T s)).length) 0))) else if nI (kW T s) = 2 then RS (ZZ L xs) (d + 7) mX13_townPart 117 [some (.ref 259), some (.int (nI (kW T s))), some (.int (nI b.2.1 - 1)), none, none] [] (HP sh (pM x (mS m (s + (tW (kW T s)).length) 0))) else RS (ZZ L xs) (d + 7) mX13_townPart 174 [some (.ref 259), some (.int (nI (kW T s))), some (.int (nI b.2.1 - 1)), none, none] [] (HP sh (pM x (mS m (s + (tW (kW T s)).length) 0))) := by
        show RS (ZZ L xs) (d + 7) mX13_townPart 0 [some (.ref 259), some (.int (nI (kW T s))), none, none, none] [] _ = _
        rw [bX13_townPart_0, M_newScalar hM, some_bind', eI_l0, Me_newScalar hM (by decide), some_bind', show (mS m (s + (tW (kW T s)).length) 0).2.1 19 0 = nI b.2.1 from hb.1.1]
      have wrap : ∀ {m' : MM} {p' f' : Nat} {R : Nat ⊕ (Nat × TB)}, CL (ZZ L xs) (d + 7) mX13_townPart [.ref 259, .int (nI (kW T s))] (HP sh (pM x (mS m (s + (tW (kW T s)).length) 0))) = some (HP sh (pM x (mS m' p' f')), none) → TMs T m m' p' f' R → tCl T n s b = R → ∃ m' p' f', cV (ZZ L xs) (d + 8) mX13_townClause [.ref 259, .int (nI n)] (HP sh (pM x (mS m p 0))) = some (HP sh (pM x (mS m' p' f'))) ∧ TMs T m m' p' f' (tCl T n s b) := fun {m' p' f' R} hr hR he => by
        rw [he]
        exact ⟨m', p', f', cV_of (by rw [go, cV_of hr, some_bind']), hR⟩
      have hgo := tCl_go (n := n) (b := b) h4 hf
      by_cases k0 : kW T s = 0
      · obtain ⟨m', p', f', a1, a2⟩ := v_sizeM (L := L) (xs := xs) (x := x) (m := m) (p := s + (tW (kW T s)).length) (d + 1) hM hi hV hpl hb (some (.int (nI (kW T s)))) (some (.int (nI b.2.1 - 1))) none none
        rw [hp2] at a2
        exact wrap (by rw [part0, if_pos (by rw [k0]; rfl), a1]) a2 (by rw [hgo, if_pos k0])
      · have hv : TV b := by
          unfold tFull at hf
          rcases hN with ⟨hn, rfl⟩ | ⟨hn, hv⟩
          · omega
          · exact hv
        have h1 : 1 ≤ b.2.1 := by have := hv.2.1; omega
        have n0 : ¬ nI (kW T s) = 0 := nI_ne0 (by omega) (by omega)
        rw [nI_m1 h1] at part0
        by_cases k1 : kW T s = 1
        · obtain ⟨m', p', f', a1, a2⟩ := v_streetM (L := L) (xs := xs) (x := x) (m := m) (p := s + (tW (kW T s)).length) (d + 1) hM hi hV hpl hb h1 hk.2.2.2.1 (some (.int (nI (kW T s)))) none none
          rw [hp2] at a2
          exact wrap (by rw [part0, if_neg n0, if_pos (by rw [k1]; rfl), a1]) a2 (by rw [hgo, if_neg k0, if_pos k1])
        · have n1 : ¬ nI (kW T s) = 1 := fun z => k1 ((nI_eq (b := 1) (by omega) (by decide)).mp z)
          by_cases k2 : kW T s = 2
          · obtain ⟨m', p', f', a1, a2⟩ := v_personM (L := L) (xs := xs) (x := x) (m := m) (p := s + (tW (kW T s)).length) (d + 1) hM hi hV hpl hb hv (by have := hk.2.2.2.2.1; unfold tFull at hf; omega) (some (.int (nI (kW T s)))) none none
            rw [hp2] at a2
            exact wrap (by rw [part0, if_neg n0, if_neg n1, if_pos (by rw [k2]; rfl), a1]) a2 (by rw [hgo, if_neg k0, if_neg k1, if_pos k2])
          · have n2 : ¬ nI (kW T s) = 2 := fun z => k2 ((nI_eq (b := 2) (by omega) (by decide)).mp z)
            obtain ⟨m', p', f', a1, a2⟩ := v_strangerM (L := L) (xs := xs) (x := x) (m := m) (p := s + (tW (kW T s)).length) (d + 1) hM hi hV hpl hb hv (by have := hk.2.2.2.2.2; unfold tFull at hf; omega) (some (.int (nI (kW T s)))) none none
            rw [hp2] at a2
            exact wrap (by rw [part0, if_neg n0, if_neg n1, if_neg n2, a1]) a2 (by rw [hgo, if_neg k0, if_neg k1, if_neg k2])
def goE (T : TP) (s : Nat) : Nat := if s < T.1 ∧ ¬ Bt T s = 59 then ft s 0 else 0
theorem i_goesOM (d : Nat) (hM : isMo sh) (hi : MTa m T) (hV : VTa T) (hp : p ≤ 450) (hf : f < 10000) : cI (ZZ L xs) (d + 3) mX13_goesOn [.ref 259] (HP sh (pM x (mS m p f))) = some (HP sh (pM x (mS m (rn isB T p + 1) (fz f (goE T (rn isB T p))))), z01 (decide (fz f (goE T (rn isB T p)) = 0 ∧ rn isB T p < T.1))) := by
  have h400 := hV.1
  have hs := rn_top2 isB (T := T) hp (by omega)
  generalize hse : rn isB T p = s at *
  have g40 : ∀ f2, f2 < 10000 → RS (ZZ L xs) (d + 3) mX13_goesOn 40 [some (.ref 259), none] [] (HP sh (pM x (mS m s f2))) = some (HP sh (pM x (mS m (s + 1) f2)), some (.int (z01 (decide (f2 = 0 ∧ s < T.1))))) := fun f2 h2 => by
    have g63 : ∀ t : Bool, RS (ZZ L xs) (d + 3) mX13_goesOn 63 [some (.ref 259), none] [.int (z01 t)] (HP sh (pM x (mS m s f2))) = some (HP sh (pM x (mS m (s + 1) f2)), some (.int (z01 t))) := fun t => by
      rw [bX13_goesOn_63, M_p hM, some_bind', show (mS m s f2).1 29 = nI s from rfl, nI_1, Mw_p hM, some_bind', mS_p, if_pos (z01_or _)]
    rw [bX13_goesOn_40, M_fault hM, some_bind', show (mS m s f2).1 30 = nI f2 from rfl]
    by_cases q : f2 = 0
    · rw [if_neg (fun z => z (by rw [q]; rfl)), M_p hM, some_bind', show (mS m s f2).1 29 = nI s from rfl, M_taped hM, some_bind', show (mS m s f2).1 28 = nI T.1 from hi.1]
      by_cases h : s < T.1
      · rw [if_neg (nI_ge h (by omega)), decide_eq_true ⟨q, h⟩]
        exact g63 true
      · rw [if_pos (nI_le (by omega) (by omega)), bX13_goesOn_62, decide_eq_false (fun z => h z.2)]
        exact g63 false
    · rw [if_pos (nI_ne0 (by omega) (by omega)), bX13_goesOn_62, decide_eq_false (fun z => q z.1)]
      exact g63 false
  refine cI_of ?_
  show RS (ZZ L xs) (d + 3) mX13_goesOn 0 [some (.ref 259), none] [] _ = _
  rw [bX13_goesOn_0, M_is hM, some_bind', v_blM (d) hM hi hV (by omega), some_bind', hse, M_fault hM, some_bind', show (mS m s f).1 30 = nI f from rfl]
  by_cases q : f = 0
  · rw [if_neg (fun z => z (by rw [q]; rfl)), M_p hM, some_bind', show (mS m s f).1 29 = nI s from rfl, M_taped hM, some_bind', show (mS m s f).1 28 = nI T.1 from hi.1]
    unfold goE
    by_cases h : s < T.1
    · rw [if_neg (nI_ge h (by omega)), M_is hM, some_bind', i_signM (d + 1) hM hi hV (by omega), some_bind']
      by_cases e : Bt T s = 59
      · rw [if_pos (show sgn T s = 59 from (sgn_eq hV (c := 59) (by decide)).mpr e), g40 f hf, if_neg (fun z => z.2 e), fz_0]
      · rw [if_neg (show ¬ sgn T s = 59 from fun z => e ((sgn_eq hV (c := 59) (by decide)).mp z)), M_p hM, some_bind', show (mS m s f).1 29 = nI s from rfl, M_is hM, some_bind', show cV (ZZ L xs) (d + 2) mX13_fails [.ref 259, .int 0, .int (nI s)] (HP sh (pM x (mS m s f))) = _ from v_failsM (d + 1) hM 0 s (by omega), some_bind', if_pos ⟨h, e⟩, g40 _ (by rw [q, fz_z]; unfold ft; omega)]
    · rw [if_pos (nI_le (by omega) (by omega)), g40 f hf, if_neg (fun z => h z.1), fz_0]
  · rw [if_pos (nI_ne0 (by omega) (by omega)), g40 f hf, fz_n _ q]
theorem en_59 {s : Nat} (h : Bt T s = 59) : rn isB T (s + 1) = nx' T s := by
  have hk := (kd_sg h (by decide) (by decide) (by decide)).1
  unfold nx' en
  rw [hk, if_neg (by decide), if_neg (by decide), if_neg (by decide), if_neg (fun z => by have := jE_iff.mp z; omega)]
/-- the reader's loop -/
theorem v_readLM (d : Nat) (hM : isMo sh) (hV : VTa T) : ∀ (g n p : Nat) (b : TB) (m : MM), g + n = 41 → n ≤ 40 → MTa m T → p ≤ 450 → TBm m b → TN n b → ∃ m' p' f', RS (ZZ L xs) (d + 9) mX13_readsAll 49 [some (.ref 259), some (.int (nI n)), some (.int 1)] [] (HP sh (pM x (mS m p 0))) = some (HP sh (pM x (mS (mI m' 28 0) p' f')), none) ∧ NwO m m' ∧ ((∃ e, tRd T g n (rn isB T p) b = .inl e ∧ (0 < e ∧ e < 10000) ∧ f' = e) ∨ ∃ b', tRd T g n (rn isB T p) b = .inr b' ∧ f' = 0 ∧ TBm m' b' ∧ TV b') := by
  have h400 := hV.1
  intro g
  induction g with
  | zero => intro n p b m hf hn; omega
  | succ g ih =>
    intro n p b m hf hn hi hp hb hN
    have hs := rn_top2 isB (T := T) hp (by omega)
    obtain ⟨m1, p1, f1, a1, a2, a3, a4⟩ := v_clauseM (L := L) (xs := xs) (x := x) (d) hM hi hV hp hb hN hn
    have hi1 := MTa_N a2 hi
    have hf1 : f1 < 10000 := by
      rcases a4 with ⟨e, -, e2, e3⟩ | ⟨s, b, -, e2, -⟩
      · omega
      · omega
    have b49 : RS (ZZ L xs) (d + 9) mX13_readsAll 49 [some (.ref 259), some (.int (nI n)), some (.int 1)] [] (HP sh (pM x (mS m p 0))) = RS (ZZ L xs) (d + 9) mX13_readsAll 49 [some (.ref 259), some (.int (nI (n + 1))), some (.int (z01 (decide (fz f1 (goE T (rn isB T p1)) = 0 ∧ rn isB T p1 < T.1))))] [] (HP sh (pM x (mS m1 (rn isB T p1 + 1) (fz f1 (goE T (rn isB T p1)))))) := by
      rw [bX13_readsAll_49, if_neg (by decide), M_is hM, some_bind', a1, some_bind', M_is hM, some_bind', i_goesOM (d + 5) hM hi1 hV a3 hf1, some_bind', nI_1]
    have stop : ∀ (i1 : Int32) (p2 f2 : Nat), RS (ZZ L xs) (d + 9) mX13_readsAll 49 [some (.ref 259), some (.int i1), some (.int (z01 false))] [] (HP sh (pM x (mS m1 p2 f2))) = some (HP sh (pM x (mS (mI m1 28 0) p2 f2)), none) := fun i1 p2 f2 => by
      rw [bX13_readsAll_49, if_pos (by decide), Mw_taped hM, some_bind', mS_I _ _ _ (by decide) (by decide)]
    rcases a4 with ⟨e, e1, e2, e3⟩ | ⟨s', b', e1, e2, e3, e4⟩
    · refine ⟨m1, rn isB T p1 + 1, e, ?_, a2, Or.inl ⟨e, tRd_l e1, e2, rfl⟩⟩
      rw [b49, e3, fz_n _ (by omega), decide_eq_false (by omega), stop]
    · have hTV : TV b' ∧ (s' ≤ T.1 ∨ ¬ rn isB T p ≤ T.1) := by
        by_cases hsT : rn isB T p ≤ T.1
        · exact ⟨(tCl_V hN hsT e1).1, Or.inl (tCl_V hN hsT e1).2⟩
        · exfalso
          have hk0 : kd T (rn isB T p) = 0 := kd_0.mpr (by omega)
          have h4 : kW T (rn isB T p) = 4 := by
            unfold kW
            rw [wdIs_kd (by decide) (by omega), wdIs_kd (by decide) (by omega), wdIs_kd (by decide) (by omega), wdIs_kd (by decide) (by omega)]
            rfl
          unfold tCl at e1
          rw [if_pos h4] at e1
          cases e1
      have hrd := tRd_r (f := g) e1
      rw [e3] at b49
      rw [e2, fz_z] at b49
      by_cases h0 : T.1 ≤ s'
      · have hgo : goE T s' = 0 := if_neg (fun z => by omega)
        refine ⟨m1, s' + 1, 0, ?_, a2, Or.inr ⟨b', by rw [hrd, if_pos h0], rfl, e4, hTV.1⟩⟩
        rw [b49, hgo, decide_eq_false (by omega), stop]
      · by_cases h59 : Bt T s' = 59
        · have hgo : goE T s' = 0 := if_neg (fun z => z.2 h59)
          by_cases n40 : n = 40
          · exfalso
            by_cases h4 : kW T (rn isB T p) = 4
            · unfold tCl at e1
              rw [if_pos h4] at e1
              cases e1
            · rw [tCl_full h4 (Or.inl n40)] at e1
              cases e1
          · obtain ⟨m2, p2, f2, w1, w2, w3⟩ := ih (n + 1) (s' + 1) b' m1 (by omega) (by omega) hi1 (by omega) e4 (Or.inr ⟨by omega, hTV.1⟩)
            rw [en_59 h59] at w3
            refine ⟨m2, p2, f2, ?_, NwO_trans a2 w2, by rw [hrd, if_neg h0, if_pos h59]; exact w3⟩
            rw [b49, hgo, decide_eq_true ⟨rfl, by omega⟩]
            exact w1
        · have hgo : goE T s' = ft s' 0 := if_pos ⟨by omega, h59⟩
          have hft : 0 < ft s' 0 ∧ ft s' 0 < 10000 := by unfold ft; omega
          refine ⟨m1, s' + 1, ft s' 0, ?_, a2, Or.inl ⟨ft s' 0, by rw [hrd, if_neg h0, if_neg h59], hft, rfl⟩⟩
          rw [b49, hgo, decide_eq_false (by omega), stop]
end TOWNM3
