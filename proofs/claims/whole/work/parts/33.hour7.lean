/-! the hour by the state alone: the ways are those of the streets that are open -/
def AQ (A B : Nat → Int32) : Prop := ∀ k, k < 64 → A k = B k
theorem msIn_q (l : Int64) (e : Int32) (fr : Nat) (dd : Int32) : ∀ (f p : Nat) (A B : Nat → Int32) (n : Int32), AQ A B → AQ (msIn l e fr dd f p (A, n)).1 (msIn l e fr dd f p (B, n)).1 ∧ (msIn l e fr dd f p (A, n)).2 = (msIn l e fr dd f p (B, n)).2
  | 0, _, A, B, n, h => ⟨h, rfl⟩
  | f + 1, p, A, B, n, h => by
    unfold msIn
    by_cases hb : iShr e (nI p) &&& 1 = 1
    · rw [if_pos hb, if_pos hb]
      refine msIn_q l e fr dd f (p + 1) _ _ _ (fun k hk => ?_)
      show upd A (fr * 8 + p) dd k = upd B (fr * 8 + p) dd k
      by_cases hq : k = fr * 8 + p
      · subst hq
        rw [upd_at, upd_at]
      · rw [upd_ne _ _ hq, upd_ne _ _ hq]
        exact h k hk
    · rw [if_neg hb, if_neg hb]
      exact msIn_q l e fr dd f (p + 1) _ _ _ h
theorem msD_q (l : Int64) (fr : Nat) : ∀ (f dd : Nat) (se e : Int32) (A B : Nat → Int32), AQ A B → AQ (msD l fr f dd se e A) (msD l fr f dd se e B)
  | 0, _, _, _, A, B, h => h
  | f + 1, dd, se, e, A, B, h => by
    unfold msD
    by_cases he : e = 0
    · rw [if_pos he, if_pos he]
      exact h
    · rw [if_neg he, if_neg he]
      have hq := msIn_q l e fr (nI dd) 8 0 A B 0 h
      rw [hq.2]
      exact msD_q l fr f (dd + 1) _ _ _ _ hq.1
theorem msF_q (l : Int64) : ∀ (f fr : Nat) (A B : Nat → Int32), AQ A B → AQ (msF l f fr A) (msF l f fr B)
  | 0, _, A, B, h => h
  | f + 1, fr, A, B, h => msF_q l f (fr + 1) _ _ (msD_q l fr 8 0 0 _ _ _ h)
def dst (l : Int64) : Nat → Int32 := measS l (fun _ => 0)
theorem meas_q (l : Int64) (A B : Nat → Int32) : AQ (measS l A) (measS l B) := by
  refine msF_q l 8 0 _ _ (fun k hk => ?_)
  unfold flF
  rw [if_pos hk, if_pos hk]
def WOK (v : CV) : Prop := AQ v.2.1 (dst v.1)
theorem folS_ok {l : Int64} {v : CV} (h : WOK v) : WOK (folS l v) ∧ (folS l v).1 = l ∧ (folS l v).2.2 = v.2.2 := by
  unfold folS
  by_cases e : l = v.1
  · rw [if_pos e]
    exact ⟨h, e.symm, rfl⟩
  · rw [if_neg e]
    exact ⟨meas_q l _ _, rfl, rfl⟩
theorem farS_q {A B : Nat → Int32} (h : AQ A B) : farS A = farS B := by
  funext a e
  unfold farS
  by_cases q : a < 0 ∨ (8 : Int32) ≤ a ∨ e < 0 ∨ (8 : Int32) ≤ e
  · rw [if_pos q, if_pos q]
  · rw [if_neg q, if_neg q]
    obtain ⟨i, hi, rfl⟩ := i32_lt8 (fun z => q (Or.inl z)) (fun z => q (Or.inr (Or.inl z)))
    obtain ⟨j, hj, rfl⟩ := i32_lt8 (fun z => q (Or.inr (Or.inr (Or.inl z)))) (fun z => q (Or.inr (Or.inr (Or.inr z))))
    rw [nI_clamp (by omega), nI_clamp (by omega)]
    exact h _ (by omega)
theorem stepF_q {A B : Nat → Int32} (h : farS A = farS B) (near frm to dist : Int32) : ∀ f p, stepF A near frm to dist f p = stepF B near frm to dist f p
  | 0, _ => rfl
  | f + 1, p => by
    unfold stepF
    rw [h, stepF_q h near frm to dist f (p + 1)]
theorem stepS_q {A B : Nat → Int32} (h : farS A = farS B) (l : Int64) (frm to : Int32) : stepS l A frm to = stepS l B frm to := by
  unfold stepS
  rw [h, stepF_q h]
theorem pasF_q (R : Option ((Nat → Int32) → Int64)) (w : TW) (np : Nat) (wrong : Int32) (ms : Int64) {A B : Nat → Int32} (h : farS A = farS B) : ∀ (f g : Nat) (s : SV) (wh : Nat → Int32) (n : Int32), pasF R w np wrong ms A f g s wh n = pasF R w np wrong ms B f g s wh n
  | 0, _, _, _, _ => rfl
  | f + 1, g, s, wh, n => by
    unfold pasF
    simp only [h, whtS, stepS_q h, pasF_q R w np wrong ms h f (g + 1)]
/-- an hour: the state, whom, how many ask -/
def hourA (R : Option ((Nat → Int32) → Int64)) (w : TW) (np ns : Nat) (wrong : Int32) (q : SV × (Nat → Int32)) : (SV × (Nat → Int32)) × Int32 :=
  let r := pasF R w np wrong q.1.2.1 (dst q.1.2.1) ns 0 (arrW w ns 0 q.1) q.2 0
  let s2 := cloS w np r.1
  ((stH s2 (s2.1.1 + 1), r.2.1), r.2.2)
def runA (R : Option ((Nat → Int32) → Int64)) (w : TW) (np ns : Nat) (wrong : Int32) : Nat → SV × (Nat → Int32) → SV × (Nat → Int32)
  | 0, q => q
  | n + 1, q => runA R w np ns wrong n (hourA R w np ns wrong q).1
/-- a town that stands: how many people, how many strangers -/
def TOK (w : TW) (np ns : Nat) : Prop := w.1 2 = nI np ∧ np ≤ 6 ∧ w.1 3 = nI ns ∧ ns ≤ 5
section HOUR7
variable {L : Nat} {xs : Nat → Int32} {sh : List Sh} {x : ST} {b c t : Nat} {w : TW} {R : Option ((Nat → Int32) → Int64)} {np ns : Nat}
theorem i_passA (d : Nat) (h : HR sh x b c t) (hw : gTo x t = w) (hR : RuOK L xs sh x b c R) (hT : TOK w np ns) (s : SV) (v : CV) (hv : WOK v) : ∃ v', WOK v' ∧ v'.2.2.1 = (hourA R w np ns (x.1 c 5) (s, v.2.2.1)).1.2 ∧ cI (ZZ L xs) (d + 4) mX0_pass [.ref c, .ref b] (HP sh (KK x b c s v)) = some (HP sh (KK x b c (hourA R w np ns (x.1 c 5) (s, v.2.2.1)).1.1 v'), (hourA R w np ns (x.1 c 5) (s, v.2.2.1)).2) := by
  obtain ⟨wd', hp⟩ := i_pass (L := L) (xs := xs) d h hw hR np hT.1 hT.2.1 ns hT.2.2.1 hT.2.2.2 s v
  obtain ⟨k1, k2, k3⟩ := folS_ok (l := s.2.1) hv
  have k1' : AQ (folS s.2.1 v).2.1 (dst s.2.1) := by
    have : AQ (folS s.2.1 v).2.1 (dst (folS s.2.1 v).1) := k1
    rw [k2] at this
    exact this
  have e : pasF R w np (x.1 c 5) (folS s.2.1 v).1 (folS s.2.1 v).2.1 ns 0 (arrW w ns 0 s) (folS s.2.1 v).2.2.1 0 = pasF R w np (x.1 c 5) s.2.1 (dst s.2.1) ns 0 (arrW w ns 0 s) v.2.2.1 0 := by
    rw [k2, k3, pasF_q R w np (x.1 c 5) s.2.1 (farS_q k1')]
  have hh : hourS R w np ns (x.1 c 5) s v = ((hourA R w np ns (x.1 c 5) (s, v.2.2.1)).1.1, ((folS s.2.1 v).1, (folS s.2.1 v).2.1, (hourA R w np ns (x.1 c 5) (s, v.2.2.1)).1.2, (folS s.2.1 v).2.2.2), (hourA R w np ns (x.1 c 5) (s, v.2.2.1)).2) := by
    unfold hourS hourA
    simp only [e]
  rw [hh] at hp
  exact ⟨((folS s.2.1 v).1, (folS s.2.1 v).2.1, (hourA R w np ns (x.1 c 5) (s, v.2.2.1)).1.2, wd'), k1, rfl, hp⟩
theorem run_loop (d : Nat) (h : HR sh x b c t) (hw : gTo x t = w) (hR : RuOK L xs sh x b c R) (hT : TOK w np ns) (n : Nat) (hn : n < 2 ^ 31) : ∀ (f i : Nat), f + i = n → ∀ (s : SV) (v : CV), WOK v → ∃ v', WOK v' ∧ v'.2.2.1 = (runA R w np ns (x.1 c 5) f (s, v.2.2.1)).2 ∧ RS (ZZ L xs) (d + 5) mX0_run 2 [some (.ref c), some (.ref b), some (.int (nI n)), some (.int (nI i))] [] (HP sh (KK x b c s v)) = some (HP sh (KK x b c (runA R w np ns (x.1 c 5) f (s, v.2.2.1)).1 v'), none) := by
  obtain ⟨hB, hC, hT', hct, d1, d2, d3⟩ := id h
  intro f
  induction f with
  | zero =>
    intro i hi s v hv
    refine ⟨v, hv, rfl, ?_⟩
    rw [bX0_run_2 (hv1 := rfl), if_pos (nI_le (by omega) (by omega))]
    rfl
  | succ f ih =>
    intro i hi s v hv
    rw [bX0_run_2 (hv1 := rfl), if_neg (nI_ge (by omega) hn), Ck_is hC, some_bind']
    obtain ⟨v1, q1, q2, q3⟩ := i_passA (L := L) (xs := xs) d h hw hR hT s v hv
    rw [q3, some_bind', nI_1]
    obtain ⟨v', p1, p2, p3⟩ := ih (i + 1) (by omega) (hourA R w np ns (x.1 c 5) (s, v.2.2.1)).1.1 v1 q1
    rw [q2] at p2 p3
    exact ⟨v', p1, p2, p3⟩
theorem v_run (d : Nat) (h : HR sh x b c t) (hw : gTo x t = w) (hR : RuOK L xs sh x b c R) (hT : TOK w np ns) (n : Nat) (hn : n < 2 ^ 31) (s : SV) (v : CV) (hv : WOK v) : ∃ v', WOK v' ∧ v'.2.2.1 = (runA R w np ns (x.1 c 5) n (s, v.2.2.1)).2 ∧ cV (ZZ L xs) (d + 5) mX0_run [.ref c, .ref b, .int (nI n)] (HP sh (KK x b c s v)) = some (HP sh (KK x b c (runA R w np ns (x.1 c 5) n (s, v.2.2.1)).1 v')) := by
  obtain ⟨v', p1, p2, p3⟩ := run_loop (L := L) (xs := xs) d h hw hR hT n hn n 0 rfl s v hv
  refine ⟨v', p1, p2, ?_⟩
  have h1 : CL (ZZ L xs) (d + 5) mX0_run [.ref c, .ref b, .int (nI n)] (HP sh (KK x b c s v)) = some (HP sh (KK x b c (runA R w np ns (x.1 c 5) n (s, v.2.2.1)).1 v'), none) := by
    show RS (ZZ L xs) (d + 5) mX0_run 0 [some (.ref c), some (.ref b), some (.int (nI n)), none] [] _ = _
    rw [bX0_run_0 (hv1 := rfl)]
    exact p3
  unfold cV
  rw [h1]
  rfl
end HOUR7
