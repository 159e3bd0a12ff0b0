section GAME4
variable {L : Nat} {xs : Nat → Int32} {W : WD}
theorem gaG_congr {mx : Bool} {e e' : Nat → Option Int32} : ∀ (f j : Nat) (acc : Option (Int32 × Nat)), (∀ k, j ≤ k → k < j + f → e k = e' k) → lp (gaG mx e) f j acc = lp (gaG mx e') f j acc
  | 0, _, _, _ => rfl
  | f + 1, j, acc, h => by
    show lp (gaG mx e) f (j + 1) (gaG mx e j acc) = lp (gaG mx e') f (j + 1) (gaG mx e' j acc)
    rw [show gaG mx e j acc = gaG mx e' j acc by unfold gaG; rw [h j (Nat.le_refl _) (by omega)]]
    exact gaG_congr f (j + 1) _ (fun k h1 h2 => h k (by omega) (by omega))
theorem gaE_ev {p q n i c : Nat} {s : SV} (hP : 0 < W.2.1.1.2.1) (hi : i < n) (h : gaT W p q i c = some s) {j : Nat} (hj : j < W.2.1.1.2.1) : gaEv W p q n (i + 1) (W.2.1.1.2.1 * c + j) = gaE W p q i (gaV W p q (n - (i + 1)) (i + 1)) s j := by
  have h1 : (W.2.1.1.2.1 * c + j) / W.2.1.1.2.1 = c := by
    rw [Nat.mul_add_div hP, Nat.div_eq_of_lt hj]
    rfl
  have h2 : (W.2.1.1.2.1 * c + j) % W.2.1.1.2.1 = j := by
    rw [Nat.mul_add_mod, Nat.mod_eq_of_lt hj]
  have h3 := gaT_some (W := W) (p := p) (q := q) (i := i) (c := W.2.1.1.2.1 * c + j) (s := s) (by rw [h1]; exact h)
  rw [h2] at h3
  unfold gaEv gaE
  rw [h3]
  by_cases ok : gaO s (gaM p q i) j = true
  · rw [if_pos ok, if_pos ok]
  · rw [if_neg ok, if_neg ok]
theorem gaE_dead {p q n i c : Nat} (hP : 0 < W.2.1.1.2.1) (h : gaT W p q i c = none) {j : Nat} (hj : j < W.2.1.1.2.1) : gaEv W p q n (i + 1) (W.2.1.1.2.1 * c + j) = none := by
  have h1 : (W.2.1.1.2.1 * c + j) / W.2.1.1.2.1 = c := by
    rw [Nat.mul_add_div hP, Nat.div_eq_of_lt hj]
    rfl
  unfold gaEv
  rw [gaT_none (W := W) (p := p) (q := q) (i := i) (c := W.2.1.1.2.1 * c + j) (by rw [h1]; exact h)]
theorem gaE_R (hv : VW W) {p q n i c : Nat} (hp : p < W.2.1.1.2.2.1) (hq : q < W.2.1.1.2.2.1) (hn : n ≤ 3) (hi : i ≤ n) (v : Int32) (h : gaEv W p q n i c = some v) : gaR v := by
  have h6 : W.2.1.1.2.2.1 ≤ 6 := hv.2.1.1.1.1.2.1
  unfold gaEv at h
  split at h
  · cases h
  · next s hs =>
    cases h
    exact gaV_R hv (by omega) (by omega) (n - i) i s (VB_mono (gaT_VB hv (pl_of_np hv hp) i c s hs).1 (by omega)) (by omega)
theorem ga_some (hv : VW W) {p q i c : Nat} {s : SV} (hp : p < W.2.1.1.2.2.1) (hq : q < W.2.1.1.2.2.1) (h : gaT W p q i c = some s) (V : SV → Int32) (mx : Bool) : ∃ a, lp (gaG mx (gaE W p q i V s)) W.2.1.1.2.1 0 none = some a := by
  have h6 : W.2.1.1.2.2.1 ≤ 6 := hv.2.1.1.1.1.2.1
  have h8 : W.2.1.1.2.1 ≤ 8 := hv.2.1.1.1.2.2.2.2.1.1
  obtain ⟨a, ha, hat⟩ := (gaT_VB hv (pl_of_np hv hp) i c s h).2 (gaM p q i) (by unfold gaM; split <;> assumption)
  refine gaG_some _ _ _ (Or.inr ⟨a, V (gaN W (gaM p q i) s a), Nat.zero_le _, by omega, if_pos ?_⟩)
  unfold gaO
  rw [hat]
  simp
theorem ga_fold (hv : VW W) {p q n i c : Nat} (hp : p < W.2.1.1.2.2.1) (hq : q < W.2.1.1.2.2.1) (hi : i < n) : gaC (gaEv W p q n i c) = (match lp (gaG (decide (i % 2 = 0)) (fun j => gaEv W p q n (i + 1) (W.2.1.1.2.1 * c + j))) W.2.1.1.2.1 0 none with
    | none => -100000
    | some c => c.1) := by
  have hP := pl_of_np hv hp
  cases h : gaT W p q i c with
  | none =>
    rw [gaG_none _ _ (fun k h1 h2 => gaE_dead hP h (by omega))]
    unfold gaEv
    rw [h]
    rfl
  | some s =>
    rw [gaG_congr _ _ _ (fun k h1 h2 => gaE_ev hP hi h (by omega))]
    obtain ⟨a, ha⟩ := ga_some hv hp hq h (gaV W p q (n - (i + 1)) (i + 1)) (decide (i % 2 = 0))
    unfold gaEv
    rw [ha, h]
    show gaV W p q (n - i) i s = a.1
    rw [show n - i = n - (i + 1) + 1 by omega]
    show gaB (lp (gaG (decide (i % 2 = 0)) (gaE W p q i (gaV W p q (n - (i + 1)) (i + 1)) s)) W.2.1.1.2.1 0 none) = a.1
    rw [ha]
    rfl
section
variable {sh : List Sh} {x : ST} {m0 m : MM} {s : SV}
theorem QM_40 {R : Option ((Nat → Int32) → Int64)} {wr : Int32} (h : QM L xs sh x W m0 R wr m s) (k : Nat) (v : Int32) : QM L xs sh x W m0 R wr (mA m 40 k v) s := by
  obtain ⟨h1, ⟨s0, s1, s2, s3, s4, s5⟩, h3, ⟨c1, c2, c3, c4⟩, h5, h6⟩ := h
  have e1 : ∀ a, a ≠ 40 → (mA m 40 k v).2.1 a = m.2.1 a := fun a ha => mA_ne m _ _ ha
  refine ⟨KJ_A h1 (Or.inr ⟨rfl, by decide⟩) _ _, ⟨by rw [e1 0 (by decide)]; exact s0, by rw [e1 0 (by decide)]; exact s1, by rw [e1 0 (by decide)]; exact s2, by rw [e1 0 (by decide)]; exact s3, by rw [e1 9 (by decide)]; exact s4, by rw [e1 10 (by decide), e1 11 (by decide), e1 12 (by decide)]; exact s5⟩, fun i hi => by rw [e1 8 (by decide)]; exact h3 i hi, ⟨by rw [e1 0 (by decide)]; exact c1, by rw [e1 0 (by decide)]; exact c2, by rw [e1 0 (by decide)]; exact c3, fun j hj q hq => by rw [e1 _ (by omega)]; exact c4 j hj q hq⟩, h5, RuM_fr ⟨by rw [e1 0 (by decide)], fun r q1 q2 => e1 r (by omega)⟩ h6⟩
theorem pw_le {P : Nat} (h8 : P ≤ 8) {i : Nat} (hi : i ≤ 3) : P ^ i ≤ 512 := by
  have hk1 : P ^ i ≤ 8 ^ i := Nat.pow_le_pow_left h8 i
  have hk2 : 8 ^ i ≤ 8 ^ 3 := Nat.pow_le_pow_right (by decide) hi
  omega
/-- all plays are laid -/
theorem m_fill (d : Nat) (hM : isMo sh) (hv : VW W) (hi : MI L xs m W) {p q n : Nat} (hp : p < W.2.1.1.2.2.1) (hq : q < W.2.1.1.2.2.1) (hn : n ≤ 3) (e : Int32) : ∀ (f c : Nat), f + c = W.2.1.1.2.1 ^ n → ∀ (m1 : MM) (u8 : Option Value), MJ m m1 → QM L xs sh x W m (RF W W.2.1.2.2.2.1.1) (W.2.1.1.1.1 5) m1 W.2.1.2.1 → (∀ k, k < c → m1.2.1 40 k = gaC (gaEv W p q n n k)) → ∃ m2, RS (ZZ L xs) (d + 60) mX13_game 88 [some (.ref 259), some (.int (nI p)), some (.int (nI q)), some (.int (nI n)), some (.int e), some (.int (nI W.2.1.1.2.1)), some (.int (nI (W.2.1.1.2.1 ^ n))), some (.int (nI c)), u8] [] (HP sh (pM x m1)) = RS (ZZ L xs) (d + 60) mX13_game 124 [some (.ref 259), some (.int (nI p)), some (.int (nI q)), some (.int (nI n)), some (.int e), some (.int (nI W.2.1.1.2.1)), some (.int (nI (W.2.1.1.2.1 ^ n))), some (.int (nI n - 1)), none] [] (HP sh (pM x m2)) ∧ MJ m m2 ∧ ∀ k, k < W.2.1.1.2.1 ^ n → m2.2.1 40 k = gaC (gaEv W p q n n k) := by
  have h6 : W.2.1.1.2.2.1 ≤ 6 := hv.2.1.1.1.1.2.1
  have h8 : W.2.1.1.2.1 ≤ 8 := hv.2.1.1.1.2.2.2.2.1.1
  have hpw := pw_le h8 hn
  intro f
  induction f with
  | zero =>
    intro c hc m1 u8 hJ h hA
    refine ⟨m1, ?_, hJ, fun k hk => hA k (by omega)⟩
    rw [bX13_game_88, if_pos (nI_le (by omega) (by omega))]
  | succ f ih =>
    intro c hc m1 u8 hJ h hA
    obtain ⟨m2, p1, p2, p3, p4⟩ := i_playOf (L := L) (xs := xs) (x := x) d hM hv hi hp hq hn (c := c) (by omega) h
    obtain ⟨m3, q1, q2, q3⟩ := ih (c + 1) (by omega) (mA m2 40 c (gaC (gaEv W p q n n c))) none (MJ_A p2 rfl _ _) (QM_40 p3 _ _) (fun k hk => by
      rw [mA_eq]
      by_cases hkc : k = c
      · rw [hkc, upd_at]
      · rw [upd_ne _ _ hkc, p4]
        exact hA k (by omega))
    refine ⟨m3, ?_, q2, q3⟩
    rw [bX13_game_88, if_neg (nI_ge (by omega) (by omega)), M_plays hM, some_bind', M_is hM, some_bind', p1, some_bind', Mu_plays hM (by omega), some_bind', nI_1]
    exact q1
/-- the best of them, from the last turn to the first -/
theorem m_red (d : Nat) (hM : isMo sh) (hv : VW W) {p q n : Nat} (hp : p < W.2.1.1.2.2.1) (hq : q < W.2.1.1.2.2.1) (hn : n ≤ 3) (e : Int32) : ∀ (i : Nat), i < n → ∀ (m1 : MM) (u1 u2 u3 u8 : Option Value), MJ m m1 → (∀ k, k < W.2.1.1.2.1 ^ (i + 1) → m1.2.1 40 k = gaC (gaEv W p q n (i + 1) k)) → ∃ m2, RS (ZZ L xs) (d + 60) mX13_game 124 [some (.ref 259), u1, u2, u3, some (.int e), some (.int (nI W.2.1.1.2.1)), some (.int (nI (W.2.1.1.2.1 ^ (i + 1)))), some (.int (nI i)), u8] [] (HP sh (pM x m1)) = some (HP sh (pM x m2), some (.int (if e = 0 then gaV W p q n 0 W.2.1.2.1 else gaF W p q n 0 (-1) W.2.1.2.1))) ∧ MJ m m2 := by
  have h6 : W.2.1.1.2.2.1 ≤ 6 := hv.2.1.1.1.1.2.1
  have h8 : W.2.1.1.2.1 ≤ 8 := hv.2.1.1.1.2.2.2.2.1.1
  have hP := pl_of_np hv hp
  intro i
  induction i with
  | zero =>
    intro hi m1 u1 u2 u3 u8 hJ hA
    obtain ⟨n', rfl⟩ : ∃ n', n = n' + 1 := ⟨n - 1, by omega⟩
    rw [Nat.pow_one] at hA
    obtain ⟨a, a1, a2, a3, a4⟩ := i_best (L := L) (xs := xs) (x := x) (d + 58) hM (b := 0) hP (by omega) (e := fun j => gaEv W p q (n' + 1) 1 (W.2.1.1.2.1 * 0 + j)) (fun j v hj => gaE_R hv hp hq hn (by omega) v hj) (fun j hj => by rw [hA (0 + j) (by omega), Nat.mul_zero]) true rfl
    have hT : gaT W p q 0 0 = some W.2.1.2.1 := rfl
    have hl : lp (gaG true (fun j => gaEv W p q (n' + 1) 1 (W.2.1.1.2.1 * 0 + j))) W.2.1.1.2.1 0 none = lp (gaG true (gaE W p q 0 (gaV W p q n' 1) W.2.1.2.1)) W.2.1.1.2.1 0 none := gaG_congr _ _ _ (fun k h1 h2 => gaE_ev (n := n' + 1) hP (by omega) hT (by omega))
    obtain ⟨b, hb⟩ := ga_some hv hp hq hT (gaV W p q n' 1) true
    rw [hl, hb] at a3 a4
    have hb2 := a4 b rfl
    have e1 : gaV W p q (n' + 1) 0 W.2.1.2.1 = b.1 := by
      show gaB (lp (gaG true (gaE W p q 0 (gaV W p q n' 1) W.2.1.2.1)) W.2.1.1.2.1 0 none) = b.1
      rw [hb]
      rfl
    have e2 : gaF W p q (n' + 1) 0 (-1) W.2.1.2.1 = nI a := by
      show gaFm 0 (-1) (lp (gaG true (gaE W p q 0 (gaV W p q n' 1) W.2.1.2.1)) W.2.1.1.2.1 0 none) = nI a
      rw [hb, hb2]
      rfl
    rw [Nat.zero_add] at a2 a3
    have a3 : m1.2.1 40 a = b.1 := a3
    refine ⟨m1, ?_, hJ⟩
    rw [bX13_game_124, if_pos (show nI 0 ≤ 0 by decide), M_is hM, some_bind']
    rw [show cI (ZZ L xs) (d + 59) mX13_bestAt [.ref 259, .int 0, .int (nI W.2.1.1.2.1), .int 1] (HP sh (pM x m1)) = some (HP sh (pM x m1), nI a) from a2, some_bind']
    by_cases c0 : e = 0
    · rw [if_neg (fun z => z c0), if_pos c0, M_plays hM, some_bind', Me_plays hM (by omega), some_bind', a3, bX13_game_220, e1]
    · rw [if_pos c0, if_neg c0, bX13_game_220, e2]
  | succ i ih =>
    intro hi m1 u1 u2 u3 u8 hJ hA
    have hpw := pw_le h8 (show i + 1 + 1 ≤ 3 by omega)
    have hpw1 := pw_le h8 (show i + 1 ≤ 3 by omega)
    have hk3 : W.2.1.1.2.1 ^ (i + 1 + 1) = W.2.1.1.2.1 ^ (i + 1) * W.2.1.1.2.1 := Nat.pow_succ ..
    have d1 : nI (W.2.1.1.2.1 ^ (i + 1 + 1)) / nI W.2.1.1.2.1 = nI (W.2.1.1.2.1 ^ (i + 1)) := by
      rw [pk_div (by omega) hP (by omega), hk3, Nat.mul_div_cancel _ hP]
    have r1 : iRem (nI (i + 1)) 2 = nI ((i + 1) % 2) := rem_nI (b := 2) (by omega) (by omega) (by omega)
    have inner : ∀ (f c : Nat), f + c = W.2.1.1.2.1 ^ (i + 1) → ∀ (m1 : MM) (u1 u2 u3 : Option Value), MJ m m1 → (∀ k, k < c → m1.2.1 40 k = gaC (gaEv W p q n (i + 1) k)) → (∀ k, c ≤ k → k < W.2.1.1.2.1 ^ (i + 1 + 1) → m1.2.1 40 k = gaC (gaEv W p q n (i + 1 + 1) k)) → ∃ (m2 : MM) (u8 : Option Value), RS (ZZ L xs) (d + 60) mX13_game 139 [some (.ref 259), u1, u2, u3, some (.int e), some (.int (nI W.2.1.1.2.1)), some (.int (nI (W.2.1.1.2.1 ^ (i + 1)))), some (.int (nI (i + 1))), some (.int (nI c))] [] (HP sh (pM x m1)) = RS (ZZ L xs) (d + 60) mX13_game 124 [some (.ref 259), none, none, none, some (.int e), some (.int (nI W.2.1.1.2.1)), some (.int (nI (W.2.1.1.2.1 ^ (i + 1)))), some (.int (nI i)), u8] [] (HP sh (pM x m2)) ∧ MJ m m2 ∧ ∀ k, k < W.2.1.1.2.1 ^ (i + 1) → m2.2.1 40 k = gaC (gaEv W p q n (i + 1) k) := by
      intro f
      induction f with
      | zero =>
        intro c hc m1 u1 u2 u3 hJ h1 h2
        refine ⟨m1, some (.int (nI c)), ?_, hJ, fun k hk => h1 k (by omega)⟩
        have e1 : nI (i + 1) + (-1) = nI i := by
          rw [← nI_1, Int32.add_assoc]
          exact Int32.add_zero _
        rw [bX13_game_139, if_pos (nI_le (by omega) (by omega)), e1]
      | succ f ihf =>
        intro c hc m1 u1 u2 u3 hJ h1 h2
        have hb : W.2.1.1.2.1 * c + W.2.1.1.2.1 ≤ W.2.1.1.2.1 ^ (i + 1 + 1) := by
          rw [hk3, Nat.mul_comm (W.2.1.1.2.1 ^ (i + 1)), ← Nat.mul_succ]
          exact Nat.mul_le_mul_left _ (by omega)
        have hcc : c ≤ W.2.1.1.2.1 * c := Nat.le_mul_of_pos_left _ hP
        obtain ⟨a, a1, a2, a3, a4⟩ := i_best (L := L) (xs := xs) (x := x) (d + 58) hM (b := W.2.1.1.2.1 * c) hP (by omega) (e := fun j => gaEv W p q n (i + 1 + 1) (W.2.1.1.2.1 * c + j)) (fun j v hj => gaE_R hv hp hq hn (by omega) v hj) (fun j hj => h2 (W.2.1.1.2.1 * c + j) (by omega) (by omega)) (decide ((i + 1) % 2 = 0)) rfl
        have a3 : m1.2.1 40 (W.2.1.1.2.1 * c + a) = gaC (gaEv W p q n (i + 1) c) := a3.trans (ga_fold hv hp hq hi (c := c)).symm
        obtain ⟨m2, u8, p1, p2, p3⟩ := ihf (c + 1) (by omega) (mA m1 40 c (gaC (gaEv W p q n (i + 1) c))) none none none (MJ_A hJ rfl _ _) (fun k hk => by
          rw [mA_eq]
          by_cases hkc : k = c
          · rw [hkc, upd_at]
          · rw [upd_ne _ _ hkc]
            exact h1 k (by omega)) (fun k h3 h4 => by
          rw [mA_eq, upd_ne _ _ (show k ≠ c by omega)]
          exact h2 k (by omega) h4)
        refine ⟨m2, u8, ?_, p2, p3⟩
        have fin : ∀ t0, t0 = (if decide ((i + 1) % 2 = 0) = true then (1 : Int32) else 0) → RS (ZZ L xs) (d + 60) mX13_game 176 [some (.ref 259), none, none, none, some (.int e), some (.int (nI W.2.1.1.2.1)), some (.int (nI (W.2.1.1.2.1 ^ (i + 1)))), some (.int (nI (i + 1))), some (.int (nI c))] [.int t0, .int (nI W.2.1.1.2.1), .int (nI W.2.1.1.2.1 * nI c), .ref 259, .ref 300, .int (nI c), .ref 300] (HP sh (pM x m1)) = RS (ZZ L xs) (d + 60) mX13_game 124 [some (.ref 259), none, none, none, some (.int e), some (.int (nI W.2.1.1.2.1)), some (.int (nI (W.2.1.1.2.1 ^ (i + 1)))), some (.int (nI i)), u8] [] (HP sh (pM x m2)) := fun t0 ht => by
          rw [bX13_game_176 (hw3 := rfl) (hw4 := rfl) (hw6 := rfl), M_is hM, some_bind', pk_mul, ht, a2, some_bind', Me_plays hM (by omega), some_bind', a3, Mu_plays hM (by omega), some_bind', nI_1]
          exact p1
        rw [bX13_game_139, if_neg (nI_ge (by omega) (by omega)), M_plays hM, some_bind', some_bind', if_neg (by decide), r1]
        by_cases par : (i + 1) % 2 = 0
        · rw [if_neg (fun z => z (by rw [par]; rfl))]
          exact fin 1 (by rw [decide_eq_true par]; rfl)
        · rw [if_pos (show ¬ nI ((i + 1) % 2) = 0 from nI_ne0 (by omega) (by omega))]
          exact fin 0 (by rw [decide_eq_false par]; rfl)
    obtain ⟨m2, v8, p1, p2, p3⟩ := inner (W.2.1.1.2.1 ^ (i + 1)) 0 (by omega) m1 none none none hJ (fun k hk => absurd hk (by omega)) (fun k _ hk => hA k hk)
    obtain ⟨m3, q1, q2⟩ := ih (by omega) m2 none none none v8 p2 p3
    refine ⟨m3, ?_, q2⟩
    rw [bX13_game_124, if_neg (show ¬ nI (i + 1) ≤ 0 from nI_ge (a := 0) (by omega) (by omega)), if_neg (nI_ne0 (by omega) (by omega)), d1]
    exact p1.trans q1
end
end GAME4
