/-! pence -/
theorem allF_b {s : SV} {np B : Nat} (hb : VB np s B) : ∀ (f p n : Nat), f + p ≤ 6 → ∃ k : Nat, k ≤ n + f * B ∧ allF s f p (nI n) = nI k
  | 0, _, n, _ => ⟨n, by omega, rfl⟩
  | f + 1, p, n, h => by
    obtain ⟨t, t1, t2⟩ := hb.2.1 p (by omega)
    obtain ⟨k, k1, k2⟩ := allF_b hb f (p + 1) (n + t) (by omega)
    refine ⟨k, ?_, ?_⟩
    · rw [Nat.add_mul]
      omega
    · show allF s f (p + 1) (nI n + s.2.2 3 p) = _
      rw [t2, nI_add, k2]
section PENCE
variable {L : Nat} {xs : Nat → Int32} {W : WD}
def penR (W : WD) (a : Nat) (T : Int32) (p : Nat) : Int32 := iRem (nI a * W.2.1.2.1.2.2 3 p) T
def penG (W : WD) (a q : Nat) (T : Int32) (p : Nat) (r : Int32 × Int32) : Int32 × Int32 := (r.1 - nI a * W.2.1.2.1.2.2 3 p / T, if penR W a T q < penR W a T p then r.2 + 1 else if ¬ penR W a T p = penR W a T q then r.2 else if nI q ≤ nI p then r.2 else r.2 + 1)
def penA (W : WD) (a q : Nat) (T : Int32) (r : Int32 × Int32) : Int32 := nI a * W.2.1.2.1.2.2 3 q / T + (if r.1 ≤ r.2 then 0 else 1)
theorem penR_b (hv : VW W) {a : Nat} (ha : a ≤ 9999) {T : Int32} {t : Nat} (hT : T = nI t) (h0 : 0 < t) (ht : t ≤ 30000) {p : Nat} (hp : p < 6) : ∃ k : Nat, k < 2 ^ 30 ∧ penR W a T p = nI k := by
  obtain ⟨c, c1, c2⟩ := (VB_now hv).2.1 p hp
  unfold penR
  have : a * c ≤ 9999 * 4995 := Nat.mul_le_mul ha c1
  rw [hT, c2, pk_mul, rem_nI (by omega) h0 (by omega)]
  have := Nat.mod_lt (a * c) h0
  exact ⟨_, by omega, rfl⟩
theorem pen_lt {a b : Int32} (ha : ∃ k : Nat, k < 2 ^ 30 ∧ a = nI k) (hb : ∃ k : Nat, k < 2 ^ 30 ∧ b = nI k) : (0 : Int32) < a - b ↔ b < a := by
  obtain ⟨i, i1, rfl⟩ := ha
  obtain ⟨j, j1, rfl⟩ := hb
  rw [Int32.lt_iff_toInt_lt, Int32.lt_iff_toInt_lt, nI_subI i1 j1, nI_toInt (by omega), nI_toInt (by omega)]
  show (0 : Int) < _ ↔ _
  omega
theorem pen_eq {a b : Int32} : a - b = 0 ↔ a = b := by
  constructor
  · intro h
    have : a - b + b = 0 + b := by rw [h]
    rwa [Int32.sub_add_cancel, Int32.zero_add] at this
  · intro h
    rw [h, Int32.sub_self]
theorem Sp_pence (hv : VW W) (a b : Int32) : Step L xs W mX12_pence mX13_pence [.int a, .int b] := by
  have h5 : W.2.1.1.2.2.2 ≤ 5 := hv.2.1.1.1.1.2.2.2
  have h6 : W.2.1.1.2.2.1 ≤ 6 := hv.2.1.1.1.1.2.1
  by_cases g1 : iN W.2.1.1.2.2.1 b = true
  rotate_left
  · refine ⟨W, -1, Xsame fun sh y d hx => ?_, Msame hv fun sh x m d hM hi => ?_⟩
    · show RS (ZZ L xs) (d + 60) mX12_pence 0 [some (.ref 0), some (.int a), some (.int b)] [] _ = _
      rw [bX12_pence_0, i_within, some_bind']
      by_cases g2 : wiB 0 9999 a = true
      · rw [if_neg (z1 g2), WM_is hx.1.1.1, some_bind', i_isPerson _ hx hv, some_bind', if_neg (fun z => z (z0 g1)), bX12_pence_19]
      · rw [if_pos (z0 g2), bX12_pence_19]
    · show RS (ZZ L xs) (d + 60) mX13_pence 0 [some (.ref 259), some (.int a), some (.int b), none, none, none, none, none] [] _ = _
      rw [bX13_pence_0, M_is hM, some_bind', i_personM _ hM hi hv, some_bind', if_pos (z0 g1), bX13_pence_20]
  obtain ⟨q, hq, rfl⟩ := iN_ex (by omega) g1
  by_cases g2 : wiB 0 9999 a = true
  rotate_left
  · refine ⟨W, -1, Xsame fun sh y d hx => ?_, Msame hv fun sh x m d hM hi => ?_⟩
    · show RS (ZZ L xs) (d + 60) mX12_pence 0 [some (.ref 0), some (.int a), some (.int (nI q))] [] _ = _
      rw [bX12_pence_0, i_within, some_bind', if_pos (z0 g2), bX12_pence_19]
    · show RS (ZZ L xs) (d + 60) mX13_pence 0 [some (.ref 259), some (.int a), some (.int (nI q)), none, none, none, none, none] [] _ = _
      rw [bX13_pence_0, M_is hM, some_bind', i_personM _ hM hi hv, some_bind', if_neg (z1 g1), i_inM _ (show (0 : Int64) = (0 : Int32).toInt64 from rfl) (show (9999 : Int64) = (9999 : Int32).toInt64 from rfl), some_bind', if_neg (fun z => z (z0 g2)), bX13_pence_20]
  obtain ⟨n, ln, hn, rfl⟩ := wiB_ex (lo := 0) (hi := 9999) rfl rfl (by decide) (by decide) g2
  obtain ⟨T, T1, T2⟩ := allF_b (VB_now hv) W.2.1.1.2.2.1 0 0 (by omega)
  have T2 : allF W.2.1.2.1 W.2.1.1.2.2.1 0 0 = nI T := T2
  have T1 : T ≤ 30000 := by
    have : W.2.1.1.2.2.1 * 4995 ≤ 6 * 4995 := Nat.mul_le_mul_right _ h6
    omega
  refine ⟨W, if nI T = 0 then 0 else penA W n q (nI T) (lp (penG W n q (nI T)) W.2.1.1.2.2.1 0 (nI n, 0)), Xsame fun sh y d hx => ?_, Msame hv fun sh x m d hM hi => ?_⟩
  · have hS : isSc sh 3 := hx.1.1.2.2.1
    have hW : isWM sh 0 := hx.1.1.1
    have hN : isSt sh 10 := hS.2.2.2.2.1
    obtain ⟨t0, t1, -, t2, -⟩ := Q_places hx hv
    have er : ∀ p, p < 6 → y.2.2.2.1 14 p = W.2.1.2.1.2.2 3 p := fun p hp => Xst hx (j := 3) (by decide) (show p < 6 from hp)
    show RS (ZZ L xs) (d + 60) mX12_pence 0 [some (.ref 0), some (.int (nI n)), some (.int (nI q))] [] _ = _
    have haf : cI (ZZ L xs) (d + 59) mX6_share [.ref 3, .int (nI n), .int (nI q)] (HP sh y) = some (HP sh y, if nI T = 0 then 0 else penA W n q (nI T) (lp (penG W n q (nI T)) W.2.1.1.2.2.1 0 (nI n, 0))) := by
      refine cI_of ?_
      show RS (ZZ L xs) (d + 59) mX6_share 0 [some (.ref 3), some (.int (nI n)), some (.int (nI q)), none, none, none, none, none, none] [] _ = _
      rw [bX6_share_0, Sc_state hS, some_bind', St_is hN, some_bind', i_allX _ hx hv, some_bind', T2]
      by_cases h0 : nI T = 0
      · rw [if_neg (fun z => z h0), if_pos h0]
      · have hT0 : 0 < T := by
          rcases Nat.eq_zero_or_pos T with h | h
          · exact absurd (by rw [h]; rfl) h0
          · exact h
        rw [if_pos h0, if_neg h0]
        have loop : ∀ (f p : Nat), f + p = W.2.1.1.2.2.1 → ∀ (r : Int32 × Int32) (u8 : Option Value), RS (ZZ L xs) (d + 59) mX6_share 38 [some (.ref 3), some (.int (nI n)), some (.int (nI q)), some (.int (nI T)), some (.int r.1), some (.int r.2), some (.int (penR W n (nI T) q)), some (.int (nI p)), u8] [] (HP sh y) = some (HP sh y, some (.int (penA W n q (nI T) (lp (penG W n q (nI T)) f p r)))) := by
          intro f
          induction f with
          | zero =>
            intro p hp r u8
            rw [bX6_share_38, t1, some_bind', t2, some_bind', if_pos (nI_le (by omega) (by omega))]
            simp (disch := omega) only [Sc_state hS, Sc_past hS, Sc_force hS, Sc_x hS, Sc_notes hS, Sc_noteHour hS, Sc_noteStranger hS, Sc_notePerson hS, Scw_town hS, Scw_force hS, Scw_x hS, Scw_notes hS, Sc_is hS, Sce_noteHour hS, Sce_noteStranger hS, Sce_notePerson hS, Scu_noteHour hS, Scu_noteStranger hS, Scu_notePerson hS, WM_tape hW, WM_townReader hW, WM_ruleReader hW, WM_rules hW, WM_ruleCount hW, WM_now hW, WM_images hW, WM_clock hW, WM_outlook hW, WM_history hW, WMw_ruleCount hW, WMw_blankRule hW, WM_is hW, St_hour hN, St_chain hN, St_come hN, St_open hN, St_place hN, St_kind hN, St_asked hN, St_total hN, St_chains hN, St_at hN, St_before hN, Stw_hour hN, Stw_chain hN, Stw_come hN, Stw_open hN, St_is hN, Ste_place hN, Ste_kind hN, Ste_asked hN, Ste_total hN, Ste_chains hN, Ste_at hN, Ste_before hN, Stu_place hN, Stu_kind hN, Stu_asked hN, Stu_total hN, Stu_chains hN, Stu_at hN, Stu_before hN, some_bind', er q (by omega)]
            rw [if_neg h0]
            show _ = some (HP sh y, some (Value.int (penA W n q (nI T) r)))
            unfold penA
            by_cases hle : r.1 ≤ r.2
            · rw [if_pos hle, if_pos hle, bX6_share_139]
            · rw [if_neg hle, if_neg hle, bX6_share_139]
          | succ f ih =>
            intro p hp r u8
            rw [bX6_share_38, t1, some_bind', t2, some_bind', if_neg (nI_ge (by omega) (by omega))]
            simp (disch := omega) only [Sc_state hS, Sc_past hS, Sc_force hS, Sc_x hS, Sc_notes hS, Sc_noteHour hS, Sc_noteStranger hS, Sc_notePerson hS, Scw_town hS, Scw_force hS, Scw_x hS, Scw_notes hS, Sc_is hS, Sce_noteHour hS, Sce_noteStranger hS, Sce_notePerson hS, Scu_noteHour hS, Scu_noteStranger hS, Scu_notePerson hS, WM_tape hW, WM_townReader hW, WM_ruleReader hW, WM_rules hW, WM_ruleCount hW, WM_now hW, WM_images hW, WM_clock hW, WM_outlook hW, WM_history hW, WMw_ruleCount hW, WMw_blankRule hW, WM_is hW, St_hour hN, St_chain hN, St_come hN, St_open hN, St_place hN, St_kind hN, St_asked hN, St_total hN, St_chains hN, St_at hN, St_before hN, Stw_hour hN, Stw_chain hN, Stw_come hN, Stw_open hN, St_is hN, Ste_place hN, Ste_kind hN, Ste_asked hN, Ste_total hN, Ste_chains hN, Ste_at hN, Ste_before hN, Stu_place hN, Stu_kind hN, Stu_asked hN, Stu_total hN, Stu_chains hN, Stu_at hN, Stu_before hN, some_bind', er p (by omega)]
            rw [if_neg h0, if_neg h0]
            show _ = some (HP sh y, some (Value.int (penA W n q (nI T) (lp (penG W n q (nI T)) f (p + 1) (penG W n q (nI T) p r)))))
            rw [show iRem (nI n * W.2.1.2.1.2.2 3 p) (nI T) = penR W n (nI T) p from rfl]
            have key : ∀ e2, penG W n q (nI T) p r = (r.1 - nI n * W.2.1.2.1.2.2 3 p / nI T, e2) → RS (ZZ L xs) (d + 59) mX6_share 38 [some (.ref 3), some (.int (nI n)), some (.int (nI q)), some (.int (nI T)), some (.int (r.1 - nI n * W.2.1.2.1.2.2 3 p / nI T)), some (.int e2), some (.int (penR W n (nI T) q)), some (.int (nI (p + 1))), none] [] (HP sh y) = some (HP sh y, some (.int (penA W n q (nI T) (lp (penG W n q (nI T)) f (p + 1) (penG W n q (nI T) p r))))) := fun e2 he => by
              rw [he]
              exact ih (p + 1) (by omega) (r.1 - nI n * W.2.1.2.1.2.2 3 p / nI T, e2) none
            by_cases c1 : penR W n (nI T) q < penR W n (nI T) p
            · rw [if_pos c1, bX6_share_105, bX6_share_108, nI_1]
              exact key _ (by unfold penG; rw [if_pos c1])
            · rw [if_neg c1]
              by_cases c2 : penR W n (nI T) p = penR W n (nI T) q
              · rw [if_neg (fun z => z c2)]
                by_cases c3 : nI q ≤ nI p
                · rw [if_pos c3, bX6_share_108, nI_1]
                  exact key _ (by unfold penG; rw [if_neg c1, if_neg (fun z => z c2), if_pos c3])
                · rw [if_neg c3, bX6_share_105, bX6_share_108, nI_1]
                  exact key _ (by unfold penG; rw [if_neg c1, if_neg (fun z => z c2), if_neg c3])
              · rw [if_pos c2, bX6_share_108, nI_1]
                exact key _ (by unfold penG; rw [if_neg c1, if_pos c2])
        simp (disch := omega) only [Sc_state hS, Sc_past hS, Sc_force hS, Sc_x hS, Sc_notes hS, Sc_noteHour hS, Sc_noteStranger hS, Sc_notePerson hS, Scw_town hS, Scw_force hS, Scw_x hS, Scw_notes hS, Sc_is hS, Sce_noteHour hS, Sce_noteStranger hS, Sce_notePerson hS, Scu_noteHour hS, Scu_noteStranger hS, Scu_notePerson hS, WM_tape hW, WM_townReader hW, WM_ruleReader hW, WM_rules hW, WM_ruleCount hW, WM_now hW, WM_images hW, WM_clock hW, WM_outlook hW, WM_history hW, WMw_ruleCount hW, WMw_blankRule hW, WM_is hW, St_hour hN, St_chain hN, St_come hN, St_open hN, St_place hN, St_kind hN, St_asked hN, St_total hN, St_chains hN, St_at hN, St_before hN, Stw_hour hN, Stw_chain hN, Stw_come hN, Stw_open hN, St_is hN, Ste_place hN, Ste_kind hN, Ste_asked hN, Ste_total hN, Ste_chains hN, Ste_at hN, Ste_before hN, Stu_place hN, Stu_kind hN, Stu_asked hN, Stu_total hN, Stu_chains hN, Stu_at hN, Stu_before hN, some_bind', er q (by omega)]
        rw [if_neg h0]
        exact loop W.2.1.1.2.2.1 0 (by omega) (nI n, 0) none
    rw [bX12_pence_0, i_within, some_bind', if_neg (z1 g2), WM_is hx.1.1.1, some_bind', i_isPerson _ hx hv, some_bind', if_pos (z1 g1), WM_now hW, some_bind', Sc_is hS, some_bind', haf, some_bind']
  · have er : ∀ p, p < W.2.1.1.2.2.1 → m.2.1 4 p = W.2.1.2.1.2.2 3 p := fun p hp => Md_all hi.2.1.2.1.2 hp
    show RS (ZZ L xs) (d + 60) mX13_pence 0 [some (.ref 259), some (.int (nI n)), some (.int (nI q)), none, none, none, none, none] [] _ = _
    rw [bX13_pence_0, M_is hM, some_bind', i_personM _ hM hi hv, some_bind', if_neg (z1 g1), i_inM _ (show (0 : Int64) = (0 : Int32).toInt64 from rfl) (show (9999 : Int64) = (9999 : Int32).toInt64 from rfl), some_bind', if_pos (z1 g2), M_is hM, some_bind', i_allM _ hM hi.2.1.1.1.2.2.1 h6 hi.2.1.2.1.2, some_bind', T2]
    by_cases h0 : nI T = 0
    · rw [if_neg (fun z => z h0), if_pos h0]
    · have hT0 : 0 < T := by
        rcases Nat.eq_zero_or_pos T with h | h
        · exact absurd (by rw [h]; rfl) h0
        · exact h
      rw [if_pos h0, if_neg h0]
      have loop : ∀ (f p : Nat), f + p = W.2.1.1.2.2.1 → ∀ (r : Int32 × Int32) (u7 : Option Value), RS (ZZ L xs) (d + 60) mX13_pence 42 [some (.ref 259), some (.int (nI n)), some (.int (nI q)), some (.int (nI T)), some (.int r.1), some (.int r.2), some (.int (nI p)), u7] [] (HP sh (pM x m)) = some (HP sh (pM x m), some (.int (penA W n q (nI T) (lp (penG W n q (nI T)) f p r)))) := by
        intro f
        induction f with
        | zero =>
          intro p hp r u7
          rw [bX13_pence_42, M_scalar hM, some_bind', eI_l2, Me_scalar hM (by decide), some_bind', hi.2.1.1.1.2.2.1, if_pos (nI_le (by omega) (by omega)), M_askedAll hM, some_bind', Me_askedAll hM (by omega), some_bind', er q hq, if_neg h0]
          show _ = some (HP sh (pM x m), some (Value.int (penA W n q (nI T) r)))
          unfold penA
          by_cases hle : r.1 ≤ r.2
          · rw [if_pos hle, if_pos hle, bX13_pence_147]
          · rw [if_neg hle, if_neg hle, bX13_pence_147]
        | succ f ih =>
          intro p hp r u7
          rw [bX13_pence_42, M_scalar hM, some_bind', eI_l2, Me_scalar hM (by decide), some_bind', hi.2.1.1.1.2.2.1, if_neg (nI_ge (by omega) (by omega))]
          simp (disch := omega) only [M_askedAll hM, Me_askedAll hM, some_bind', er q hq, er p (show p < _ by omega), if_neg h0]
          show _ = some (HP sh (pM x m), some (Value.int (penA W n q (nI T) (lp (penG W n q (nI T)) f (p + 1) (penG W n q (nI T) p r)))))
          rw [show iRem (nI n * W.2.1.2.1.2.2 3 p) (nI T) = penR W n (nI T) p from rfl, show iRem (nI n * W.2.1.2.1.2.2 3 q) (nI T) = penR W n (nI T) q from rfl]
          have hlt := pen_lt (penR_b hv hn (T := nI T) rfl hT0 T1 (p := p) (by omega)) (penR_b hv hn (T := nI T) rfl hT0 T1 (p := q) (by omega))
          have key : ∀ e2, penG W n q (nI T) p r = (r.1 - nI n * W.2.1.2.1.2.2 3 p / nI T, e2) → RS (ZZ L xs) (d + 60) mX13_pence 42 [some (.ref 259), some (.int (nI n)), some (.int (nI q)), some (.int (nI T)), some (.int (r.1 - nI n * W.2.1.2.1.2.2 3 p / nI T)), some (.int e2), some (.int (nI (p + 1))), none] [] (HP sh (pM x m)) = some (HP sh (pM x m), some (.int (penA W n q (nI T) (lp (penG W n q (nI T)) f (p + 1) (penG W n q (nI T) p r))))) := fun e2 he => by
            rw [he]
            exact ih (p + 1) (by omega) (r.1 - nI n * W.2.1.2.1.2.2 3 p / nI T, e2) none
          by_cases c1 : penR W n (nI T) q < penR W n (nI T) p
          · rw [if_pos (hlt.mpr c1), bX13_pence_111, bX13_pence_116, nI_1]
            exact key _ (by unfold penG; rw [if_pos c1])
          · rw [if_neg (fun z => c1 (hlt.mp z))]
            by_cases c2 : penR W n (nI T) p = penR W n (nI T) q
            · rw [if_neg (fun z => z (pen_eq.mpr c2))]
              by_cases c3 : nI q ≤ nI p
              · rw [if_pos c3, bX13_pence_115, bX13_pence_116, nI_1, Int32.add_zero]
                exact key _ (by unfold penG; rw [if_neg c1, if_neg (fun z => z c2), if_pos c3])
              · rw [if_neg c3, bX13_pence_111, bX13_pence_116, nI_1]
                exact key _ (by unfold penG; rw [if_neg c1, if_neg (fun z => z c2), if_neg c3])
            · rw [if_pos (fun z => c2 (pen_eq.mp z)), bX13_pence_115, bX13_pence_116, nI_1, Int32.add_zero]
              exact key _ (by unfold penG; rw [if_neg c1, if_pos c2])
      exact loop W.2.1.1.2.2.1 0 (by omega) (nI n, 0) none
end PENCE
