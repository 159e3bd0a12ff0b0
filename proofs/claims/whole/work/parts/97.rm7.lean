/-! rules in the model: the reader's loop -/
def catC : List (EL × EL) → EL
  | [] => []
  | q :: cl => q.1 ++ q.2 ++ catC cl
theorem catC_app (q : EL × EL) : ∀ cl, catC (cl ++ [q]) = catC cl ++ q.1 ++ q.2
  | [] => by
    show q.1 ++ q.2 ++ [] = [] ++ q.1 ++ q.2
    simp
  | a :: cl => by
    show a.1 ++ a.2 ++ catC (cl ++ [q]) = a.1 ++ a.2 ++ catC cl ++ q.1 ++ q.2
    rw [catC_app q cl]
    simp
def PAo (A : Nat → Nat → Int32) (sl : Nat) : Nat → Nat → List (EL × EL) → Prop
  | _, _, [] => True
  | k, o, q :: cl => (A 31 (12 * sl + k) = nI o ∧ A 32 (12 * sl + k) = nI (o + q.1.length) ∧ A 33 (12 * sl + k) = nI (o + q.1.length + q.2.length)) ∧ PAo A sl (k + 1) (o + q.1.length + q.2.length) cl
theorem PAo_cg {A B : Nat → Nat → Int32} {sl : Nat} : ∀ (cl : List (EL × EL)) (k o : Nat), (∀ a, (a = 31 ∨ a = 32 ∨ a = 33) → ∀ j, 12 * sl + k ≤ j → j < 12 * sl + k + cl.length → B a j = A a j) → PAo A sl k o cl → PAo B sl k o cl
  | [], _, _, _, _ => trivial
  | q :: cl, k, o, h, g => by
    have hl : (q :: cl).length = cl.length + 1 := rfl
    obtain ⟨⟨g1, g2, g3⟩, g4⟩ := g
    exact ⟨⟨(h 31 (by omega) _ (Nat.le_refl _) (by omega)).trans g1, (h 32 (by omega) _ (Nat.le_refl _) (by omega)).trans g2, (h 33 (by omega) _ (Nat.le_refl _) (by omega)).trans g3⟩, PAo_cg cl (k + 1) _ (fun a ha j h1 h2 => h a ha j (by omega) (by omega)) g4⟩
theorem PAo_app {A : Nat → Nat → Int32} {sl : Nat} (q : EL × EL) : ∀ (cl : List (EL × EL)) (k o : Nat), PAo A sl k o cl → (A 31 (12 * sl + (k + cl.length)) = nI (o + (catC cl).length) ∧ A 32 (12 * sl + (k + cl.length)) = nI (o + (catC cl).length + q.1.length) ∧ A 33 (12 * sl + (k + cl.length)) = nI (o + (catC cl).length + q.1.length + q.2.length)) → PAo A sl k o (cl ++ [q])
  | [], k, o, _, h => ⟨h, trivial⟩
  | a :: cl, k, o, g, h => by
    have e1 : k + (a :: cl).length = (k + 1) + cl.length := by
      show k + (cl.length + 1) = _
      omega
    have e2 : o + (catC (a :: cl)).length = (o + a.1.length + a.2.length) + (catC cl).length := by
      show o + (a.1 ++ a.2 ++ catC cl).length = _
      rw [List.length_append, List.length_append]
      omega
    rw [e1, e2] at h
    exact ⟨g.1, PAo_app q cl (k + 1) _ g.2 h⟩
section RM7
variable {L : Nat} {xs : Nat → Int32} {sh : List Sh} {x : ST} {T : TP} {sl : Nat}
noncomputable def RK (L : Nat) (xs : Nat → Int32) (sh : List Sh) (x : ST) (d n : Nat) (w : Int32) (M : MM) : Option (PH × Option Value) := RS (ZZ L xs) (d + 11) mX13_rule 27 [some (.ref 259), some (.int (nI n)), some (.int w)] [] (HP sh (pM x M))
theorem r_step (d : Nat) (hM : isMo sh) {n p f : Nat} {M m : MM} (h : cV (ZZ L xs) (d + 10) mX13_ruleClause [.ref 259, .int (nI n)] (HP sh (pM x M)) = some (HP sh (pM x (mS m p f)))) (hi : MTa m T) (hV : VTa T) (hp : p ≤ 450) (hf : f < 10000) : RK L xs sh x d n 1 M = RK L xs sh x d (n + 1) (z01 (decide (fz f (goE T (rn isB T p)) = 0 ∧ rn isB T p < T.1))) (mS m (rn isB T p + 1) (fz f (goE T (rn isB T p)))) := by
  unfold RK
  rw [bX13_rule_27, if_neg (by decide), M_is hM, some_bind', h, some_bind', M_is hM, some_bind', i_goesOM (d + 7) hM hi hV hp hf, some_bind', nI_1]
theorem v_rulesL (d : Nat) (hM : isMo sh) (hV : VTa T) : ∀ (f n : Nat) (m : MM) (p c : Nat) (cl : List (EL × EL)), f + n = 13 → n ≤ 12 → cl.length = n → MB m T sl → m.1 34 = 0 → p ≤ 450 → c ≤ 60 → 3 * (catC cl).length ≤ rn isB T p + 4 * c → PAo m.2.1 sl 0 0 cl → (∀ q, q ∈ cl → okC q) → (∃ e m' p' n', rRd T f n (rn isB T p) c cl = .inl e ∧ (0 < e ∧ e < 10000) ∧ RK L xs sh x d n 1 (mS (CR m sl (catC cl) c) p 0) = RK L xs sh x d n' 0 (mS m' p' e) ∧ RF2 m m' sl) ∨ ∃ cl' m' p' c', rRd T f n (rn isB T p) c cl = .inr cl' ∧ RK L xs sh x d n 1 (mS (CR m sl (catC cl) c) p 0) = RK L xs sh x d cl'.length 0 (mS (CR m' sl (catC cl') c') p' 0) ∧ RF2 m m' sl ∧ PAo m'.2.1 sl 0 0 cl' ∧ cl'.length ≤ 12 ∧ (catC cl').length < 300 ∧ ∀ q, q ∈ cl' → okC q := by
  have h400 := hV.1
  intro f
  induction f with
  | zero => intro n m p c cl h1 h2; omega
  | succ f ih =>
    intro n m p c cl hfn hn hcl hB h34 hp hc hlen hPA hok
    have hr : rn isB T p ≤ 450 := rn_top2 isB hp (by omega)
    have hrd : rRd T (f + 1) n (rn isB T p) c cl = sB (pR T n (rn isB T p) c) fun q => if T.1 ≤ q.1 then .inr (cl ++ [(q.2.2.1, q.2.2.2)]) else if Bt T q.1 = 59 then rRd T f (n + 1) (nx' T q.1) q.2.1 (cl ++ [(q.2.2.1, q.2.2.2)]) else .inl (ft q.1 0) := rfl
    rw [hrd]
    rcases v_rclauM (L := L) (xs := xs) (x := x) (p := p) (n := n) (l := catC cl) d hM hV hB h34 hp hc hn hlen with ⟨e, m', p', e1, e2, e3, e4, e5⟩ | ⟨q, m', p', e1, e2, e3, e4, e5, e6⟩
    · have hs := r_step (L := L) (xs := xs) (x := x) d hM e3 (MB_R e5 hB).1 hV e4 e2.2
      rw [fz_n _ (show e ≠ 0 by omega), show decide (e = 0 ∧ rn isB T p' < T.1) = false from decide_eq_false (fun z => by omega)] at hs
      exact Or.inl ⟨e, m', _, _, by rw [e1]; rfl, e2, hs, e5⟩
    · obtain ⟨k1, k2, -, k4, k5, k6, k7, k8⟩ := pR_in hc e1
      have rf := CLo_RF (show n < 12 by omega) e6
      have hB' := MB_R rf hB
      have hs := r_step (L := L) (xs := xs) (x := x) d hM e2 (MTa_CR hB') hV e3 (by decide)
      rw [e4, fz_z] at hs
      obtain ⟨c1, c2, c3, c4, c5⟩ := e6
      have hcat : catC (cl ++ [(q.2.2.1, q.2.2.2)]) = catC cl ++ q.2.2.1 ++ q.2.2.2 := catC_app _ cl
      have hcl2 : (catC cl ++ q.2.2.1 ++ q.2.2.2).length = (catC cl).length + q.2.2.1.length + q.2.2.2.length := by rw [List.length_append, List.length_append]
      have hln : (cl ++ [(q.2.2.1, q.2.2.2)]).length = n + 1 := by rw [List.length_append, hcl]; rfl
      have hPA2 : PAo m'.2.1 sl 0 0 (cl ++ [(q.2.2.1, q.2.2.2)]) := by
        refine PAo_app _ cl 0 0 (PAo_cg cl 0 0 (fun a ha j h1 h2 => ?_) hPA) ?_
        · rcases ha with rfl | rfl | rfl
          · rw [c3, upd_ne _ _ (by omega)]
          · rw [c4, upd_ne _ _ (by omega)]
          · rw [c5, upd_ne _ _ (by omega)]
        · rw [c3, c4, c5, hcl, Nat.zero_add, Nat.zero_add, upd_at, upd_at, upd_at]
          exact ⟨rfl, rfl, rfl⟩
      have hok2 : ∀ r, r ∈ cl ++ [(q.2.2.1, q.2.2.2)] → okC r := fun r hr => (List.mem_append.mp hr).elim (hok r) (fun z => by rw [List.mem_singleton.mp z]; exact k1)
      rw [e1]
      show (∃ e m' p' n', (if T.1 ≤ q.1 then .inr (cl ++ [(q.2.2.1, q.2.2.2)]) else if Bt T q.1 = 59 then rRd T f (n + 1) (nx' T q.1) q.2.1 (cl ++ [(q.2.2.1, q.2.2.2)]) else .inl (ft q.1 0)) = .inl e ∧ _) ∨ ∃ cl' m' p' c', (if T.1 ≤ q.1 then .inr (cl ++ [(q.2.2.1, q.2.2.2)]) else if Bt T q.1 = 59 then rRd T f (n + 1) (nx' T q.1) q.2.1 (cl ++ [(q.2.2.1, q.2.2.2)]) else .inl (ft q.1 0)) = .inr cl' ∧ _
      rw [← hcat] at hs hcl2
      by_cases hT : T.1 ≤ q.1
      · have hg : goE T q.1 = 0 := if_neg (fun z => by omega)
        rw [hg, show decide ((0 : Nat) = 0 ∧ q.1 < T.1) = false from decide_eq_false (fun z => by omega)] at hs
        rw [if_pos hT]
        exact Or.inr ⟨_, m', _, q.2.1, rfl, by rw [hln]; exact hs, rf, hPA2, by omega, by omega, hok2⟩
      · rw [if_neg hT]
        by_cases h59 : Bt T q.1 = 59
        · have hg : goE T q.1 = 0 := if_neg (fun z => z.2 h59)
          rw [hg, show decide ((0 : Nat) = 0 ∧ q.1 < T.1) = true from decide_eq_true ⟨rfl, by omega⟩] at hs
          rw [if_pos h59]
          have hnx : rn isB T (q.1 + 1) = nx' T q.1 := en_59 h59
          have hlt := nx_lt (show q.1 < T.1 by omega)
          have hi := ih (n + 1) m' (q.1 + 1) q.2.1 (cl ++ [(q.2.2.1, q.2.2.2)]) (by omega) (by omega) hln hB' e5 (by omega) k7 (by rw [hnx]; omega) hPA2 hok2
          rw [hnx] at hi
          have hs : RK L xs sh x d n 1 (mS (CR m sl (catC cl) c) p 0) = RK L xs sh x d (n + 1) 1 (mS (CR m' sl (catC (cl ++ [(q.2.2.1, q.2.2.2)])) q.2.1) (q.1 + 1) 0) := hs
          rw [hs]
          rcases hi with ⟨e, m3, p3, n3, y1, y2, y3, y4⟩ | ⟨cl3, m3, p3, c3', y1, y2, y3, y4⟩
          · exact Or.inl ⟨e, m3, p3, n3, y1, y2, y3, RF2_trans rf y4⟩
          · exact Or.inr ⟨cl3, m3, p3, c3', y1, y2, RF2_trans rf y3, y4⟩
        · have hg : goE T q.1 = ft q.1 0 := if_pos ⟨by omega, h59⟩
          have hft : 0 < ft q.1 0 ∧ ft q.1 0 < 10000 := by unfold ft; omega
          rw [hg, show decide (ft q.1 0 = 0 ∧ q.1 < T.1) = false from decide_eq_false (fun z => by omega)] at hs
          rw [if_neg h59]
          exact Or.inl ⟨_, _, _, _, rfl, hft, hs, RF2_trans rf (RF2_FRM (FRM_CR m' sl _ (by omega)))⟩
end RM7
