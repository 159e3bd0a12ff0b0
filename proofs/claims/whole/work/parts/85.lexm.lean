/-! texts in the model -/
def sgn (T : TP) (p : Nat) : Int32 := if p < T.1 then nI (T.2 p) else -1
theorem sb_255 : ∀ b : Fin 256, (nI b.val).toInt8.toInt32 &&& 255 = nI b.val := by decide +kernel
theorem sb_L : ∀ b : Fin 256, ((nI b.val).toInt8.toInt32 < 97 ∨ (122 : Int32) < (nI b.val).toInt8.toInt32) ↔ ¬ isL b.val = true := by decide +kernel
theorem sb_lo : ∀ b : Fin 128, (nI b.val).toInt8.toInt32 = nI b.val := by decide +kernel
theorem sb_hi : ∀ b : Fin 256, 128 ≤ b.val → (nI b.val).toInt8.toInt32 < 0 := by decide +kernel
theorem sb_eq {c b : Nat} (hc : c < 128) (hb : b < 256) : (nI b).toInt8.toInt32 = nI c ↔ b = c := by
  by_cases h : b < 128
  · rw [sb_lo ⟨b, h⟩]
    exact nI_eq (by omega) (by omega)
  · refine ⟨fun z => ?_, fun z => by omega⟩
    have := sb_hi ⟨b, hb⟩ (by show 128 ≤ b; omega)
    exact absurd (show nI c < 0 by rw [← z]; exact this) (nI_pos (by omega))
/-- the model at a place, with a fault -/
def mS (m : MM) (p f : Nat) : MM := ((fun k => if k = 29 then nI p else if k = 30 then nI f else m.1 k), m.2)
theorem mS_p (m : MM) (p f q : Nat) : mI (mS m p f) 29 (nI q) = mS m q f := by
  refine Prod.ext (funext fun k => ?_) rfl
  show (if k = 29 then nI q else (if k = 29 then nI p else if k = 30 then nI f else m.1 k)) = (if k = 29 then nI q else if k = 30 then nI f else m.1 k)
  by_cases h : k = 29
  · rw [if_pos h, if_pos h]
  · rw [if_neg h, if_neg h, if_neg h]
theorem mS_f (m : MM) (p f g : Nat) : mI (mS m p f) 30 (nI g) = mS m p g := by
  refine Prod.ext (funext fun k => ?_) rfl
  show (if k = 30 then nI g else (if k = 29 then nI p else if k = 30 then nI f else m.1 k)) = (if k = 29 then nI p else if k = 30 then nI g else m.1 k)
  by_cases h : k = 29
  · rw [if_pos h, if_pos h, if_neg (by omega)]
  · rw [if_neg h, if_neg h]
    by_cases h2 : k = 30
    · rw [if_pos h2, if_pos h2]
    · rw [if_neg h2, if_neg h2, if_neg h2]
theorem mS_I (m : MM) (p f : Nat) {k : Nat} (h1 : k ≠ 29) (h2 : k ≠ 30) (v : Int32) : mI (mS m p f) k v = mS (mI m k v) p f := by
  refine Prod.ext (funext fun j => ?_) rfl
  show (if j = k then v else (if j = 29 then nI p else if j = 30 then nI f else m.1 j)) = (if j = 29 then nI p else if j = 30 then nI f else (if j = k then v else m.1 j))
  by_cases h : j = k
  · rw [if_pos h, if_neg (by omega), if_neg (by omega), if_pos h]
  · rw [if_neg h, if_neg h]
theorem mS_A (m : MM) (p f a j : Nat) (v : Int32) : mA (mS m p f) a j v = mS (mA m a j v) p f := rfl
theorem MTa_S {m : MM} {T : TP} {p f : Nat} (h : MTa m T) : MTa (mS m p f) T := h
section LEXM
variable {L : Nat} {xs : Nat → Int32} {sh : List Sh} {x : ST} {m : MM} {T : TP} {p f : Nat}
theorem i_signM (d : Nat) (hM : isMo sh) (hi : MTa m T) (hV : VTa T) (hp : p < 1000) : cI (ZZ L xs) (d + 1) mX13_sign [.ref 259] (HP sh (pM x (mS m p f))) = some (HP sh (pM x (mS m p f)), sgn T p) := by
  have h400 := hV.1
  refine cI_of ?_
  show RS (ZZ L xs) (d + 1) mX13_sign 0 [some (.ref 259)] [] _ = _
  rw [bX13_sign_0, M_p hM, some_bind', M_taped hM, some_bind', show (mS m p f).1 29 = nI p from rfl, show (mS m p f).1 28 = nI T.1 from hi.1]
  unfold sgn
  by_cases h : p < T.1
  · rw [if_neg (nI_ge h (by omega)), if_pos h, M_tape hM, some_bind', some_bind', Me_tape hM (by omega), some_bind', bX13_sign_28, show (mS m p f).2.1 27 p = (nI (T.2 p)).toInt8.toInt32 from hi.2 p h, sb_255 ⟨T.2 p, hV.2 p h⟩]
  · rw [if_pos (nI_le (by omega) (by omega)), if_neg h, bX13_sign_28]
theorem sgn_eq (hV : VTa T) {c : Nat} (hc : c < 256) : sgn T p = nI c ↔ Bt T p = c := by
  unfold sgn Bt
  by_cases h : p < T.1
  · have := hV.2 p h
    rw [if_pos h, if_pos h]
    exact nI_eq (by omega) (by omega)
  · rw [if_neg h, if_neg h]
    refine ⟨fun z => ?_, fun z => by omega⟩
    exact absurd (show nI c < 0 by rw [← z]; decide) (nI_pos (by omega))
theorem v_blanksM (d : Nat) (hM : isMo sh) (hi : MTa m T) (hV : VTa T) : ∀ (g p : Nat), T.1 - p ≤ g → p < 1000 → cV (ZZ L xs) (d + 2) mX13_blanks [.ref 259] (HP sh (pM x (mS m p f))) = some (HP sh (pM x (mS m (rn isB T p) f))) := by
  have h400 := hV.1
  have go : ∀ (g p : Nat), T.1 - p ≤ g → p < 1000 → RS (ZZ L xs) (d + 2) mX13_blanks 0 [some (.ref 259)] [] (HP sh (pM x (mS m p f))) = some (HP sh (pM x (mS m (rn isB T p) f)), none) := by
    intro g
    induction g with
    | zero =>
      intro p hg hp
      have hn : ¬ Bt T p = 32 := by rw [Bt_ge (by omega)]; decide
      rw [bX13_blanks_0, M_is hM, some_bind', i_signM d hM hi hV hp, some_bind', if_pos (show ¬ sgn T p = 32 from fun z => hn ((sgn_eq hV (c := 32) (by decide)).mp z)), rn_neg (by decide) (fun q => hn (of_decide_eq_true q))]
    | succ g ih =>
      intro p hg hp
      rw [bX13_blanks_0, M_is hM, some_bind', i_signM d hM hi hV hp, some_bind']
      by_cases hb : Bt T p = 32
      · have hl := Bt_in (show Bt T p < 256 by rw [hb]; decide)
        rw [if_neg (fun z => z ((sgn_eq hV (c := 32) (by decide)).mpr hb)), M_p hM, some_bind', show (mS m p f).1 29 = nI p from rfl, nI_1, Mw_p hM, some_bind', mS_p, ih (p + 1) (by omega) (by omega), rn_pos (P := isB) (s := p) (by decide) (by rw [hb]; decide)]
      · rw [if_pos (show ¬ sgn T p = 32 from fun z => hb ((sgn_eq hV (c := 32) (by decide)).mp z)), rn_neg (by decide) (fun q => hb (of_decide_eq_true q))]
  exact fun g p h1 h2 => cV_of (go g p h1 h2)
theorem v_blM (d : Nat) (hM : isMo sh) (hi : MTa m T) (hV : VTa T) (hp : p < 1000) : cV (ZZ L xs) (d + 2) mX13_blanks [.ref 259] (HP sh (pM x (mS m p f))) = some (HP sh (pM x (mS m (rn isB T p) f))) := v_blanksM d hM hi hV _ p (Nat.le_refl _) hp
theorem i_digM (d : Nat) (hM : isMo sh) (hi : MTa m T) (hV : VTa T) (hp : p < 1000) : cI (ZZ L xs) (d + 2) mX13_isDigit [.ref 259] (HP sh (pM x (mS m p f))) = some (HP sh (pM x (mS m p f)), z01 (isD (Bt T p))) := by
  have h400 := hV.1
  have key : ((48 : Int64) ≤ (sgn T p).toInt64 ∧ (sgn T p).toInt64 ≤ (57 : Int64)) ↔ isD (Bt T p) = true := by
    rw [show (48 : Int64) = (48 : Int32).toInt64 from rfl, show (57 : Int64) = (57 : Int32).toInt64 from rfl, le64, le64]
    unfold sgn
    by_cases h : p < T.1
    · have := hV.2 p h
      rw [if_pos h, Bt_lt h, isD_iff, show (48 : Int32) = nI 48 from rfl, show (57 : Int32) = nI 57 from rfl, nI_leI (by decide) (by omega), nI_leI (by omega) (by decide)]
    · rw [if_neg h, Bt_ge (by omega)]
      decide
  refine cI_of ?_
  show RS (ZZ L xs) (d + 2) mX13_isDigit 0 [some (.ref 259)] [] _ = _
  rw [bX13_isDigit_0, M_is hM, some_bind', i_signM d hM hi hV hp, some_bind', i_in d, some_bind', b01_z key, if_pos (z01_or _)]
theorem i_stoodM (d : Nat) (hM : isMo sh) (hi : MTa m T) (hV : VTa T) (hp : p < 1000) {k : Nat} {w : List Nat} (hs : isS k w) (hw : w.length ≤ 100) (h0 : 0 < w.length) (hb : ∀ c, c ∈ w → c < 128) : cI (ZZ L xs) (d + 1) mX13_stood [.ref 259, .retAddr (k + 1)] (HP sh (pM x (mS m p f))) = some (HP sh (pM x (mS m p f)), z01 (wdIs T p w)) := by
  have h400 := hV.1
  have e28 : (mS m p f).1 28 = nI T.1 := hi.1
  have e29 : (mS m p f).1 29 = nI p := rfl
  have e27 : ∀ i, i < T.1 → (mS m p f).2.1 27 i = (nI (T.2 i)).toInt8.toInt32 := hi.2
  generalize mS m p f = M at *
  have l1 : ∀ (g e : Nat) (u3 u4 : Option Value), T.1 - e ≤ g → e < 1000 → RS (ZZ L xs) (d + 1) mX13_stood 5 [some (.ref 259), some (.retAddr (k + 1)), some (.int (nI e)), u3, u4] [] (HP sh (pM x M)) = RS (ZZ L xs) (d + 1) mX13_stood 41 [some (.ref 259), some (.retAddr (k + 1)), some (.int (nI (rn isL T e))), none, none] [] (HP sh (pM x M)) := by
    intro g
    induction g with
    | zero =>
      intro e u3 u4 hg he
      rw [bX13_stood_5 (hv1 := rfl), M_taped hM, some_bind', e28, if_pos (nI_le (by omega) (by omega)), rn_neg (by decide) (by rw [Bt_ge (by omega)]; decide)]
    | succ g ih =>
      intro e u3 u4 hg he
      rw [bX13_stood_5 (hv1 := rfl), M_taped hM, some_bind', e28]
      by_cases h : T.1 ≤ e
      · rw [if_pos (nI_le h (by omega)), rn_neg (by decide) (by rw [Bt_ge h]; decide)]
      · have hbt := hV.2 e (by omega)
        have hL : ((nI (T.2 e)).toInt8.toInt32 < 97 ∨ (122 : Int32) < (nI (T.2 e)).toInt8.toInt32) ↔ ¬ isL (T.2 e) = true := sb_L ⟨T.2 e, hbt⟩
        rw [if_neg (nI_ge (by omega) (by omega)), M_tape hM, some_bind', Me_tape hM (by omega), some_bind', e27 e (by omega)]
        by_cases q : isL (T.2 e) = true
        · rw [if_neg (fun z => hL.mp (Or.inl z) q), some_bind', Me_tape hM (by omega), some_bind', e27 e (by omega), if_neg (fun z => hL.mp (Or.inr z) q), nI_1, ih (e + 1) none none (by omega) (by omega), rn_pos (P := isL) (s := e) (by decide) (by rw [Bt_lt (by omega)]; exact q)]
        · rw [rn_neg (P := isL) (s := e) (by decide) (by rw [Bt_lt (by omega)]; exact q)]
          by_cases q2 : (nI (T.2 e)).toInt8.toInt32 < 97
          · rw [if_pos q2]
          · rw [if_neg q2, some_bind', Me_tape hM (by omega), some_bind', e27 e (by omega), if_pos]
            rcases hL.mpr q with z | z
            · exact absurd z q2
            · exact z
  have l2 : ∀ (v u : List Nat) (al : Bool) (u2 : Option Value), w = u ++ v → (al = true → p + w.length ≤ T.1) → RS (ZZ L xs) (d + 1) mX13_stood 63 [some (.ref 259), some (.retAddr (k + 1)), u2, some (.int (z01 al)), some (.int (nI u.length))] [] (HP sh (pM x M)) = some (HP sh (pM x M), some (.int (z01 (al && eqAt T (p + u.length) v)))) := by
    intro v
    induction v with
    | nil =>
      intro u al u2 hu ha
      rw [bX13_stood_63 (hv1 := rfl), sN_of hs, some_bind', if_pos (nI_le (by rw [hu]; simp) (by rw [hu] at hw; simp at hw; omega)), bX13_stood_109, if_pos (z01_or _)]
      unfold eqAt
      rw [Bool.and_true]
    | cons c v ih =>
      intro u al u2 hu ha
      have hul : u.length < w.length := by rw [hu, List.length_append, List.length_cons]; omega
      have hc : w.getD u.length 0 = c := by
        rw [hu, List.getD_eq_getElem?_getD]
        simp
      have hcb : c < 128 := hb c (by rw [hu]; simp)
      have hu2 : w = (u ++ [c]) ++ v := by rw [hu]; simp
      have hl2 : (u ++ [c]).length = u.length + 1 := by simp
      rw [bX13_stood_63 (hv1 := rfl), sN_of hs, some_bind', if_neg (nI_ge hul (by omega))]
      by_cases hal : al = true
      · have hlt : p + u.length < T.1 := by have := ha hal; omega
        have hbt := hV.2 _ hlt
        have hq := sb_eq hcb hbt
        have nxt : ∀ (t : Bool) (u3 : Option Value), RS (ZZ L xs) (d + 1) mX13_stood 102 [some (.ref 259), some (.retAddr (k + 1)), none, u3, some (.int (nI u.length))] [.int (z01 t)] (HP sh (pM x M)) = some (HP sh (pM x M), some (.int (z01 (t && eqAt T (p + u.length + 1) v)))) := fun t u3 => by
          have := ih (u ++ [c]) t none hu2 (fun _ => ha hal)
          rw [hl2] at this
          rw [bX13_stood_102 (hv1 := rfl), nI_1, this]
          rfl
        rw [if_neg (z1 hal), M_tape hM, some_bind', M_p hM, some_bind', e29, nI_add, Me_tape hM (by omega), some_bind', e27 _ hlt, sC_of hs hul (by omega), hc, some_bind', hal, Bool.true_and]
        show _ = some (HP sh (pM x M), some (Value.int (z01 (decide (Bt T (p + u.length) = c) && eqAt T (p + u.length + 1) v))))
        rw [Bt_lt hlt]
        by_cases e : T.2 (p + u.length) = c
        · rw [if_neg (fun z => z (hq.mpr e)), decide_eq_true e]
          exact nxt true _
        · rw [if_pos (fun z => e (hq.mp z)), decide_eq_false e]
          exact nxt false _
      · rw [if_pos (z0 hal), bX13_stood_109, if_pos (z01_or _), show al = false by cases al <;> simp_all, Bool.false_and]
  have h5 := l2 w []
  refine cI_of ?_
  show RS (ZZ L xs) (d + 1) mX13_stood 0 [some (.ref 259), some (.retAddr (k + 1)), none, none, none] [] _ = _
  have hpl := rn_le isL T p
  have hpt := rn_top2 isL (T := T) (s := p) (n := 1000) (by omega) (by omega)
  rw [bX13_stood_0 (hv1 := rfl), M_p hM, some_bind', e29, l1 _ p none none (Nat.le_refl _) hp, bX13_stood_41 (hv1 := rfl), M_p hM, some_bind', e29, sN_of hs, some_bind', nI_subN hpl]
  unfold wdIs
  by_cases e : rn isL T p = p + w.length
  · rw [if_neg (fun z => z (by rw [e, show p + w.length - p = w.length by omega])), bX13_stood_59 (hv1 := rfl), decide_eq_true e]
    refine l2 w [] true _ rfl (fun _ => ?_)
    by_cases hpT : p ≤ T.1
    · rw [← e]
      exact rn_top _ hpT
    · rw [rn_neg (by decide) (by rw [Bt_ge (by omega)]; decide)] at e
      omega
  · rw [if_pos (fun z => e (by have := (nI_eq (by omega) (by omega)).mp z; omega)), bX13_stood_59 (hv1 := rfl), decide_eq_false e]
    exact l2 w [] false _ rfl (fun z => by cases z)
/-- a fault: the first stays -/
def fz (f e : Nat) : Nat := if f = 0 then e else f
theorem v_failsM (d : Nat) (hM : isMo sh) (c q : Nat) (hf : f < 2 ^ 31) : cV (ZZ L xs) (d + 1) mX13_fails [.ref 259, .int (nI c), .int (nI q)] (HP sh (pM x (mS m p f))) = some (HP sh (pM x (mS m p (fz f (ft q c))))) := by
  refine cV_of ?_
  show RS (ZZ L xs) (d + 1) mX13_fails 0 [some (.ref 259), some (.int (nI c)), some (.int (nI q))] [] _ = _
  rw [bX13_fails_0, M_fault hM, some_bind', show (mS m p f).1 30 = nI f from rfl]
  unfold fz
  by_cases h : f = 0
  · rw [if_neg (fun z => z (by rw [h]; rfl)), if_pos h, ft_nI, bX13_fails_23 (hw1 := rfl), Mw_fault hM, some_bind', mS_f]
  · rw [if_pos (nI_ne0 (by omega) hf), if_neg h, some_bind', bX13_fails_23 (hw1 := rfl), Mw_fault hM, some_bind', mS_f]
/-- the digits: fault, or 0 -/
def dgE (T : TP) (p : Nat) : Nat := if isD (Bt T p) = true then (if rn isD T p - p ≤ 5 then 0 else ft p 1) else ft p 0
theorem fz_0 (f : Nat) : fz f 0 = f := by
  unfold fz
  split <;> omega
theorem i_digitsM (d : Nat) (hM : isMo sh) (hi : MTa m T) (hV : VTa T) (hp : p < 500) (hf : f < 2 ^ 31) : ∃ v, cI (ZZ L xs) (d + 3) mX13_digits [.ref 259, .int 99999] (HP sh (pM x (mS m p f))) = some (HP sh (pM x (mS m (rn isD T p) (fz f (dgE T p)))), v) ∧ (dgE T p = 0 → v = nI (nv T p)) := by
  have h400 := hV.1
  by_cases hd : isD (Bt T p) = true
  · have loop : ∀ (g q : Nat) (a : Nat), T.1 - q ≤ g → p ≤ q → q < 1000 → ∃ v, RS (ZZ L xs) (d + 3) mX13_digits 25 [some (.ref 259), some (.int 99999), some (.int (nI p)), some (.int (nI a))] [] (HP sh (pM x (mS m q f))) = (if (5 : Int32) < nI (rn isD T q) - nI p then RS (ZZ L xs) (d + 3) mX13_digits 87 [some (.ref 259), some (.int 99999), some (.int (nI p)), some (.int v)] [] (HP sh (pM x (mS m (rn isD T q) f))) else if v ≤ 99999 then RS (ZZ L xs) (d + 3) mX13_digits 93 [some (.ref 259), some (.int 99999), some (.int (nI p)), some (.int v)] [] (HP sh (pM x (mS m (rn isD T q) f))) else RS (ZZ L xs) (d + 3) mX13_digits 87 [some (.ref 259), some (.int 99999), some (.int (nI p)), some (.int v)] [] (HP sh (pM x (mS m (rn isD T q) f)))) ∧ (rn isD T q - p ≤ 5 → v = nI (nvF T (rn isD T q - q) q a)) := by
      intro g
      induction g with
      | zero =>
        intro q a hg hq hq2
        have hn : ¬ isD (Bt T q) = true := by rw [Bt_ge (by omega)]; decide
        refine ⟨nI a, ?_, fun _ => ?_⟩
        · rw [bX13_digits_25, M_is hM, some_bind', i_digM (d) hM hi hV (by omega), some_bind', if_pos (z0 hn), M_p hM, some_bind', show (mS m q f).1 29 = nI q from rfl, rn_neg (by decide) hn]
        · rw [rn_neg (by decide) hn, show q - q = 0 by omega]
          rfl
      | succ g ih =>
        intro q a hg hq hq2
        by_cases hn : isD (Bt T q) = true
        · have hl : q < T.1 := Bt_in (by have := isD_iff.mp hn; omega)
          have hdi := isD_iff.mp hn
          have hrq := rn_le isD T (q + 1)
          by_cases h5 : 5 ≤ q - p
          · obtain ⟨v, p1, p2⟩ := ih (q + 1) a (by omega) (by omega) (by omega)
            refine ⟨v, ?_, fun z => ?_⟩
            · rw [bX13_digits_25, M_is hM, some_bind', i_digM (d) hM hi hV (by omega), some_bind', if_neg (z1 hn), M_p hM, some_bind', show (mS m q f).1 29 = nI q from rfl, nI_subN hq, if_pos (show (5 : Int32) ≤ nI (q - p) from nI_le (a := 5) h5 (by omega)), bX13_digits_58, M_p hM, some_bind', show (mS m q f).1 29 = nI q from rfl, nI_1, Mw_p hM, some_bind', mS_p, p1, rn_pos (s := q) (by decide) hn]
            · rw [rn_pos (s := q) (by decide) hn] at z
              omega
          · obtain ⟨v, p1, p2⟩ := ih (q + 1) (a * 10 + (Bt T q - 48)) (by omega) (by omega) (by omega)
            refine ⟨v, ?_, fun z => ?_⟩
            · rw [bX13_digits_25, M_is hM, some_bind', i_digM (d) hM hi hV (by omega), some_bind', if_neg (z1 hn), M_p hM, some_bind', show (mS m q f).1 29 = nI q from rfl, nI_subN hq, if_neg (show ¬ (5 : Int32) ≤ nI (q - p) from nI_ge (b := 5) (by omega) (by omega)), M_is hM, some_bind', i_signM (d + 1) hM hi hV (by omega), some_bind', (sgn_eq hV (p := q) (c := Bt T q) (by omega)).mpr rfl, nI_10m, nI_add, show (48 : Int32) = nI 48 from rfl, nI_subN (by omega), bX13_digits_58, M_p hM, some_bind', show (mS m q f).1 29 = nI q from rfl, nI_1, Mw_p hM, some_bind', mS_p, show 10 * a + Bt T q - 48 = a * 10 + (Bt T q - 48) by omega, p1, rn_pos (s := q) (by decide) hn]
            · rw [rn_pos (s := q) (by decide) hn] at z ⊢
              rw [p2 z, show rn isD T (q + 1) - q = rn isD T (q + 1) - (q + 1) + 1 by omega]
              rfl
        · refine ⟨nI a, ?_, fun _ => ?_⟩
          · rw [bX13_digits_25, M_is hM, some_bind', i_digM (d) hM hi hV (by omega), some_bind', if_pos (z0 hn), M_p hM, some_bind', show (mS m q f).1 29 = nI q from rfl, rn_neg (by decide) hn]
          · rw [rn_neg (by decide) hn, show q - q = 0 by omega]
            rfl
    obtain ⟨v, p1, p2⟩ := loop _ p 0 (Nat.le_refl _) (Nat.le_refl _) (by omega)
    have hpl := rn_le isD T p
    have hpt := rn_top2 isD (T := T) (s := p) (n := 500) (by omega) (by omega)
    have start : CL (ZZ L xs) (d + 3) mX13_digits [.ref 259, .int 99999] (HP sh (pM x (mS m p f))) = RS (ZZ L xs) (d + 3) mX13_digits 25 [some (.ref 259), some (.int 99999), some (.int (nI p)), some (.int (nI 0))] [] (HP sh (pM x (mS m p f))) := by
      show RS (ZZ L xs) (d + 3) mX13_digits 0 [some (.ref 259), some (.int 99999), none, none] [] _ = _
      rw [bX13_digits_0, M_is hM, some_bind', i_digM (d) hM hi hV (by omega), some_bind', if_pos (z1 hd), M_p hM, some_bind']
      rfl
    refine ⟨v, cI_of ?_, fun z => ?_⟩
    · rw [start, p1, nI_subN hpl]
      unfold dgE
      rw [if_pos hd]
      by_cases h5 : rn isD T p - p ≤ 5
      · rw [if_neg (show ¬ (5 : Int32) < nI (rn isD T p - p) from nI_nlt (a := 5) h5 (by omega)), if_pos h5, fz_0, p2 h5]
        have := nv_lt h5
        rw [if_pos (show nI (nvF T (rn isD T p - p) p 0) ≤ 99999 from nI_le (b := 99999) (by show nv T p ≤ 99999; omega) (by decide)), bX13_digits_93]
      · rw [if_pos (show (5 : Int32) < nI (rn isD T p - p) from nI_lt (a := 5) (by omega) (by omega)), if_neg h5, bX13_digits_87, M_is hM, some_bind', show cV (ZZ L xs) (d + 2) mX13_fails [.ref 259, .int 1, .int (nI p)] (HP sh (pM x (mS m (rn isD T p) f))) = _ from v_failsM (d + 1) hM 1 p hf, some_bind', bX13_digits_93]
    · unfold dgE at z
      rw [if_pos hd] at z
      by_cases h5 : rn isD T p - p ≤ 5
      · exact p2 h5
      · rw [if_neg h5] at z
        unfold ft at z
        omega
  · refine ⟨0, cI_of ?_, fun z => ?_⟩
    · show RS (ZZ L xs) (d + 3) mX13_digits 0 [some (.ref 259), some (.int 99999), none, none] [] _ = _
      unfold dgE
      rw [bX13_digits_0, M_is hM, some_bind', i_digM (d) hM hi hV (by omega), some_bind', if_neg (fun z => z (z0 hd)), M_p hM, some_bind', show (mS m p f).1 29 = nI p from rfl, M_is hM, some_bind', show cV (ZZ L xs) (d + 2) mX13_fails [.ref 259, .int 0, .int (nI p)] (HP sh (pM x (mS m p f))) = _ from v_failsM (d + 1) hM 0 p hf, some_bind', if_neg hd, rn_neg (by decide) hd]
    · unfold dgE at z
      rw [if_neg hd] at z
      unfold ft at z
      omega
end LEXM
