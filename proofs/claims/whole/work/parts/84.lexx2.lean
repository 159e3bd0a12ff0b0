/-! signs, words, numbers of the class's tape -/
theorem nI_subN {a b : Nat} (h : b ≤ a) : nI a - nI b = nI (a - b) := by
  have e := nI_add (a - b) b
  rw [show a - b + b = a by omega] at e
  rw [← e]
  exact Int32.add_sub_cancel _ _
theorem char_u : ∀ b : Fin 256, (((nI b.val).toUInt32 % 65536).toInt32) = nI b.val ∧ 0 ≤ nI b.val ∧ nI b.val < 256 := by decide +kernel
theorem kd_sg {T : TP} {s c : Nat} (h : Bt T s = c) (h1 : isL c = false) (h2 : isD c = false) (h3 : c < 256) : kd T s = 3 ∧ s < T.1 := by
  have hs : s < T.1 := Bt_in (by omega)
  refine ⟨?_, hs⟩
  unfold kd
  rw [if_neg (by omega), h, h1, h2]
  rfl
def sgA (T : TP) (s : Nat) (w : List Nat) : Int32 := if kd T s = 3 ∧ Bt T s ∈ w then nI (Bt T s) + (if jE T s = true then 256 else 0) else -1
def waF (T : TP) (s e : Nat) : List Nat → Nat → Nat → Bool → Int32
  | [], _, _, _ => -1
  | c :: w, q, i, al => if c = 32 then (if al = true ∧ i = e then nI q else waF T s e w (q + 1) s true) else waF T s e w q (i + 1) (al && (decide (i < e) && decide (Bt T i = c)))
def jn : List (List Nat) → List Nat
  | [] => []
  | w :: ws => w ++ 32 :: jn ws
def wix (T : TP) (s : Nat) : List (List Nat) → Nat → Int32
  | [], _ => -1
  | w :: ws, q => if wdIs T s w = true then nI q else wix T s ws (q + 1)
theorem waF_w {T : TP} {s e : Nat} (rest : List Nat) (q : Nat) : ∀ (w : List Nat) (i : Nat) (al : Bool), (∀ c, c ∈ w → c ≠ 32) → waF T s e (w ++ 32 :: rest) q i al = if al = true ∧ (i + w.length = e ∧ eqAt T i w = true) then nI q else waF T s e rest (q + 1) s true := by
  intro w
  induction w with
  | nil =>
    intro i al _
    show (if 32 = 32 then (if al = true ∧ i = e then nI q else waF T s e rest (q + 1) s true) else _) = _
    rw [if_pos rfl]
    by_cases h : al = true ∧ i = e
    · rw [if_pos h, if_pos ⟨h.1, h.2, rfl⟩]
    · rw [if_neg h, if_neg (fun z => h ⟨z.1, z.2.1⟩)]
  | cons c w ih =>
    intro i al hc
    show (if c = 32 then _ else waF T s e (w ++ 32 :: rest) q (i + 1) (al && (decide (i < e) && decide (Bt T i = c)))) = _
    rw [if_neg (hc c List.mem_cons_self), ih (i + 1) _ (fun x hx => hc x (List.mem_cons_of_mem _ hx))]
    have key : ((al && (decide (i < e) && decide (Bt T i = c))) = true ∧ (i + 1 + w.length = e ∧ eqAt T (i + 1) w = true)) ↔ (al = true ∧ (i + (c :: w).length = e ∧ eqAt T i (c :: w) = true)) := by
      rw [List.length_cons, eqAt_c, Bool.and_eq_true, Bool.and_eq_true, Bool.and_eq_true, decide_eq_true_iff, decide_eq_true_iff]
      constructor
      · rintro ⟨⟨a1, a2, a3⟩, a4, a5⟩
        exact ⟨a1, by omega, a3, a5⟩
      · rintro ⟨a1, a2, a3, a4⟩
        exact ⟨⟨a1, by omega, a3⟩, by omega, a4⟩
    by_cases h : al = true ∧ (i + (c :: w).length = e ∧ eqAt T i (c :: w) = true)
    · rw [if_pos h, if_pos (key.mpr h)]
    · rw [if_neg h, if_neg (fun z => h (key.mp z))]
theorem waF_jn {T : TP} {s : Nat} (hk : kd T s = 1) : ∀ (ws : List (List Nat)) (q : Nat), (∀ w, w ∈ ws → ∀ c, c ∈ w → c ≠ 32) → waF T s (en T s) (jn ws) q s true = wix T s ws q := by
  have he : en T s = rn isL T s := by
    unfold en
    rw [if_neg (by omega), if_pos hk]
  intro ws
  induction ws with
  | nil => intro q _; rfl
  | cons w ws ih =>
    intro q hc
    show waF T s (en T s) (w ++ 32 :: jn ws) q s true = (if wdIs T s w = true then nI q else wix T s ws (q + 1))
    rw [waF_w _ _ _ _ _ (hc w List.mem_cons_self), ih (q + 1) (fun v hv => hc v (List.mem_cons_of_mem _ hv))]
    have key : (true = true ∧ (s + w.length = en T s ∧ eqAt T s w = true)) ↔ wdIs T s w = true := by
      unfold wdIs
      rw [Bool.and_eq_true, decide_eq_true_iff, he]
      exact ⟨fun z => ⟨z.2.1.symm, z.2.2⟩, fun z => ⟨rfl, z.1.symm, z.2⟩⟩
    by_cases h : wdIs T s w = true
    · rw [if_pos h, if_pos (key.mpr h)]
    · rw [if_neg h, if_neg (fun z => h (key.mp z))]
theorem wix_no {T : TP} {s : Nat} (hk : ¬ kd T s = 1) : ∀ (ws : List (List Nat)) (q : Nat), (∀ w, w ∈ ws → w ≠ []) → wix T s ws q = -1 := by
  intro ws
  induction ws with
  | nil => intro q _; rfl
  | cons w ws ih =>
    intro q hc
    show (if wdIs T s w = true then nI q else wix T s ws (q + 1)) = _
    rw [wdIs_kd (hc w List.mem_cons_self) hk, if_neg (by decide), ih (q + 1) (fun v hv => hc v (List.mem_cons_of_mem _ hv))]
section LEXX2
variable {L : Nat} {xs : Nat → Int32} {sh : List Sh} {y : ST} {T : TP}
theorem i_signA (d : Nat) (hT : isTa sh 1) (hV : VTa T) {s k : Nat} {w : List Nat} {f : Int32} (hs : isS k w) (hw : w.length < 2 ^ 31) (hb : ∀ x, x ∈ w → x < 2 ^ 31) (hx : TSt y T s f) : cI (ZZ L xs) (d + 1) mX8_signAmong [.ref 1, .retAddr (k + 1)] (HP sh y) = some (HP sh y, sgA T s w) := by
  obtain ⟨a, b, h5, e, g, i⟩ := hx
  have h400 := hV.1
  have k3 := kd_3 T s
  refine cI_of ?_
  show RS (ZZ L xs) (d + 1) mX8_signAmong 0 [some (.ref 1), some (.retAddr (k + 1))] [] _ = _
  rw [bX8_signAmong_0 (hv1 := rfl), Ta_kind hT, some_bind', e]
  unfold sgA
  by_cases h3 : kd T s = 3
  · have hl : s < T.1 := Nat.lt_of_not_le (fun q => by have := kd_0.mpr q; omega)
    have hby := hV.2 s hl
    have hc := char_u ⟨T.2 s, hby⟩
    have he : en T s = if jE T s = true then s + 2 else s + 1 := by
      unfold en
      rw [h3, if_neg (by decide), if_neg (by decide), if_neg (by decide)]
    rw [if_neg (fun z => z (by rw [h3]; rfl)), Ta_bytes hT, some_bind', Ta_start hT, some_bind', h5, Tae_bytes hT _ (by omega), some_bind', show y.2.2.2.1 (1 + 1) s = nI (T.2 s) from a.2 s hl, hc.1]
    have hF : sF (ZZ L xs) (.retAddr (k + 1)) (nI (T.2 s)) = some (sIx w.length (fun j => nI (w.getD j 0)) (nI (T.2 s)) w.length 0) := by
      show (oJ (ZZ L xs) k).bind _ = _
      rw [oJ_of hs, some_bind', if_pos ⟨hc.2.1, hc.2.2⟩]
    rw [hF, some_bind']
    have hm : 0 ≤ sIx w.length (fun j => nI (w.getD j 0)) (nI (T.2 s)) w.length 0 ↔ T.2 s ∈ w := sIx_of (w := w) w.length (T.2 s) (by omega) [] hb hw w rfl
    rw [Bt_lt hl]
    by_cases q : T.2 s ∈ w
    · rw [if_pos (hm.mpr q), if_pos ⟨h3, q⟩, some_bind', some_bind', Tae_bytes hT _ (by omega), some_bind', show y.2.2.2.1 (1 + 1) s = nI (T.2 s) from a.2 s hl, Ta_behind hT, some_bind', g, some_bind', he]
      by_cases hj : jE T s = true
      · rw [if_pos hj, if_pos hj, nI_subN (by omega), if_neg (fun z => z (by rw [show s + 2 - s = 2 by omega]; rfl)), bX8_signAmong_56]
      · rw [if_neg hj, if_neg hj, nI_subN (by omega), if_pos (by rw [show s + 1 - s = 1 by omega]; decide), bX8_signAmong_56]
    · rw [if_neg (fun z => q (hm.mp z)), if_neg (fun z => q z.2), bX8_signAmong_25]
  · rw [if_pos (show ¬ nI (kd T s) = 3 from fun z => h3 ((nI_eq (b := 3) (by omega) (by decide)).mp z)), bX8_signAmong_25, if_neg (fun z => h3 z.1)]
theorem i_wordA (d : Nat) (hT : isTa sh 1) (hV : VTa T) {s k : Nat} {w : List Nat} {f : Int32} (hs : isS k w) (hw : w.length ≤ 100) (hb : ∀ x, x ∈ w → x < 2 ^ 31) (hx : TSt y T s f) : cI (ZZ L xs) (d + 1) mX8_wordAmong [.ref 1, .retAddr (k + 1)] (HP sh y) = some (HP sh y, if kd T s = 1 then waF T s (en T s) w 0 s true else -1) := by
  obtain ⟨a, b, h5, e, g, i⟩ := hx
  have h400 := hV.1
  have k3 := kd_3 T s
  have hel := en_le b
  have loop : ∀ (v u : List Nat) (q i : Nat) (al : Bool) (u6 : Option Value), w = u ++ v → q ≤ u.length → i ≤ 400 + u.length → RS (ZZ L xs) (d + 1) mX8_wordAmong 23 [some (.ref 1), some (.retAddr (k + 1)), some (.int (nI q)), some (.int (nI i)), some (.int (z01 al)), some (.int (nI u.length)), u6] [] (HP sh y) = some (HP sh y, some (.int (waF T s (en T s) v q i al))) := by
    intro v
    induction v with
    | nil =>
      intro u q i al u6 hu hq hi
      rw [bX8_wordAmong_23 (hv1 := rfl), sN_of hs, some_bind', if_pos (nI_le (by rw [hu]; simp) (by rw [hu] at hw; simp at hw; omega))]
      rfl
    | cons c v ih =>
      intro u q i al u6 hu hq hi
      have hul : u.length < w.length := by rw [hu, List.length_append, List.length_cons]; omega
      have hc : w.getD u.length 0 = c := by
        rw [hu, List.getD_eq_getElem?_getD]
        simp
      have hcb : c < 2 ^ 31 := hb c (by rw [hu]; simp)
      have hu2 : w = (u ++ [c]) ++ v := by rw [hu]; simp
      have hl2 : (u ++ [c]).length = u.length + 1 := by simp
      have nxt : ∀ (q i : Nat) (al : Bool), q ≤ u.length + 1 → i ≤ 400 + (u.length + 1) → RS (ZZ L xs) (d + 1) mX8_wordAmong 110 [some (.ref 1), some (.retAddr (k + 1)), some (.int (nI q)), some (.int (nI i)), some (.int (z01 al)), some (.int (nI u.length)), none] [] (HP sh y) = some (HP sh y, some (.int (waF T s (en T s) v q i al))) := fun q i al h1 h2 => by
        have := ih (u ++ [c]) q i al none hu2 (by rw [hl2]; exact h1) (by rw [hl2]; exact h2)
        rw [hl2] at this
        rw [bX8_wordAmong_110 (hv1 := rfl), nI_1, this]
      rw [bX8_wordAmong_23 (hv1 := rfl), sN_of hs, some_bind', if_neg (nI_ge hul (by omega)), sC_of hs hul (by omega), hc, some_bind']
      show _ = some (HP sh y, some (Value.int (if c = 32 then (if al = true ∧ i = en T s then nI q else waF T s (en T s) v (q + 1) s true) else waF T s (en T s) v q (i + 1) (al && (decide (i < en T s) && decide (Bt T i = c))))))
      by_cases c32 : c = 32
      · rw [if_pos (show nI c = 32 by rw [c32]; rfl), if_pos c32]
        have b99 : ∀ (u3 u4 u6 : Option Value), RS (ZZ L xs) (d + 1) mX8_wordAmong 99 [some (.ref 1), some (.retAddr (k + 1)), some (.int (nI q)), u3, u4, some (.int (nI u.length)), u6] [] (HP sh y) = some (HP sh y, some (.int (waF T s (en T s) v (q + 1) s true))) := fun u3 u4 u6 => by
          rw [bX8_wordAmong_99 (hv1 := rfl), Ta_start hT, some_bind', h5, nI_1]
          exact nxt (q + 1) s true (by omega) (by omega)
        by_cases hal : al = true
        · rw [if_neg (z1 hal), Ta_behind hT, some_bind', g]
          by_cases hie : i = en T s
          · rw [if_neg (fun z => z (by rw [hie])), if_pos ⟨hal, hie⟩]
          · rw [if_pos (fun z => hie ((nI_eq (by omega) (by omega)).mp z)), if_neg (fun z => hie z.2), b99]
        · rw [if_pos (z0 hal), if_neg (fun z => hal z.1), b99]
      · rw [if_neg (show ¬ nI c = 32 from fun z => c32 ((nI_eq (b := 32) hcb (by decide)).mp z)), if_neg c32]
        have b76 : ∀ (t : Bool) (u4 u6 : Option Value), RS (ZZ L xs) (d + 1) mX8_wordAmong 76 [some (.ref 1), some (.retAddr (k + 1)), some (.int (nI q)), some (.int (nI i)), u4, some (.int (nI u.length)), u6] [.int (z01 t)] (HP sh y) = some (HP sh y, some (.int (waF T s (en T s) v q (i + 1) t))) := fun t u4 u6 => by
          rw [bX8_wordAmong_76 (hv1 := rfl), nI_1, nxt q (i + 1) t (by omega) (by omega)]
        by_cases hal : al = true
        · rw [if_neg (z1 hal), Ta_behind hT, some_bind', g]
          by_cases hie : i < en T s
          · have hlt : i < T.1 := by omega
            have := hV.2 i hlt
            rw [if_neg (nI_ge hie (by omega)), Ta_bytes hT, some_bind', Tae_bytes hT _ (by omega), some_bind', show y.2.2.2.1 (1 + 1) i = nI (T.2 i) from a.2 i hlt, Bt_lt hlt, hal, decide_eq_true hie]
            by_cases heq : T.2 i = c
            · rw [if_neg (fun z => z (by rw [heq])), decide_eq_true heq]
              exact b76 true _ _
            · rw [if_pos (fun z => heq ((nI_eq (by omega) hcb).mp z)), bX8_wordAmong_75 (hv1 := rfl), decide_eq_false heq]
              exact b76 false _ _
          · rw [if_pos (nI_le (by omega) (by omega)), bX8_wordAmong_75 (hv1 := rfl), decide_eq_false hie, Bool.false_and, Bool.and_false]
            exact b76 false _ _
        · rw [if_pos (z0 hal), bX8_wordAmong_75 (hv1 := rfl), show al = false by cases al <;> simp_all]
          exact b76 false _ _
  refine cI_of ?_
  show RS (ZZ L xs) (d + 1) mX8_wordAmong 0 [some (.ref 1), some (.retAddr (k + 1)), none, none, none, none, none] [] _ = _
  rw [bX8_wordAmong_0 (hv1 := rfl), Ta_kind hT, some_bind', e]
  by_cases k1 : kd T s = 1
  · rw [if_pos (show nI (kd T s) = 1 by rw [k1]; rfl), if_pos k1, Ta_start hT, some_bind', h5]
    exact loop w [] 0 s true none rfl (Nat.le_refl _) (by omega)
  · rw [if_neg (show ¬ nI (kd T s) = 1 from fun z => k1 ((nI_eq (b := 1) (by omega) (by decide)).mp z)), if_neg k1]
theorem i_words (d : Nat) (hT : isTa sh 1) (hV : VTa T) {s k : Nat} {ws : List (List Nat)} {f : Int32} (hs : isS k (jn ws)) (hw : (jn ws).length ≤ 100) (hb : ∀ x, x ∈ jn ws → x < 2 ^ 31) (hn : ∀ w, w ∈ ws → w ≠ [] ∧ ∀ c, c ∈ w → c ≠ 32) (hx : TSt y T s f) : cI (ZZ L xs) (d + 1) mX8_wordAmong [.ref 1, .retAddr (k + 1)] (HP sh y) = some (HP sh y, wix T s ws 0) := by
  rw [i_wordA d hT hV hs hw hb hx]
  by_cases k1 : kd T s = 1
  · rw [if_pos k1, waF_jn k1 _ _ (fun w hw => (hn w hw).2)]
  · rw [if_neg k1, wix_no k1 _ _ (fun w hw => (hn w hw).1)]
theorem i_numH (d : Nat) (hT : isTa sh 1) (hV : VTa T) {s : Nat} {f : Int32} (hx : TSt y T s f) (hk : kd T s = 2) : cI (ZZ L xs) (d + 1) mX8_numberHere [.ref 1] (HP sh y) = some (HP sh y, if rn isD T s - s ≤ 5 then nI (nv T s) else -1) := by
  obtain ⟨a, b, h5, e, g, i⟩ := hx
  have h400 := hV.1
  have he : en T s = rn isD T s := by
    unfold en
    rw [hk, if_neg (by decide), if_neg (by decide), if_pos rfl]
  have hel := en_le b
  rw [he] at g hel
  have hall := rn_all (P := isD) (by decide) (T := T) _ s (Nat.le_refl _)
  have loop : ∀ (f i a' : Nat), f + i = rn isD T s → s ≤ i → RS (ZZ L xs) (d + 1) mX8_numberHere 30 [some (.ref 1), some (.int (nI a')), some (.int (nI i))] [] (HP sh y) = some (HP sh y, some (.int (nI (nvF T f i a')))) := by
    intro f
    induction f with
    | zero =>
      intro i a' hi hs
      rw [bX8_numberHere_30, Ta_behind hT, some_bind', g, if_pos (nI_le (by omega) (by omega))]
      rfl
    | succ f ih =>
      intro i a' hi hs
      have hd := hall (i - s) (by omega)
      rw [show s + (i - s) = i by omega] at hd
      have hdi := isD_iff.mp hd
      have hlt : i < T.1 := by omega
      rw [Bt_lt hlt] at hdi
      rw [bX8_numberHere_30, Ta_behind hT, some_bind', g, if_neg (nI_ge (by omega) (by omega)), Ta_bytes hT, some_bind', Tae_bytes hT _ (by omega), some_bind', show y.2.2.2.1 (1 + 1) i = nI (T.2 i) from a.2 i hlt, show (48 : Int32) = nI 48 from rfl, nI_subN hdi.1, nI_m10, nI_add, nI_1, ih (i + 1) _ (by omega) (by omega)]
      show _ = some (HP sh y, some (Value.int (nI (nvF T f (i + 1) (a' * 10 + (Bt T i - 48))))))
      rw [Bt_lt hlt]
  refine cI_of ?_
  show RS (ZZ L xs) (d + 1) mX8_numberHere 0 [some (.ref 1), none, none] [] _ = _
  rw [bX8_numberHere_0, Ta_kind hT, some_bind', e, hk, if_neg (fun z => z rfl), Ta_behind hT, some_bind', g, Ta_start hT, some_bind', h5, nI_subN hel.1]
  by_cases h : rn isD T s - s ≤ 5
  · rw [if_pos (show nI (rn isD T s - s) ≤ 5 from nI_le (b := 5) h (by decide)), if_pos h, some_bind']
    exact loop (rn isD T s - s) s 0 (by omega) (Nat.le_refl _)
  · rw [if_neg (show ¬ nI (rn isD T s - s) ≤ 5 from nI_ge (a := 5) (by omega) (by omega)), if_neg h, bX8_numberHere_21]
/-- a number taken: 0, or the fault -/
def tkE (T : TP) (s lo M : Nat) (u : Int32) : Nat := if kd T s = 2 then (if rn isD T s - s ≤ 5 ∧ lo ≤ nv T s ∧ nv T s ≤ M ∧ ¬ nI (nv T s) = u then 0 else ft s 1) else ft s 0
theorem i_take (d : Nat) (hT : isTa sh 1) (hV : VTa T) {s lo M : Nat} (hlo : lo < 100) (hM : M < 100) (u : Int32) (hx : TSt y T s 0) : ∃ y', cI (ZZ L xs) (d + 3) mX8_take [.ref 1, .int (nI lo), .int (nI M), .int u] (HP sh y) = some (HP sh y', z01 (decide (tkE T s lo M u = 0))) ∧ Off (fun o => o = 1) y y' ∧ (tkE T s lo M u = 0 → TSt y' T (nx' T s) 0 ∧ y'.1 1 3 = nI (nv T s)) ∧ (tkE T s lo M u ≠ 0 → y'.1 1 4 = nI (tkE T s lo M u)) := by
  have k3 := kd_3 T s
  obtain ⟨z0', r1, r2, r3⟩ := i_refuse (L := L) (xs := xs) (d + 1) hT hx 0
  obtain ⟨z1', q1, q2, q3⟩ := i_refuse (L := L) (xs := xs) (d + 1) hT hx 1
  have r1 : cI (ZZ L xs) (d + 2) mX8_refuse [.ref 1, .int 0] (HP sh y) = some (HP sh z0', 0) := r1
  have q1 : cI (ZZ L xs) (d + 2) mX8_refuse [.ref 1, .int 1] (HP sh y) = some (HP sh z1', 0) := q1
  by_cases hk : kd T s = 2
  · have hn := i_numH (L := L) (xs := xs) (d + 1) hT hV hx hk
    have bad : tkE T s lo M u = ft s 1 → RS (ZZ L xs) (d + 3) mX8_take 0 [some (.ref 1), some (.int (nI lo)), some (.int (nI M)), some (.int u), none] [] (HP sh y) = RS (ZZ L xs) (d + 3) mX8_take 38 [some (.ref 1), some (.int (nI lo)), some (.int (nI M)), some (.int u), some (.int (if rn isD T s - s ≤ 5 then nI (nv T s) else -1))] [] (HP sh y) → ∃ y', cI (ZZ L xs) (d + 3) mX8_take [.ref 1, .int (nI lo), .int (nI M), .int u] (HP sh y) = some (HP sh y', z01 (decide (tkE T s lo M u = 0))) ∧ Off (fun o => o = 1) y y' ∧ (tkE T s lo M u = 0 → TSt y' T (nx' T s) 0 ∧ y'.1 1 3 = nI (nv T s)) ∧ (tkE T s lo M u ≠ 0 → y'.1 1 4 = nI (tkE T s lo M u)) := fun he hr => by
      rw [he]
      have hne : ¬ ft s 1 = 0 := by unfold ft; omega
      refine ⟨z1', cI_of ?_, q2, fun z => absurd z hne, fun _ => q3.2.2.2.2.2⟩
      show RS (ZZ L xs) (d + 3) mX8_take 0 [some (.ref 1), some (.int (nI lo)), some (.int (nI M)), some (.int u), none] [] _ = _
      rw [hr, bX8_take_38, Ta_is hT, some_bind', q1, some_bind', if_pos (Or.inl rfl), decide_eq_false hne]
      rfl
    have b0 : RS (ZZ L xs) (d + 3) mX8_take 0 [some (.ref 1), some (.int (nI lo)), some (.int (nI M)), some (.int u), none] [] (HP sh y) = _ := bX8_take_0 ..
    rw [Ta_kind hT, some_bind', hx.2.2.2.1, hk, if_pos (show nI 2 = 2 from rfl), Ta_is hT, some_bind', hn, some_bind'] at b0
    by_cases h5 : rn isD T s - s ≤ 5
    · have hnv := nv_lt h5
      rw [if_pos h5] at b0 bad
      by_cases c1 : lo ≤ nv T s
      · rw [if_neg (nI_nlt c1 (by omega))] at b0
        by_cases c2 : nv T s ≤ M
        · rw [if_neg (nI_nlt c2 (by omega))] at b0
          by_cases c3 : nI (nv T s) = u
          · rw [if_neg (fun z => z c3)] at b0
            exact bad (by unfold tkE; rw [if_pos hk, if_neg (fun z => z.2.2.2 c3)]) b0
          · rw [if_pos c3, Taw_taken hT, some_bind', Ta_is hT, some_bind'] at b0
            have he : tkE T s lo M u = 0 := by unfold tkE; rw [if_pos hk, if_pos ⟨h5, c1, c2, c3⟩]
            have hx3 : TSt (sI y 1 3 (nI (nv T s))) T s 0 := by
              obtain ⟨a, b, h5, e, g, i⟩ := hx
              exact ⟨XTa_sI (by decide) _ a, b, h5, e, g, i⟩
            obtain ⟨y', p1, p2, p3, p4⟩ := v_adv (L := L) (xs := xs) (d) hT hV hx3
            rw [p1, some_bind', if_pos (Or.inr rfl)] at b0
            rw [he]
            refine ⟨y', cI_of b0, Off_trans (Off_sI (D := fun o => o = 1) (Off_refl _ _) rfl _ _) p2, fun _ => ⟨p3, p4.trans rfl⟩, fun z => absurd rfl z⟩
        · rw [if_pos (nI_lt (by omega) (by omega))] at b0
          exact bad (by unfold tkE; rw [if_pos hk, if_neg (fun z => c2 z.2.2.1)]) b0
      · rw [if_pos (nI_lt (by omega) (by omega))] at b0
        exact bad (by unfold tkE; rw [if_pos hk, if_neg (fun z => c1 z.2.1)]) b0
    · rw [if_neg h5] at b0 bad
      rw [if_pos (show (-1 : Int32) < nI lo from Int32.lt_of_lt_of_le (by decide) (nI_pos' (by omega)))] at b0
      exact bad (by unfold tkE; rw [if_pos hk, if_neg (fun z => h5 z.1)]) b0
  · have he : tkE T s lo M u = ft s 0 := by unfold tkE; rw [if_neg hk]
    rw [he]
    have hne : ¬ ft s 0 = 0 := by unfold ft; omega
    refine ⟨z0', cI_of ?_, r2, fun z => absurd z hne, fun _ => r3.2.2.2.2.2⟩
    show RS (ZZ L xs) (d + 3) mX8_take 0 [some (.ref 1), some (.int (nI lo)), some (.int (nI M)), some (.int u), none] [] _ = _
    rw [bX8_take_0, Ta_kind hT, some_bind', hx.2.2.2.1, if_neg (show ¬ nI (kd T s) = 2 from fun z => hk ((nI_eq (b := 2) (by omega) (by decide)).mp z)), Ta_is hT, some_bind', r1, some_bind', if_pos (Or.inl rfl), decide_eq_false hne]
    rfl
theorem sgA_no {s : Nat} {w : List Nat} (h : ¬ (kd T s = 3 ∧ Bt T s ∈ w)) : sgA T s w = -1 := if_neg h
theorem sgA_yes {s : Nat} {w : List Nat} (hV : VTa T) (h : kd T s = 3 ∧ Bt T s ∈ w) : ¬ sgA T s w = -1 := by
  have hl : s < T.1 := Nat.lt_of_not_le (fun q => by have := kd_0.mpr q; omega)
  have hby := hV.2 s hl
  unfold sgA
  rw [if_pos h, Bt_lt hl]
  intro z
  split at z
  · rw [show (256 : Int32) = nI 256 from rfl, nI_add] at z
    exact nI_pos (n := T.2 s + 256) (by omega) (by rw [z]; decide)
  · rw [Int32.add_zero] at z
    exact nI_pos (n := T.2 s) (by omega) (by rw [z]; decide)
theorem i_follows (d : Nat) (hT : isTa sh 1) (hV : VTa T) {s : Nat} (hx : TSt y T s 0) : ∃ y', cI (ZZ L xs) (d + 3) mX8_clauseFollows [.ref 1] (HP sh y) = some (HP sh y', z01 (decide (Bt T s = 59))) ∧ Off (fun o => o = 1) y y' ∧ (T.1 ≤ s → y'.1 1 4 = 0) ∧ (Bt T s = 59 → TSt y' T (nx' T s) 0) ∧ (s < T.1 → ¬ Bt T s = 59 → y'.1 1 4 = nI (ft s 0)) := by
  have k3 := kd_3 T s
  have hsg := i_signA (L := L) (xs := xs) (d + 1) hT hV (k := 1) (w := [59]) (by unfold isS; decide) (by decide) (by decide) hx
  by_cases h0 : T.1 ≤ s
  · have hb : ¬ Bt T s = 59 := by rw [Bt_ge h0]; decide
    refine ⟨y, cI_of ?_, Off_refl _ _, fun _ => hx.2.2.2.2.2, fun z => absurd z hb, fun z => by omega⟩
    show RS (ZZ L xs) (d + 3) mX8_clauseFollows 0 [some (.ref 1)] [] _ = _
    rw [bX8_clauseFollows_0, Ta_kind hT, some_bind', hx.2.2.2.1, if_neg (fun z => z (by rw [kd_0.mpr h0]; rfl)), if_pos (Or.inl rfl), decide_eq_false hb]
    rfl
  · have hk0 : ¬ nI (kd T s) = 0 := nI_ne0 (Nat.pos_of_ne_zero (fun q => h0 (kd_0.mp q))) (by omega)
    by_cases hb : Bt T s = 59
    · have hk := kd_sg hb (by decide) (by decide) (by decide)
      obtain ⟨y', p1, p2, p3, p4⟩ := v_adv (L := L) (xs := xs) (d) hT hV hx
      refine ⟨y', cI_of ?_, p2, fun z => absurd z h0, fun _ => p3, fun _ z => absurd hb z⟩
      show RS (ZZ L xs) (d + 3) mX8_clauseFollows 0 [some (.ref 1)] [] _ = _
      rw [bX8_clauseFollows_0, Ta_kind hT, some_bind', hx.2.2.2.1, if_pos hk0, Ta_is hT, some_bind', hsg, some_bind', if_pos (sgA_yes hV ⟨hk.1, by rw [hb]; simp⟩), Ta_is hT, some_bind', p1, some_bind', if_pos (Or.inr rfl), decide_eq_true hb]
      rfl
    · obtain ⟨z0', r1, r2, r3⟩ := i_refuse (L := L) (xs := xs) (d + 1) hT hx 0
      have r1 : cI (ZZ L xs) (d + 2) mX8_refuse [.ref 1, .int 0] (HP sh y) = some (HP sh z0', 0) := r1
      refine ⟨z0', cI_of ?_, r2, fun z => absurd z h0, fun z => absurd z hb, fun _ _ => r3.2.2.2.2.2⟩
      show RS (ZZ L xs) (d + 3) mX8_clauseFollows 0 [some (.ref 1)] [] _ = _
      rw [bX8_clauseFollows_0, Ta_kind hT, some_bind', hx.2.2.2.1, if_pos hk0, Ta_is hT, some_bind', hsg, some_bind', sgA_no (fun z => hb (by simpa using z.2)), if_neg (fun z => z rfl), Ta_is hT, some_bind', r1, some_bind', if_pos (Or.inl rfl), decide_eq_false hb]
      rfl
end LEXX2
