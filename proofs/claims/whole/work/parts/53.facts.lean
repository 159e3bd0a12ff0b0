/-! an hour: what it does not ask for, what it keeps -/
theorem arr_o (w : TW) : ∀ (f g : Nat) (s : SV), (arrW w f g s).1 = s.1 ∧ (arrW w f g s).2.1 = s.2.1 ∧ ∀ j, j ≠ 5 → (arrW w f g s).2.2 j = s.2.2 j
  | 0, _, _ => ⟨rfl, rfl, fun _ _ => rfl⟩
  | f + 1, g, s => by
    unfold arrW
    obtain ⟨h1, h2, h3⟩ := arr_o w f (g + 1) (if s.2.2 5 g = -1 ∧ 0 < w.2.2 4 g ∧ iRem s.1.1 (w.2.2 4 g) = 0 then stR s 5 (upd (s.2.2 5) g (w.2.2 2 g)) else s)
    refine ⟨h1.trans ?_, h2.trans ?_, fun j hj => (h3 j hj).trans ?_⟩
    · split <;> rfl
    · split <;> rfl
    · split
      · exact stR_ne _ _ hj
      · rfl
theorem VB_mono {np B B' : Nat} {s : SV} (h : VB np s B) (hb : B ≤ B') : VB np s B' := ⟨by obtain ⟨c, h1, h2⟩ := h.1; exact ⟨c, by omega, h2⟩, fun p hp => by obtain ⟨t, h1, h2⟩ := h.2.1 p hp; exact ⟨t, by omega, h2⟩, h.2.2⟩
theorem VB_cong {np B : Nat} {s t : SV} (h : VB np s B) (h1 : t.1.2.2 = s.1.2.2) (h2 : t.2.2 3 = s.2.2 3) : VB np t B := ⟨by rw [h1]; exact h.1, by rw [h2]; exact h.2.1, by rw [h2]; exact h.2.2⟩
theorem VB_cou {np B g : Nat} {s : SV} {ch : Int32} (hn : np ≤ 6) (hch : ch = -1 ∨ ∃ j, j < np ∧ ch = nI j) (h : VB np s B) : VB np (couS g ch s) (B + 1) := by
  unfold couS
  rcases hch with rfl | ⟨j, hj, rfl⟩
  · rw [if_pos rfl]
    exact VB_mono h (by omega)
  · rw [if_neg (fun q => nI_pos (n := j) (by omega) (by rw [q]; decide)), nI_clamp (by omega)]
    obtain ⟨h1, h2, h3⟩ := h
    have e : ∀ p, (stR (stR (stR s 2 (upd (s.2.2 2) j (s.2.2 2 j + 1))) 3 (upd (s.2.2 3) j (s.2.2 3 j + 1))) 6 (upd (s.2.2 6) (g * 6 + j) (s.2.2 6 (g * 6 + j) + 1))).2.2 3 p = upd (s.2.2 3) j (s.2.2 3 j + 1) p := fun p => rfl
    refine ⟨?_, fun p hp => ?_, fun p h4 h5 => ?_⟩
    · obtain ⟨c, c1, c2⟩ := h1
      exact ⟨c, by omega, c2⟩
    · obtain ⟨t, t1, t2⟩ := h2 p hp
      rw [e]
      by_cases hpj : p = j
      · subst hpj
        rw [upd_at, t2, nI_1]
        exact ⟨t + 1, by omega, rfl⟩
      · rw [upd_ne _ _ hpj]
        exact ⟨t, by omega, t2⟩
    · rw [e, upd_ne _ _ (by omega)]
      exact h3 p h4 h5
theorem ch_in {R : Option ((Nat → Int32) → Int64)} {w : TW} {s : SV} {np : Nat} {far : Int32 → Int32 → Int32} {g : Nat} : chS R w s np far g = -1 ∨ ∃ j, j < np ∧ chS R w s np far g = nI j := by
  rcases chF_in s g (worthS R w s np far g) np 0 (if R = none then -1 else 0) (-1) (Or.inl rfl) with q | ⟨j, hj, q⟩
  · exact Or.inl q
  · exact Or.inr ⟨j, by omega, q⟩
theorem pas_o (R : Option ((Nat → Int32) → Int64)) (w : TW) (np : Nat) (wr : Int32) (ms : Int64) (far : Nat → Int32) (hn : np ≤ 6) : ∀ (f g : Nat) (s : SV) (wh : Nat → Int32) (n : Int32) (B : Nat), VB np s B → VB np (pasF R w np wr ms far f g s wh n).1 (B + f) ∧ (pasF R w np wr ms far f g s wh n).1.1.1 = s.1.1 ∧ (pasF R w np wr ms far f g s wh n).1.2.1 = s.2.1
  | 0, _, s, _, _, B, h => ⟨h, rfl, rfl⟩
  | f + 1, g, s, wh, n, B, h => by
    unfold pasF
    split
    · obtain ⟨a1, a2, a3⟩ := pas_o R w np wr ms far hn f (g + 1) (stCo (stR s 5 (upd (s.2.2 5) g (-1))) (s.1.2.2 + 1)) (upd wh g (-1)) n (B + 1) (by
        obtain ⟨⟨c, c1, c2⟩, h2, h3⟩ := h
        refine ⟨⟨c + 1, by omega, ?_⟩, fun p hp => ?_, h3⟩
        · show s.1.2.2 + 1 = _
          rw [c2, nI_1]
        · obtain ⟨t, t1, t2⟩ := h2 p hp
          exact ⟨t, by omega, t2⟩)
      exact ⟨by rw [show B + (f + 1) = B + 1 + f by omega]; exact a1, a2, a3⟩
    · split
      · obtain ⟨a1, a2, a3⟩ := pas_o R w np wr ms far hn f (g + 1) s (upd wh g (-1)) n B h
        exact ⟨VB_mono a1 (by omega), a2, a3⟩
      · obtain ⟨c1, c2, c3, c4⟩ := couS_o g (chS R w s np (farS far) g) s
        obtain ⟨a1, a2, a3⟩ := pas_o R w np wr ms far hn f (g + 1) (stR (couS g (chS R w s np (farS far) g) s) 5 (upd ((couS g (chS R w s np (farS far) g) s).2.2 5) g (whtS (couS g (chS R w s np (farS far) g) s).2.1 ms far wr (w.2.2 3 g) ((couS g (chS R w s np (farS far) g) s).2.2 5 g) (chS R w s np (farS far) g)))) (upd wh g (chS R w s np (farS far) g)) (n + if chS R w s np (farS far) g = -1 then 0 else 1) (B + 1) (VB_cong (VB_cou hn ch_in h) rfl rfl)
        refine ⟨by rw [show B + (f + 1) = B + 1 + f by omega]; exact a1, a2.trans ?_, a3.trans c1⟩
        show (couS g (chS R w s np (farS far) g) s).1.1 = _
        rw [c4]
theorem clo_o (w : TW) (np : Nat) (s : SV) : (cloS w np s).1.1 = s.1.1 ∧ (cloS w np s).1.2.2 = s.1.2.2 ∧ (cloS w np s).2.2 3 = s.2.2 3 ∧ (cloS w np s).2.1 = s.2.1 := by
  rw [cloS_eq]
  split
  · exact ⟨rfl, rfl, rfl, rfl⟩
  · unfold cloI
    split <;> exact ⟨rfl, rfl, rfl, rfl⟩
/-- the hour by the state alone -/
def hoS (R : Option ((Nat → Int32) → Int64)) (w : TW) (np ns : Nat) (wr : Int32) (s : SV) : SV := (hourA R w np ns wr (s, fun _ => 0)).1.1
def hoN (R : Option ((Nat → Int32) → Int64)) (w : TW) (np ns : Nat) (wr : Int32) (s : SV) : Int32 := (hourA R w np ns wr (s, fun _ => 0)).2
def hoW (R : Option ((Nat → Int32) → Int64)) (w : TW) (np ns : Nat) (wr : Int32) (s : SV) : Nat → Int32 := (hourA R w np ns wr (s, fun _ => 0)).1.2
theorem pas_wh (R : Option ((Nat → Int32) → Int64)) (w : TW) (np : Nat) (wr : Int32) (ms : Int64) (far : Nat → Int32) : ∀ (f g : Nat) (s : SV) (wh wh' : Nat → Int32) (n : Int32), (∀ k, k < g → wh k = wh' k) → (pasF R w np wr ms far f g s wh n).1 = (pasF R w np wr ms far f g s wh' n).1 ∧ (pasF R w np wr ms far f g s wh n).2.2 = (pasF R w np wr ms far f g s wh' n).2.2 ∧ ∀ k, k < f + g → (pasF R w np wr ms far f g s wh n).2.1 k = (pasF R w np wr ms far f g s wh' n).2.1 k
  | 0, g, s, wh, wh', n, h => ⟨rfl, rfl, fun k hk => h k (by omega)⟩
  | f + 1, g, s, wh, wh', n, h => by
    have up : ∀ v k, k < g + 1 → upd wh g v k = upd wh' g v k := fun v k hk => by
      by_cases e : k = g
      · rw [e, upd_at, upd_at]
      · rw [upd_ne _ _ e, upd_ne _ _ e]
        exact h k (by omega)
    unfold pasF
    rw [show f + 1 + g = f + (g + 1) by omega]
    split
    · exact pas_wh R w np wr ms far f (g + 1) _ _ _ _ (up _)
    · split
      · exact pas_wh R w np wr ms far f (g + 1) _ _ _ _ (up _)
      · exact pas_wh R w np wr ms far f (g + 1) _ _ _ _ (up _)
theorem hour_wh (R : Option ((Nat → Int32) → Int64)) (w : TW) (np ns : Nat) (wr : Int32) (s : SV) (wh : Nat → Int32) : (hourA R w np ns wr (s, wh)).1.1 = hoS R w np ns wr s ∧ (hourA R w np ns wr (s, wh)).2 = hoN R w np ns wr s ∧ ∀ k, k < ns → (hourA R w np ns wr (s, wh)).1.2 k = hoW R w np ns wr s k := by
  obtain ⟨h1, h2, h3⟩ := pas_wh R w np wr s.2.1 (dst s.2.1) ns 0 (arrW w ns 0 s) wh (fun _ => 0) 0 (fun k hk => by omega)
  unfold hoS hoN hoW hourA
  refine ⟨?_, h2, h3⟩
  show stH (cloS w np (pasF R w np wr s.2.1 (dst s.2.1) ns 0 (arrW w ns 0 s) wh 0).1) _ = stH (cloS w np (pasF R w np wr s.2.1 (dst s.2.1) ns 0 (arrW w ns 0 s) (fun _ => 0) 0).1) _
  rw [h1]
def roS (R : Option ((Nat → Int32) → Int64)) (w : TW) (np ns : Nat) (wr : Int32) : Nat → SV → SV
  | 0, s => s
  | n + 1, s => roS R w np ns wr n (hoS R w np ns wr s)
theorem run_wh (R : Option ((Nat → Int32) → Int64)) (w : TW) (np ns : Nat) (wr : Int32) : ∀ (n : Nat) (q : SV × (Nat → Int32)), (runA R w np ns wr n q).1 = roS R w np ns wr n q.1
  | 0, q => rfl
  | n + 1, q => by
    show (runA R w np ns wr n (hourA R w np ns wr q).1).1 = roS R w np ns wr n (hoS R w np ns wr q.1)
    rw [run_wh R w np ns wr n, (hour_wh R w np ns wr q.1 q.2).1]
theorem VB_hoS {R : Option ((Nat → Int32) → Int64)} {w : TW} {np ns : Nat} {wr : Int32} {s : SV} {B : Nat} (hn : np ≤ 6) (h : VB np s B) : VB np (hoS R w np ns wr s) (B + ns) ∧ (hoS R w np ns wr s).1.1 = s.1.1 + 1 ∧ (hoS R w np ns wr s).2.1 = s.2.1 := by
  obtain ⟨a1, a2, a3⟩ := arr_o w ns 0 s
  obtain ⟨b1, b2, b3⟩ := pas_o R w np wr s.2.1 (dst s.2.1) hn ns 0 (arrW w ns 0 s) (fun _ => 0) 0 B (VB_cong h (by rw [a1]) (a3 3 (by decide)))
  obtain ⟨c1, c2, c3, c4⟩ := clo_o w np (pasF R w np wr s.2.1 (dst s.2.1) ns 0 (arrW w ns 0 s) (fun _ => 0) 0).1
  unfold hoS hourA
  refine ⟨VB_cong b1 c2 c3, ?_, c4.trans (b3.trans a2)⟩
  show (cloS w np (pasF R w np wr s.2.1 (dst s.2.1) ns 0 (arrW w ns 0 s) (fun _ => 0) 0).1).1.1 + 1 = _
  rw [c1, b2, a1]
theorem VB_roS {R : Option ((Nat → Int32) → Int64)} {w : TW} {np ns : Nat} {wr : Int32} (hn : np ≤ 6) : ∀ (n : Nat) (s : SV) (B : Nat), VB np s B → VB np (roS R w np ns wr n s) (B + n * ns) ∧ (roS R w np ns wr n s).2.1 = s.2.1
  | 0, s, B, h => ⟨by rw [Nat.zero_mul]; exact h, rfl⟩
  | n + 1, s, B, h => by
    obtain ⟨a1, a2, a3⟩ := VB_hoS (R := R) (w := w) (ns := ns) (wr := wr) hn h
    obtain ⟨b1, b2⟩ := VB_roS hn n (hoS R w np ns wr s) _ a1
    exact ⟨by rw [show B + (n + 1) * ns = B + ns + n * ns by rw [Nat.add_mul]; omega]; exact b1, b2.trans a3⟩
/-! streets as bits -/
theorem shl_b : ∀ n k : Fin 64, (lShl 1 (nI n.val)).toBitVec.getLsbD k.val = decide (k.val = n.val) := by decide +kernel
theorem aj_or (a b : Int64) (i j : Nat) : aj (a ||| b) i j = (aj a i j || aj b i j) := by
  unfold aj
  rw [Int64.toBitVec_or, BitVec.getLsbD_or]
theorem aj_and (a b : Int64) (i j : Nat) : aj (a &&& b) i j = (aj a i j && aj b i j) := by
  unfold aj
  rw [Int64.toBitVec_and, BitVec.getLsbD_and]
theorem aj_xor (a b : Int64) (i j : Nat) : aj (a ^^^ b) i j = (aj a i j ^^ aj b i j) := by
  unfold aj
  rw [Int64.toBitVec_xor, BitVec.getLsbD_xor]
theorem aj_ext {a b : Int64} (h : ∀ i j, i < 8 → j < 8 → aj a i j = aj b i j) : a = b := by
  rw [← Int64.toBitVec_inj]
  apply BitVec.eq_of_getLsbD_eq
  intro k hk
  have := h (k / 8) (k % 8) (by omega) (by omega)
  unfold aj at this
  rw [show k / 8 * 8 + k % 8 = k by omega] at this
  exact this
theorem aj_0 (i j : Nat) : aj 0 i j = false := by
  unfold aj
  show (0#64).getLsbD (i * 8 + j) = false
  simp
def stS (a b : Nat) : Int64 := if a = b then 0 else lShl 1 (nI (a * 8 + b)) ||| lShl 1 (nI (b * 8 + a))
theorem aj_shl {n i j : Nat} (hn : n < 64) (hi : i < 8) (hj : j < 8) : aj (lShl 1 (nI n)) i j = decide (i * 8 + j = n) := shl_b ⟨n, hn⟩ ⟨i * 8 + j, by omega⟩
theorem aj_stS {a b i j : Nat} (ha : a < 8) (hb : b < 8) (hi : i < 8) (hj : j < 8) : aj (stS a b) i j = (decide (a ≠ b) && ((decide (i = a) && decide (j = b)) || (decide (i = b) && decide (j = a)))) := by
  unfold stS
  by_cases h : a = b
  · rw [if_pos h, aj_0, decide_eq_false (fun q => q h)]
    rfl
  · rw [if_neg h, aj_or, aj_shl (by omega) hi hj, aj_shl (by omega) hi hj, decide_eq_true h, Bool.true_and, ← Bool.decide_and, ← Bool.decide_and]
    congr 1
    · apply decide_eq_decide.mpr
      omega
    · apply decide_eq_decide.mpr
      omega
theorem i_street {L : Nat} {xs : Nat → Int32} (d : Nat) {a b : Nat} (ha : a < 8) (hb : b < 8) (ph : PH) : cJ (ZZ L xs) (d + 1) mX11_street [.int (nI a), .int (nI b)] ph = some (ph, stS a b) := by
  refine cJ_of ?_
  show RS (ZZ L xs) (d + 1) mX11_street 0 [some (.int (nI a)), some (.int (nI b))] [] ph = _
  unfold stS
  rw [bX11_street_0]
  by_cases h : a = b
  · rw [if_neg (fun z => z (by rw [h])), if_pos h, bX11_street_26]
  · rw [if_pos (fun z => h ((nI_eq (by omega) (by omega)).mp z)), if_neg h, bX11_street_26, nI_m8, nI_m8, nI_add, nI_add]
theorem and_st {l : Int64} (hs : symm8 l) {a b : Nat} (ha : a < 8) (hb : b < 8) (hne : a ≠ b) : l &&& stS a b = 0 ↔ aj l a b = false := by
  constructor
  · intro h
    have := aj_and l (stS a b) a b
    rw [h, aj_0, aj_stS ha hb ha hb] at this
    simp [hne] at this
    exact this
  · intro h
    apply aj_ext
    intro i j hi hj
    rw [aj_and, aj_0, aj_stS ha hb hi hj]
    by_cases h1 : i = a ∧ j = b
    · rw [h1.1, h1.2, h]
      rfl
    · by_cases h2 : i = b ∧ j = a
      · have hba : aj l b a = false := by
          cases q : aj l b a with
          | false => rfl
          | true =>
            rw [hs b a hb ha q] at h
            cases h
        rw [h2.1, h2.2, hba]
        rfl
      · have e1 : (decide (i = a) && decide (j = b)) = false := by rw [← Bool.decide_and]; exact decide_eq_false h1
        have e2 : (decide (i = b) && decide (j = a)) = false := by rw [← Bool.decide_and]; exact decide_eq_false h2
        rw [e1, e2]
        simp
theorem VO_xor {pl : Nat} {l : Int64} (h : VO pl l) {a b : Nat} (ha : a < pl) (hb : b < pl) : VO pl (l ^^^ stS a b) := by
  obtain ⟨h1, h2, h3⟩ := h
  have sym : ∀ i j, i < 8 → j < 8 → aj (stS a b) i j = aj (stS a b) j i := fun i j hi hj => by
    rw [aj_stS (by omega) (by omega) hi hj, aj_stS (by omega) (by omega) hj hi, Bool.and_comm (decide (i = a)), Bool.and_comm (decide (i = b)), Bool.or_comm]
  have lsym : ∀ i j, i < 8 → j < 8 → aj l i j = aj l j i := fun i j hi hj => by
    cases q : aj l i j with
    | true => exact (h2 i j hi hj q).symm
    | false =>
      cases q2 : aj l j i with
      | false => rfl
      | true =>
        rw [h2 j i hj hi q2] at q
        cases q
  refine ⟨h1, fun i j hi hj h => ?_, fun i j hi hj h => ?_⟩
  · rw [aj_xor, lsym j i hj hi, sym j i hj hi, ← aj_xor]
    exact h
  · rw [aj_xor] at h
    cases q : aj l i j with
    | true => exact h3 i j hi hj q
    | false =>
      rw [q, Bool.false_xor, aj_stS (by omega) (by omega) hi hj] at h
      simp at h
      omega
/-- a street shut or opened, in rows of bits -/
theorem nb_xor {l : Int64} {a b i : Nat} (ha : a < 8) (hb : b < 8) (hne : a ≠ b) (hi : i < 8) : nb (l ^^^ stS a b) (nI i) = if i = a then nb l (nI i) ^^^ iShl 1 (nI b) else if i = b then nb l (nI i) ^^^ iShl 1 (nI a) else nb l (nI i) := by
  apply bt_ext
  intro j hj
  rw [bt_nb _ hi hj]
  by_cases h8 : j < 8
  · rw [aj_xor, aj_stS ha hb hi h8, decide_eq_true h8, Bool.true_and, decide_eq_true hne, Bool.true_and]
    by_cases h1 : i = a
    · rw [if_pos h1, bt_xor, bt_nb _ hi hj, bt_shl (by omega) hj, decide_eq_true h8, Bool.true_and, decide_eq_true h1, decide_eq_false (show ¬ i = b by omega)]
      simp
    · rw [if_neg h1]
      by_cases h2 : i = b
      · rw [if_pos h2, bt_xor, bt_nb _ hi hj, bt_shl (by omega) hj, decide_eq_true h8, Bool.true_and, decide_eq_true h2, decide_eq_false h1]
        simp
      · rw [if_neg h2, bt_nb _ hi hj, decide_eq_true h8, Bool.true_and, decide_eq_false h1, decide_eq_false h2]
        simp
  · rw [decide_eq_false h8, Bool.false_and]
    by_cases h1 : i = a
    · rw [if_pos h1, bt_xor, bt_nb _ hi hj, bt_shl (by omega) hj, decide_eq_false h8, decide_eq_false (show ¬ j = b by omega)]
      rfl
    · rw [if_neg h1]
      by_cases h2 : i = b
      · rw [if_pos h2, bt_xor, bt_nb _ hi hj, bt_shl (by omega) hj, decide_eq_false h8, decide_eq_false (show ¬ j = a by omega)]
        rfl
      · rw [if_neg h2, bt_nb _ hi hj, decide_eq_false h8]
        rfl
