/-! ways: far, step, least, greatest -/
theorem i32_lt8 {a : Int32} (h0 : ¬ a < 0) (h8 : ¬ (8 : Int32) ≤ a) : ∃ i, i < 8 ∧ a = nI i := by
  obtain ⟨j, hj, rfl⟩ := nI_of h0
  refine ⟨j, ?_, rfl⟩
  rcases Nat.lt_or_ge j 8 with h | h
  · exact h
  · exact absurd (show (8 : Int32) ≤ nI j from nI_le (a := 8) h hj) h8
def farS (A : Nat → Int32) (a e : Int32) : Int32 := if a < 0 ∨ (8 : Int32) ≤ a ∨ e < 0 ∨ (8 : Int32) ≤ e then 99 else A (a.toNatClampNeg * 8 + e.toNatClampNeg)
section WAYS2
variable {L : Nat} {xs : Nat → Int32} {sh : List Sh} {o : Nat}
theorem i_far (d : Nat) (hW : isWays sh o) (y : ST) (a e : Int32) : cI (ZZ L xs) (d + 1) mX11_far [.ref o, .int a, .int e] (HP sh y) = some (HP sh y, farS (y.2.2.2.1 (o + 1)) a e) := by
  have h : CL (ZZ L xs) (d + 1) mX11_far [.ref o, .int a, .int e] (HP sh y) = some (HP sh y, some (.int (farS (y.2.2.2.1 (o + 1)) a e))) := by
    show RS (ZZ L xs) (d + 1) mX11_far 0 [some (.ref o), some (.int a), some (.int e), none] [] _ = _
    unfold farS
    rw [bX11_far_0]
    by_cases h1 : a < 0
    · rw [if_pos h1, bX11_far_24, bX11_far_25, if_pos rfl, bX11_far_46, if_pos (Or.inl h1)]
    · rw [if_neg h1]
      by_cases h2 : (8 : Int32) ≤ a
      · rw [if_pos h2, bX11_far_24, bX11_far_25, if_pos rfl, bX11_far_46, if_pos (Or.inr (Or.inl h2))]
      · rw [if_neg h2]
        by_cases h3 : e < 0
        · rw [if_pos h3, bX11_far_24, bX11_far_25, if_pos rfl, bX11_far_46, if_pos (Or.inr (Or.inr (Or.inl h3)))]
        · rw [if_neg h3]
          by_cases h4 : (8 : Int32) ≤ e
          · rw [if_pos h4, bX11_far_24, bX11_far_25, if_pos rfl, bX11_far_46, if_pos (Or.inr (Or.inr (Or.inr h4)))]
          · rw [if_neg h4, if_neg (fun q => by rcases q with q | q | q | q <;> contradiction)]
            obtain ⟨i, hi, rfl⟩ := i32_lt8 h1 h2
            obtain ⟨j, hj, rfl⟩ := i32_lt8 h3 h4
            have hk : nI i * 8 + nI j = nI (i * 8 + j) := by rw [show (8 : Int32) = nI 8 from rfl, pk_mul, nI_add]
            rw [bX11_far_25, if_neg (by decide), rF hW.1 rfl, some_bind', hk, rA hW.2 (by omega) (by decide), some_bind', bX11_far_46, nI_clamp (by omega), nI_clamp (by omega)]
  unfold cI
  rw [h]
  rfl
def leastF (near wo : Int32) : Nat → Nat → Int32
  | 0, _ => wo
  | f + 1, p => if iShr near (nI p) &&& 1 = 1 then nI p else leastF near wo f (p + 1)
theorem least_loop (d : Nat) (near wo : Int32) (ph : PH) : ∀ (f p : Nat), f + p = 8 → RS (ZZ L xs) (d + 1) mX11_least 2 [some (.int near), some (.int wo), some (.int (nI p))] [] ph = some (ph, some (.int (leastF near wo f p))) := by
  intro f
  induction f with
  | zero =>
    intro p hp
    have : p = 8 := by omega
    subst this
    rw [bX11_least_2, if_pos (by decide)]
    rfl
  | succ f ih =>
    intro p hp
    rw [bX11_least_2, if_neg (show ¬ (8 : Int32) ≤ nI p from nI_ge (b := 8) (by omega) (by decide))]
    show _ = some (ph, some (Value.int (if iShr near (nI p) &&& 1 = 1 then nI p else leastF near wo f (p + 1))))
    by_cases hb : iShr near (nI p) &&& 1 = 1
    · rw [if_neg (fun q => q hb), if_pos hb]
    · rw [if_pos hb, if_neg hb, nI_1, ih (p + 1) (by omega)]
theorem i_least (d : Nat) (near wo : Int32) (ph : PH) : cI (ZZ L xs) (d + 1) mX11_least [.int near, .int wo] ph = some (ph, leastF near wo 8 0) := by
  have h : CL (ZZ L xs) (d + 1) mX11_least [.int near, .int wo] ph = some (ph, some (.int (leastF near wo 8 0))) := by
    show RS (ZZ L xs) (d + 1) mX11_least 0 [some (.int near), some (.int wo), none] [] ph = _
    rw [bX11_least_0]
    exact least_loop d near wo ph 8 0 rfl
  unfold cI
  rw [h]
  rfl
def greatF (near wo : Int32) : Nat → Int32
  | 0 => wo
  | p + 1 => if iShr near (nI p) &&& 1 = 1 then nI p else greatF near wo p
theorem i_great (d : Nat) (near wo : Int32) (ph : PH) : cI (ZZ L xs) (d + 1) mX11_greatest [.int near, .int wo] ph = some (ph, greatF near wo 8) := by
  have loop : ∀ (p : Nat), p ≤ 8 → RS (ZZ L xs) (d + 1) mX11_greatest 3 [some (.int near), some (.int wo), some (.int (nI p - 1))] [] ph = some (ph, some (.int (greatF near wo p))) := by
    intro p
    induction p with
    | zero =>
      intro _
      rw [bX11_greatest_3, if_pos (by decide)]
      rfl
    | succ p ih =>
      intro hp
      rw [show nI (p + 1) - 1 = nI p from nI_pred p, bX11_greatest_3, if_neg (nI_pos (by omega))]
      show _ = some (ph, some (Value.int (if iShr near (nI p) &&& 1 = 1 then nI p else greatF near wo p)))
      by_cases hb : iShr near (nI p) &&& 1 = 1
      · rw [if_neg (fun q => q hb), if_pos hb]
      · rw [if_pos hb, if_neg hb, show nI p + (-1) = nI p - 1 from by rw [Int32.sub_eq_add_neg]]
        exact ih (by omega)
  have h : CL (ZZ L xs) (d + 1) mX11_greatest [.int near, .int wo] ph = some (ph, some (.int (greatF near wo 8))) := by
    show RS (ZZ L xs) (d + 1) mX11_greatest 0 [some (.int near), some (.int wo), none] [] ph = _
    rw [bX11_greatest_0]
    exact loop 8 (Nat.le_refl _)
  unfold cI
  rw [h]
  rfl
def stepF (A : Nat → Int32) (near frm to dist : Int32) : Nat → Nat → Int32
  | 0, _ => frm
  | f + 1, p => if iShr near (nI p) &&& 1 = 1 ∧ farS A (nI p) to = dist - 1 then nI p else stepF A near frm to dist f (p + 1)
def stepS (l : Int64) (A : Nat → Int32) (frm to : Int32) : Int32 := if farS A frm to = 99 then frm else stepF A (nb l frm) frm to (farS A frm to) 8 0
theorem step_loop (d : Nat) (hW : isWays sh o) (y : ST) (frm to dist near : Int32) : ∀ (f p : Nat), f + p = 8 → RS (ZZ L xs) (d + 2) mX11_step 28 [some (.ref o), some (.int frm), some (.int to), some (.int dist), some (.int near), some (.int (nI p))] [] (HP sh y) = some (HP sh y, some (.int (stepF (y.2.2.2.1 (o + 1)) near frm to dist f p))) := by
  intro f
  induction f with
  | zero =>
    intro p hp
    have : p = 8 := by omega
    subst this
    rw [bX11_step_28, if_pos (by decide)]
    rfl
  | succ f ih =>
    intro p hp
    rw [bX11_step_28, if_neg (show ¬ (8 : Int32) ≤ nI p from nI_ge (b := 8) (by omega) (by decide))]
    show _ = some (HP sh y, some (Value.int (if iShr near (nI p) &&& 1 = 1 ∧ farS (y.2.2.2.1 (o + 1)) (nI p) to = dist - 1 then nI p else stepF (y.2.2.2.1 (o + 1)) near frm to dist f (p + 1))))
    by_cases hb : iShr near (nI p) &&& 1 = 1
    · rw [if_neg (fun q => q hb), iO_HP hW.1, some_bind', i_far d hW, some_bind']
      by_cases hf : farS (y.2.2.2.1 (o + 1)) (nI p) to = dist - 1
      · rw [if_neg (fun q => q hf), if_pos ⟨hb, hf⟩]
      · rw [if_pos hf, if_neg (fun q => hf q.2), bX11_step_62, nI_1]
        exact ih (p + 1) (by omega)
    · rw [if_pos hb, if_neg (fun q => hb q.1), bX11_step_62, nI_1]
      exact ih (p + 1) (by omega)
theorem i_step (d : Nat) (hW : isWays sh o) (y : ST) (frm to : Int32) : cI (ZZ L xs) (d + 2) mX11_step [.ref o, .int frm, .int to] (HP sh y) = some (HP sh y, stepS (y.2.1 o 0) (y.2.2.2.1 (o + 1)) frm to) := by
  have h : CL (ZZ L xs) (d + 2) mX11_step [.ref o, .int frm, .int to] (HP sh y) = some (HP sh y, some (.int (stepS (y.2.1 o 0) (y.2.2.2.1 (o + 1)) frm to))) := by
    show RS (ZZ L xs) (d + 2) mX11_step 0 [some (.ref o), some (.int frm), some (.int to), none, none, none] [] _ = _
    unfold stepS
    rw [bX11_step_0, iO_HP hW.1, some_bind', i_far d hW, some_bind']
    by_cases h9 : farS (y.2.2.2.1 (o + 1)) frm to = 99
    · rw [if_neg (fun q => q h9), if_pos h9]
    · rw [if_pos h9, if_neg h9, rJ hW.1 (q := 0) rfl, some_bind', i_nb, some_bind']
      exact step_loop d hW y frm to _ _ 8 0 rfl
  unfold cI
  rw [h]
  rfl
end WAYS2
