/-! what a write leaves alone; scenes as values -/
def Off (D : Nat → Prop) (x y : ST) : Prop := ∀ o, ¬ D o → y.1 o = x.1 o ∧ y.2.1 o = x.2.1 o ∧ y.2.2.1 o = x.2.2.1 o ∧ y.2.2.2.1 o = x.2.2.2.1 o ∧ y.2.2.2.2.1 o = x.2.2.2.2.1 o ∧ y.2.2.2.2.2 o = x.2.2.2.2.2 o
theorem Off_refl (D : Nat → Prop) (x : ST) : Off D x x := fun _ _ => ⟨rfl, rfl, rfl, rfl, rfl, rfl⟩
theorem Off_trans {D : Nat → Prop} {x y z : ST} (h : Off D x y) (g : Off D y z) : Off D x z := fun o ho => by
  obtain ⟨a1, a2, a3, a4, a5, a6⟩ := h o ho
  obtain ⟨b1, b2, b3, b4, b5, b6⟩ := g o ho
  exact ⟨b1.trans a1, b2.trans a2, b3.trans a3, b4.trans a4, b5.trans a5, b6.trans a6⟩
theorem Off_mono {D E : Nat → Prop} {x y : ST} (h : Off D x y) (hd : ∀ o, D o → E o) : Off E x y := fun o ho => h o (fun q => ho (hd o q))
section OFF
variable {D : Nat → Prop} {x y : ST}
theorem Off_sI (h : Off D x y) {o : Nat} (ho : D o) (k : Nat) (v : Int32) : Off D x (sI y o k v) := Off_trans h fun p hp => by
  have : p ≠ o := fun q => hp (q ▸ ho)
  refine ⟨?_, rfl, rfl, rfl, rfl, rfl⟩
  funext j
  show (if p = o ∧ j = k then v else y.1 p j) = _
  rw [if_neg (fun q => this q.1)]
theorem Off_sJL (h : Off D x y) {o : Nat} (ho : D o) (k : Nat) (v : Int64) : Off D x (sJL y o k v) := Off_trans h fun p hp => by
  have : p ≠ o := fun q => hp (q ▸ ho)
  refine ⟨rfl, ?_, rfl, rfl, rfl, rfl⟩
  funext j
  show (if p = o ∧ j = k then v else y.2.1 p j) = _
  rw [if_neg (fun q => this q.1)]
theorem Off_sR (h : Off D x y) {o : Nat} (ho : D o) (k : Nat) (v : Value) : Off D x (sR y o k v) := Off_trans h fun p hp => by
  have : p ≠ o := fun q => hp (q ▸ ho)
  refine ⟨rfl, rfl, ?_, rfl, rfl, rfl⟩
  funext j
  show (if p = o ∧ j = k then v else y.2.2.1 p j) = _
  rw [if_neg (fun q => this q.1)]
theorem Off_sA (h : Off D x y) {o : Nat} (ho : D o) (g : Nat → Int32) : Off D x (sA y o g) := Off_trans h fun p hp => by
  have : p ≠ o := fun q => hp (q ▸ ho)
  refine ⟨rfl, rfl, rfl, ?_, rfl, rfl⟩
  show (if p = o then g else y.2.2.2.1 p) = _
  rw [if_neg this]
theorem Off_sAR (h : Off D x y) {o : Nat} (ho : D o) (g : Nat → Option Nat) : Off D x (sAR y o g) := Off_trans h fun p hp => by
  have : p ≠ o := fun q => hp (q ▸ ho)
  refine ⟨rfl, rfl, rfl, rfl, rfl, ?_⟩
  show (if p = o then g else y.2.2.2.2.2 p) = _
  rw [if_neg this]
theorem Off_pSt (h : Off D x y) {b : Nat} (hb : ∀ o, b ≤ o → o < b + 8 → D o) (s : SV) : Off D x (pSt y b s) := Off_trans h fun p hp => by
  have hn : ¬ (b ≤ p ∧ p < b + 8) := fun q => hp (hb p q.1 q.2)
  refine ⟨?_, ?_, rfl, ?_, rfl, rfl⟩
  · funext j
    show (if p = b then _ else y.1 p j) = _
    rw [if_neg (by omega)]
  · funext j
    show (if p = b ∧ j = 3 then _ else y.2.1 p j) = _
    rw [if_neg (by omega)]
  · show (if b + 1 ≤ p ∧ p < b + 8 then _ else y.2.2.2.1 p) = _
    rw [if_neg (by omega)]
theorem Off_pCk (h : Off D x y) {c : Nat} (hb : ∀ o, c < o → o < c + 5 → D o) (v : CV) : Off D x (pCk y c v) := Off_trans h fun p hp => by
  have hn : ¬ (c < p ∧ p < c + 5) := fun q => hp (hb p q.1 q.2)
  refine ⟨rfl, ?_, rfl, ?_, rfl, rfl⟩
  · funext j
    show (if p = c + 1 ∧ j = 0 then _ else y.2.1 p j) = _
    rw [if_neg (by omega)]
  · show (if p = c + 2 then v.2.1 else if p = c + 3 then v.2.2.1 else if p = c + 4 then v.2.2.2 else y.2.2.2.1 p) = _
    rw [if_neg (by omega), if_neg (by omega), if_neg (by omega)]
theorem Off_KK (h : Off D x y) {b c : Nat} (hb : ∀ o, b ≤ o → o < b + 8 → D o) (hc : ∀ o, c < o → o < c + 5 → D o) (s : SV) (v : CV) : Off D x (KK y b c s v) := Off_pCk (Off_pSt h hb s) hc v
theorem gSt_off (h : Off D x y) {b : Nat} (hb : ∀ o, b ≤ o → o < b + 8 → ¬ D o) : SQ (gSt y b) (gSt x b) := by
  obtain ⟨h1, h2, -⟩ := h b (hb b (by omega) (by omega))
  refine ⟨?_, ?_, fun j hj k hk => ?_⟩
  · show (y.1 b 0, y.1 b 1, y.1 b 2) = _
    rw [h1]
    rfl
  · show y.2.1 b 3 = _
    rw [h2]
    rfl
  · show y.2.2.2.1 (b + 1 + j) k = _
    rw [(h (b + 1 + j) (hb _ (by omega) (by omega))).2.2.2.1]
    rfl
theorem gTo_off (h : Off D x y) {t : Nat} (hb : ∀ o, t ≤ o → o < t + 6 → ¬ D o) : gTo y t = gTo x t := by
  obtain ⟨h1, h2, -⟩ := h t (hb t (by omega) (by omega))
  unfold gTo
  rw [h1, h2]
  refine Prod.ext rfl (Prod.ext rfl ?_)
  funext j
  show (if j < 5 then y.2.2.2.1 (t + 1 + j) else fun _ => 0) = if j < 5 then x.2.2.2.1 (t + 1 + j) else fun _ => 0
  by_cases hj : j < 5
  · rw [if_pos hj, if_pos hj, (h (t + 1 + j) (hb _ (by omega) (by omega))).2.2.2.1]
  · rw [if_neg hj, if_neg hj]
theorem gCk_off (h : Off D x y) {c : Nat} (hb : ∀ o, c < o → o < c + 5 → ¬ D o) : gCk y c = gCk x c := by
  unfold gCk
  rw [(h (c + 1) (hb _ (by omega) (by omega))).2.1, (h (c + 2) (hb _ (by omega) (by omega))).2.2.2.1, (h (c + 3) (hb _ (by omega) (by omega))).2.2.2.1, (h (c + 4) (hb _ (by omega) (by omega))).2.2.2.1]
theorem pM_off (h : Off D x y) (hb : ∀ o, 259 ≤ o → o < 307 → ¬ D o) : pM y (gM x) = y := by
  have : gM x = ((gM y).1, (fun j => if j < 47 then (gM y).2.1 j else (gM x).2.1 j), fun j => if j < 47 then (gM y).2.2 j else (gM x).2.2 j) := by
    refine Prod.ext ?_ (Prod.ext ?_ ?_)
    · exact ((h 259 (hb _ (by omega) (by omega))).1).symm
    · funext j
      show _ = if j < 47 then (gM y).2.1 j else (gM x).2.1 j
      by_cases hj : j < 47
      · rw [if_pos hj]
        exact ((h (260 + j) (hb _ (by omega) (by omega))).2.2.2.1).symm
      · rw [if_neg hj]
    · funext j
      show _ = if j < 47 then (gM y).2.2 j else (gM x).2.2 j
      by_cases hj : j < 47
      · rw [if_pos hj]
        exact ((h (260 + j) (hb _ (by omega) (by omega))).2.2.2.2.1).symm
      · rw [if_neg hj]
  rw [this]
  conv => rhs; rw [← pM_gM y]
  unfold pM
  simp only [Prod.mk.injEq, true_and, and_true]
  refine ⟨?_, ?_⟩
  · funext a
    by_cases hr : 260 ≤ a ∧ a < 307
    · rw [if_pos hr, if_pos hr, if_pos (by omega)]
    · rw [if_neg hr, if_neg hr]
  · funext a
    by_cases hr : 260 ≤ a ∧ a < 307
    · rw [if_pos hr, if_pos hr, if_pos (by omega)]
    · rw [if_neg hr, if_neg hr]
theorem Off_pM (x : ST) (m : MM) : Off (fun o => 259 ≤ o ∧ o < 307) x (pM x m) := fun p hp => by
  have hp : ¬ (259 ≤ p ∧ p < 307) := hp
  refine ⟨?_, rfl, rfl, ?_, ?_, rfl⟩
  · show (if p = 259 then m.1 else x.1 p) = _
    rw [if_neg (by omega)]
  · show (if 260 ≤ p ∧ p < 307 then m.2.1 (p - 260) else x.2.2.2.1 p) = _
    rw [if_neg (by omega)]
  · show (if 260 ≤ p ∧ p < 307 then m.2.2 (p - 260) else x.2.2.2.2.1 p) = _
    rw [if_neg (by omega)]
end OFF
section REFA
variable {sh : List Sh} {x : ST} {a n t : Nat}
theorem cell_ref (ht : t = 4 ∨ t = 5 ∨ t = 6) (x : ST) (a n : Nat) : cell x a (.inl (t, n)) = .inl (t, n, .inr (.inr (.inr (.inr (trn none n (x.2.2.2.2.2 a)))))) := by
  rcases ht with rfl | rfl | rfl <;> rfl
theorem rAR (ht : t = 4 ∨ t = 5 ∨ t = 6) {j : Nat} (ha : sh[a]? = some (.inl (t, n))) (hj : j < n) (hn : n < 2 ^ 31) : eR (HP sh x) (.ref a) (nI j) = some (va_rf (x.2.2.2.2.2 a j)) := by
  show (aR (HP sh x) a (nI j)).map va_rf = _
  unfold aR
  rw [HP_get, ha, Option.map_some, cell_ref ht]
  show Option.map va_rf (if (t = 4 ∨ t = 5 ∨ t = 6) ∧ ¬ (nI j < 0 ∨ n ≤ (nI j).toNatClampNeg) then some (trn none n (x.2.2.2.2.2 a) (nI j).toNatClampNeg) else none) = _
  rw [if_pos ⟨ht, in_nI hj hn⟩, nI_clamp (by omega), trn_at hj]
  rfl
def updR (f : Nat → Option Nat) (i : Nat) (v : Option Nat) : Nat → Option Nat := fun j => if j = i then v else f j
theorem cell_AR {i : Nat} {s : Sh} {g : Nat → Option Nat} (h : i ≠ a) : cell (sAR x a g) i s = cell x i s := by
  cases s with
  | inl q =>
    obtain ⟨t, n⟩ := q
    unfold cell sAR up1
    simp [h]
  | inr q => rfl
theorem wAR (ht : t = 4 ∨ t = 5 ∨ t = 6) {j v : Nat} {fs : List (Nat × Nat)} (ha : sh[a]? = some (.inl (t, n))) (hj : j < n) (hn : n < 2 ^ 31) (hv : sh[v]? = some (.inr (tC t, fs))) : wR (HP sh x) (.ref a) (nI j) (.ref v) = some (HP sh (sAR x a (updR (x.2.2.2.2.2 a) j (some v)))) := by
  show uR (HP sh x) a (nI j) v = _
  unfold uR
  have hO : isO (HP sh x) v (tC t) = true := by
    unfold isO
    rw [HP_get, hv]
    show (tC t == tC t) = true
    simp
  rw [HP_get, ha, Option.map_some, cell_ref ht]
  show (if (t = 4 ∨ t = 5 ∨ t = 6) ∧ ¬ (nI j < 0 ∨ n ≤ (nI j).toNatClampNeg) ∧ isO (HP sh x) v (tC t) = true then some ((HP sh x).set a (.inl (t, n, .inr (.inr (.inr (.inr (va_up (trn none n (x.2.2.2.2.2 a)) (nI j).toNatClampNeg (some v)))))))) else none) = _
  rw [if_pos ⟨ht, in_nI hj hn, hO⟩, nI_clamp (by omega)]
  refine congrArg some (HP_set ha ?_ (fun i t hi _ => cell_AR hi))
  rw [cell_ref ht]
  have e : va_up (trn none n (x.2.2.2.2.2 a)) j (some v) = trn none n (updR (x.2.2.2.2.2 a) j (some v)) := by
    funext k
    unfold va_up trn updR
    by_cases hk : k = j
    · subst hk
      simp [hj]
    · by_cases hl : k < n
      · simp [hk, hl]
      · simp [hk, hl]
  rw [e]
  unfold sAR up1
  simp
end REFA
/-- a past: how many, the oldest first -/
def PaOK (x : ST) (b : Nat) (k : Nat) (P : Nat → SV) : Prop := (∀ i, i < 20 → x.2.2.2.2.2 (b + 1) i = some (b + 2 + 8 * i)) ∧ k ≤ 20 ∧ x.1 b 0 = nI k ∧ ∃ nx, nx < 20 ∧ x.1 b 1 = nI nx ∧ ∀ i, i < k → SQ (gSt x (b + 2 + 8 * ((nx + 20 - (k - i)) % 20))) (P i)
/-- town, places, people, strangers; state; past; force, seed; notes -/
abbrev SCN : Type := (TW × Nat × Nat × Nat) × SV × (Nat × (Nat → SV)) × (Int32 × Int32) × (Nat × (Nat → Nat → Int32))
def XSc (sh : List Sh) (x : ST) (b : Nat) (c : SCN) : Prop := isSc sh b ∧ (∃ t : Nat, x.2.2.1 b 0 = .ref t ∧ isTo sh t ∧ (t = 4 ∨ 307 ≤ t) ∧ gTo x t = c.1.1) ∧ SQ (gSt x (b + 7)) c.2.1 ∧ PaOK x (b + 15) c.2.2.1.1 c.2.2.1.2 ∧ x.1 b 3 = c.2.2.2.1.1 ∧ x.1 b 4 = c.2.2.2.1.2 ∧ x.1 b 5 = nI c.2.2.2.2.1 ∧ ∀ j, j < 3 → ∀ i, i < c.2.2.2.2.1 → x.2.2.2.1 (b + 177 + j) i = c.2.2.2.2.2 j i
theorem SQ_trans {a b c : SV} (h : SQ a b) (g : SQ b c) : SQ a c := ⟨h.1.trans g.1, h.2.1.trans g.2.1, fun j hj k hk => (h.2.2 j hj k hk).trans (g.2.2 j hj k hk)⟩
theorem SQ_symm {a b : SV} (h : SQ a b) : SQ b a := ⟨h.1.symm, h.2.1.symm, fun j hj k hk => (h.2.2 j hj k hk).symm⟩
theorem SQ_refl (a : SV) : SQ a a := ⟨rfl, rfl, fun _ _ _ _ => rfl⟩
theorem PaOK_off {D : Nat → Prop} {x y : ST} (h : Off D x y) {b k : Nat} {P : Nat → SV} (hb : ∀ o, b ≤ o → o < b + 162 → ¬ D o) (hp : PaOK x b k P) : PaOK y b k P := by
  obtain ⟨h1, h2, h3, nx, h4, h5, h6⟩ := hp
  have e0 := (h b (hb b (by omega) (by omega))).1
  refine ⟨fun i hi => ?_, h2, ?_, nx, h4, ?_, fun i hi => ?_⟩
  · rw [(h (b + 1) (hb _ (by omega) (by omega))).2.2.2.2.2]
    exact h1 i hi
  · rw [e0]; exact h3
  · rw [e0]; exact h5
  · have hm := Nat.mod_lt (nx + 20 - (k - i)) (show 0 < 20 by decide)
    exact SQ_trans (gSt_off h (fun o h1 h2 => hb o (by omega) (by omega))) (h6 i hi)
theorem XSc_off {D : Nat → Prop} {sh : List Sh} {x y : ST} (h : Off D x y) {b : Nat} {c : SCN} (hb : ∀ o, o = b ∨ (b + 7 ≤ o ∧ o < b + 180) → ¬ D o) (ht : ∀ t o, isTo sh t → (t = 4 ∨ 307 ≤ t) → t ≤ o → o < t + 6 → ¬ D o) (hc : XSc sh x b c) : XSc sh y b c := by
  obtain ⟨h1, ⟨t, t1, t2, t3, t4⟩, h3, h4, h5, h6, h7, h8⟩ := hc
  obtain ⟨e1, e2, e3, -⟩ := h b (hb b (Or.inl rfl))
  refine ⟨h1, ⟨t, ?_, t2, t3, ?_⟩, ?_, PaOK_off h (fun o q1 q2 => hb o (by omega)) h4, ?_, ?_, ?_, fun j hj i hi => ?_⟩
  · rw [e3]; exact t1
  · rw [gTo_off h (t := t) (fun o q1 q2 => ht t o t2 t3 q1 q2)]; exact t4
  · exact SQ_trans (gSt_off h (fun o q1 q2 => hb o (by omega))) h3
  · rw [e1]; exact h5
  · rw [e1]; exact h6
  · rw [e1]; exact h7
  · rw [(h (b + 177 + j) (hb _ (by omega))).2.2.2.1]
    exact h8 j hj i hi
