/-! game, in the model -/
section GAME2
variable {L : Nat} {xs : Nat → Int32} {W : WD}
/-- the state after the moves that a number names -/
def gaT (W : WD) (p q : Nat) : Nat → Nat → Option SV
  | 0, _ => some W.2.1.2.1
  | i + 1, c => match gaT W p q i (c / W.2.1.1.2.1) with
    | none => none
    | some s => if gaO s (gaM p q i) (c % W.2.1.1.2.1) = true then some (gaN W (gaM p q i) s (c % W.2.1.1.2.1)) else none
def gaC (e : Option Int32) : Int32 := match e with
  | none => -100000
  | some v => v
def gaEv (W : WD) (p q n i c : Nat) : Option Int32 := match gaT W p q i c with
  | none => none
  | some s => some (gaV W p q (n - i) i s)
theorem gaT_some {p q i c : Nat} {s : SV} (h : gaT W p q i (c / W.2.1.1.2.1) = some s) : gaT W p q (i + 1) c = if gaO s (gaM p q i) (c % W.2.1.1.2.1) = true then some (gaN W (gaM p q i) s (c % W.2.1.1.2.1)) else none := by
  show (match gaT W p q i (c / W.2.1.1.2.1) with
    | none => none
    | some s => if gaO s (gaM p q i) (c % W.2.1.1.2.1) = true then some (gaN W (gaM p q i) s (c % W.2.1.1.2.1)) else none) = _
  rw [h]
theorem gaT_none {p q i c : Nat} (h : gaT W p q i (c / W.2.1.1.2.1) = none) : gaT W p q (i + 1) c = none := by
  show (match gaT W p q i (c / W.2.1.1.2.1) with
    | none => none
    | some s => if gaO s (gaM p q i) (c % W.2.1.1.2.1) = true then some (gaN W (gaM p q i) s (c % W.2.1.1.2.1)) else none) = _
  rw [h]
theorem div_p (c P f : Nat) : c / P ^ f / P = c / P ^ (f + 1) := by
  rw [Nat.div_div_eq_div_mul, Nat.pow_succ]
theorem gaT_dead {p q c : Nat} : ∀ (f t : Nat), gaT W p q t (c / W.2.1.1.2.1 ^ f) = none → gaT W p q (f + t) c = none
  | 0, t, h => by
    rw [Nat.pow_zero, Nat.div_one] at h
    rw [Nat.zero_add]
    exact h
  | f + 1, t, h => by
    rw [← div_p] at h
    have := gaT_dead f (t + 1) (gaT_none h)
    rw [show f + 1 + t = f + (t + 1) by omega]
    exact this
/-- a value is far from what says that a move is none -/
def gaR (v : Int32) : Prop := -20000 ≤ v.toInt
theorem gaR_ne {v : Int32} (h : gaR v) : ¬ v = -100000 := fun e => by
  unfold gaR at h
  rw [e] at h
  exact absurd h (by decide)
theorem gaG_R {mx : Bool} {e : Nat → Option Int32} (he : ∀ j v, e j = some v → gaR v) : ∀ (f j : Nat) (acc : Option (Int32 × Nat)), (∀ a, acc = some a → gaR a.1) → ∀ a, lp (gaG mx e) f j acc = some a → gaR a.1
  | 0, _, acc, h => h
  | f + 1, j, acc, h => gaG_R he f (j + 1) (gaG mx e j acc) (fun a ha => by
    unfold gaG at ha
    split at ha
    · exact h a ha
    · next v hv =>
      cases ha
      exact he _ _ hv
    · next v b hv =>
      split at ha
      · split at ha
        · cases ha
          exact h _ rfl
        · cases ha
          exact he _ _ hv
      · split at ha
        · cases ha
          exact h _ rfl
        · cases ha
          exact he _ _ hv)
theorem gaG_some {mx : Bool} {e : Nat → Option Int32} : ∀ (f j : Nat) (acc : Option (Int32 × Nat)), ((∃ a, acc = some a) ∨ ∃ k v, j ≤ k ∧ k < j + f ∧ e k = some v) → ∃ a, lp (gaG mx e) f j acc = some a
  | 0, j, acc, h => by
    rcases h with h | ⟨k, v, h1, h2, -⟩
    · exact h
    · omega
  | f + 1, j, acc, h => gaG_some f (j + 1) (gaG mx e j acc) (by
    cases hv : e j with
    | some v =>
      refine Or.inl ?_
      unfold gaG
      rw [hv]
      cases acc with
      | none => exact ⟨_, rfl⟩
      | some a =>
        show ∃ b, (if mx = true then (if v ≤ a.1 then some a else some (v, j)) else (if a.1 ≤ v then some a else some (v, j))) = some b
        split
        · split <;> exact ⟨_, rfl⟩
        · split <;> exact ⟨_, rfl⟩
    | none =>
      rcases h with ⟨a, ha⟩ | ⟨k, v, h1, h2, h3⟩
      · refine Or.inl ⟨a, ?_⟩
        unfold gaG
        rw [hv, ha]
      · refine Or.inr ⟨k, v, ?_, by omega, h3⟩
        by_cases hk : k = j
        · rw [hk, hv] at h3
          cases h3
        · omega)
theorem gaG_none {mx : Bool} {e : Nat → Option Int32} : ∀ (f j : Nat), (∀ k, j ≤ k → k < j + f → e k = none) → lp (gaG mx e) f j none = none
  | 0, _, _ => rfl
  | f + 1, j, h => by
    show lp (gaG mx e) f (j + 1) (gaG mx e j none) = none
    rw [show gaG mx e j none = none by unfold gaG; rw [h j (Nat.le_refl _) (by omega)]]
    exact gaG_none f (j + 1) (fun k h1 h2 => h k (by omega) (by omega))
theorem gaN_VB (hv : VW W) {s : SV} {B : Nat} (h : VB W.2.1.1.2.2.1 s B) (m j : Nat) : VB W.2.1.1.2.2.1 (gaN W m s j) (B + 5) := by
  have h5 : W.2.1.1.2.2.2 ≤ 5 := hv.2.1.1.1.1.2.2.2
  exact VB_mono (VB_hoS (R := RF W W.2.1.2.2.2.1.1) (w := W.2.1.1.1) (ns := W.2.1.1.2.2.2) (wr := W.2.1.1.1.1 5) hv.2.1.1.1.1.2.1 (s := stR s 0 (upd (s.2.2 0) m (nI j))) (VB_cong h rfl rfl)).1 (by omega)
theorem gaV_R (hv : VW W) {p q : Nat} (hp : p < 6) (hq : q < 6) : ∀ (f i : Nat) (s : SV), VB W.2.1.1.2.2.1 s (5015 - 5 * f) → f ≤ 3 → gaR (gaV W p q f i s)
  | 0, i, s, h, _ => by
    obtain ⟨a, a1, a2⟩ := h.2.1 p hp
    obtain ⟨b, b1, b2⟩ := h.2.1 q hq
    obtain ⟨c, c1, c2⟩ := (VB_now hv).2.1 p hp
    obtain ⟨e, e1, e2⟩ := (VB_now hv).2.1 q hq
    show gaR (s.2.2 3 p - s.2.2 3 q - (W.2.1.2.1.2.2 3 p - W.2.1.2.1.2.2 3 q))
    unfold gaR
    have x1 : (nI a - nI b).toInt = (a : Int) - b := nI_subI (by omega) (by omega)
    have x2 : (nI c - nI e).toInt = (c : Int) - e := nI_subI (by omega) (by omega)
    have x3 : (nI a - nI b - (nI c - nI e)).toInt = (a : Int) - b - (c - e) := by
      rw [Int32.toInt_sub, x1, x2]
      apply Int.bmod_eq_of_le
      · omega
      · omega
    rw [a2, b2, c2, e2, x3]
    omega
  | f + 1, i, s, h, hf => by
    show gaR (gaB (lp (gaG (decide (i % 2 = 0)) (gaE W p q i (gaV W p q f (i + 1)) s)) W.2.1.1.2.1 0 none))
    have hh := gaG_R (mx := decide (i % 2 = 0)) (e := gaE W p q i (gaV W p q f (i + 1)) s) (fun j v hj => by
      unfold gaE at hj
      split at hj
      · cases hj
        exact gaV_R hv hp hq f (i + 1) _ (VB_mono (gaN_VB hv h _ _) (by omega)) (by omega)
      · cases hj) W.2.1.1.2.1 0 none (fun a ha => by cases ha)
    cases hl : lp (gaG (decide (i % 2 = 0)) (gaE W p q i (gaV W p q f (i + 1)) s)) W.2.1.1.2.1 0 none with
    | none => show gaR 0; unfold gaR; decide
    | some a => exact hh a hl
theorem gaT_VB (hv : VW W) (hP : 0 < W.2.1.1.2.1) {p q : Nat} : ∀ (i c : Nat) (s : SV), gaT W p q i c = some s → VB W.2.1.1.2.2.1 s (4995 + 5 * i) ∧ gaS W s
  | 0, c, s, h => by
    cases h
    exact ⟨VB_now hv, hv.2.1.1.2.1.1.2.1⟩
  | i + 1, c, s, h => by
    cases ht : gaT W p q i (c / W.2.1.1.2.1) with
    | none =>
      rw [gaT_none ht] at h
      cases h
    | some s0 =>
      rw [gaT_some ht] at h
      split at h
      · cases h
        obtain ⟨h1, h2⟩ := gaT_VB hv hP i _ s0 ht
        exact ⟨VB_mono (gaN_VB hv h1 _ _) (by omega), gaS_N h2 _ (Nat.mod_lt _ hP)⟩
      · cases h
end GAME2
