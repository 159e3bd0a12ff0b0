/-! a rule told: what it must be -/
abbrev EL : Type := List (Nat × Nat)
abbrev Er : Type := Nat ⊕ (Nat × Nat × EL)
def sB {α β : Type} (r : Nat ⊕ α) (f : α → Nat ⊕ β) : Nat ⊕ β := match r with
  | .inl e => .inl e
  | .inr a => f a
theorem sB_inr {α β : Type} {r : Nat ⊕ α} {f : α → Nat ⊕ β} {b : β} (h : sB r f = .inr b) : ∃ a, r = .inr a ∧ f a = .inr b := by
  cases r with
  | inl e => cases h
  | inr a => exact ⟨a, rfl, h⟩
def wd12 : List (List Nat) := [[115, 116, 114, 97, 110, 103, 101, 114], [112, 101, 114, 115, 111, 110], [107, 105, 110, 100], [97, 115, 107, 101, 100], [98, 101, 102, 111, 114, 101], [111, 116, 104, 101, 114, 115], [112, 108, 97, 99, 101], [102, 97, 114], [99, 104, 97, 105, 110], [116, 101, 114, 109], [99, 111, 109, 101], [104, 111, 117, 114]]
def wAsk : List Nat := [97, 115, 107]
def wIf : List Nat := [105, 102]
def wNot : List Nat := [110, 111, 116]
def wAnd : List Nat := [97, 110, 100]
def wOr : List Nat := [111, 114]
def wN (T : TP) (s : Nat) : List (List Nat) → Nat → Nat
  | [], q => q
  | w :: ws, q => if wdIs T s w = true then q else wN T s ws (q + 1)
def kVr (T : TP) (s : Nat) : Nat := wN T s wd12 0
def pV (T : TP) (s c : Nat) : Nat ⊕ (Nat × Nat) :=
  if kd T s = 2 then (if rn isD T s - s ≤ 5 then (if c = 60 then .inl (ft s 3) else .inr (0, nv T s)) else .inl (ft s 1))
  else if kVr T s = 12 then .inl (ft s 0) else if c = 60 then .inl (ft s 3) else .inr (1, kVr T s)
def mulK (b : Nat) : Nat := if b = 42 then 13 else if b = 47 then 14 else if b = 37 then 15 else 0
def addK (b : Nat) : Nat := if b = 43 then 2 else if b = 45 then 3 else 0
def cmK (T : TP) (s : Nat) : Nat := if Bt T s = 61 then 6 else if Bt T s = 60 then (if jE T s = true then 5 else 4) else if Bt T s = 62 then (if jE T s = true then 7 else 8) else 0
def tlp (T : TP) : Nat → Nat → Nat → EL → Er
  | 0, s, c, l => .inr (s, c, l)
  | f + 1, s, c, l => if mulK (Bt T s) = 0 then .inr (s, c, l) else sB (pV T (nx' T s) c) fun en => tlp T f (nx' T (nx' T s)) (c + 1) (l ++ [en, (mulK (Bt T s), 0)])
def pT (T : TP) (s c : Nat) : Er := sB (pV T s c) fun en => tlp T 61 (nx' T s) (c + 1) [en]
def slp (T : TP) : Nat → Nat → Nat → EL → Er
  | 0, s, c, l => .inr (s, c, l)
  | f + 1, s, c, l => if addK (Bt T s) = 0 then .inr (s, c, l) else sB (pT T (nx' T s) c) fun q => slp T f q.1 q.2.1 (l ++ q.2.2 ++ [(addK (Bt T s), 0)])
def pS (T : TP) (s c : Nat) : Er := sB (pT T s c) fun q => slp T 61 q.1 q.2.1 q.2.2
def pC (T : TP) (s c : Nat) : Er := sB (pS T s c) fun q => if cmK T q.1 = 0 then .inl (ft q.1 0) else if q.2.1 = 60 then .inl (ft q.1 3) else sB (pS T (nx' T q.1) (q.2.1 + 1)) fun r => .inr (r.1, r.2.1, q.2.2 ++ r.2.2 ++ [(cmK T q.1, 0)])
def fl (b : Bool) (k : Nat) : EL := if b = true then [(k, 0)] else []
def elp (F : Nat → Nat → Er) (T : TP) : Nat → Nat → Nat → EL → Bool → Bool → Er
  | 0, s, c, l, ho, ha => .inr (s, c, l ++ fl ha 10 ++ fl ho 11)
  | f + 1, s, c, l, ho, ha => if wdIs T s wAnd = true then sB (F (nx' T s) c) fun q => elp F T f q.1 q.2.1 (l ++ fl ha 10 ++ q.2.2) ho true else if wdIs T s wOr = true then sB (F (nx' T s) c) fun q => elp F T f q.1 q.2.1 (l ++ fl ha 10 ++ fl ho 11 ++ q.2.2) true false else .inr (s, c, l ++ fl ha 10 ++ fl ho 11)
def pE (F : Nat → Nat → Er) (T : TP) (s c : Nat) : Er := sB (F s c) fun q => elp F T 61 q.1 q.2.1 q.2.2 false false
def pFa (T : TP) : Nat → Nat → Nat → Er
  | 0, s, c => if wdIs T s wNot = true ∨ Bt T s = 91 then .inl (ft s 2) else pC T s c
  | g + 1, s, c => if wdIs T s wNot = true then sB (pFa T g (nx' T s) c) fun q => .inr (q.1, q.2.1, q.2.2 ++ [(9, 0)]) else if Bt T s = 91 then sB (pE (pFa T g) T (nx' T s) c) fun q => if Bt T q.1 = 93 then .inr (nx' T q.1, q.2.1, q.2.2) else .inl (ft q.1 0) else pC T s c
def pR (T : TP) (n s c : Nat) : Nat ⊕ (Nat × Nat × EL × EL) :=
  if wdIs T s wAsk = true then
    if n = 12 then .inl (ft s 4) else sB (pS T (nx' T s) c) fun q => if wdIs T q.1 wIf = true then sB (pE (pFa T 10) T (nx' T q.1) q.2.1) fun r => .inr (r.1, r.2.1, q.2.2, r.2.2) else .inr (q.1, q.2.1, q.2.2, [])
  else .inl (ft s 0)
def rRd (T : TP) : Nat → Nat → Nat → Nat → List (EL × EL) → Nat ⊕ List (EL × EL)
  | 0, _, s, _, _ => .inl (ft s 4)
  | f + 1, n, s, c, cl => sB (pR T n s c) fun q => if T.1 ≤ q.1 then .inr (cl ++ [(q.2.2.1, q.2.2.2)]) else if Bt T q.1 = 59 then rRd T f (n + 1) (nx' T q.1) q.2.1 (cl ++ [(q.2.2.1, q.2.2.2)]) else .inl (ft q.1 0)
/-! what a list comes to -/
def tr1 (p : Prop) [Decidable p] : Int64 := if p then 1 else 0
def bo (k : Nat) (a b : Int64) : Int64 := if k = 2 then a + b else if k = 3 then a - b else if k = 4 then tr1 (a < b) else if k = 5 then tr1 (a ≤ b) else if k = 6 then tr1 (a = b) else if k = 7 then tr1 (b ≤ a) else if k = 8 then tr1 (b < a) else if k = 10 then a &&& b else if k = 13 then a * b else if k = 14 then (if b = 0 then 0 else a / b) else if k = 15 then (if b = 0 then 0 else lRem a b) else a ||| b
def rpO (u : Nat → Int64) (k v : Nat) (st : List Int64) : Option (List Int64) :=
  if k = 0 then some ((nI v).toInt64 :: st) else if k = 1 then some (u v :: st) else if k = 9 then (match st with
    | a :: st => some ((1 - a) :: st)
    | [] => none) else (match st with
    | b :: a :: st => some (bo k a b :: st)
    | _ => none)
def rp (u : Nat → Int64) : EL → List Int64 → Option (List Int64)
  | [], st => some st
  | q :: l, st => (rpO u q.1 q.2 st).bind (rp u l)
theorem rp_app (u : Nat → Int64) (l2 : EL) : ∀ (l1 : EL) (st : List Int64), rp u (l1 ++ l2) st = (rp u l1 st).bind (rp u l2)
  | [], st => rfl
  | q :: l, st => by
    show (rpO u q.1 q.2 st).bind (rp u (l ++ l2)) = ((rpO u q.1 q.2 st).bind (rp u l)).bind (rp u l2)
    cases rpO u q.1 q.2 st with
    | none => rfl
    | some st' => exact rp_app u l2 l st'
def evl (u : Nat → Int64) (l : EL) : Int64 := match rp u l [] with
  | some (a :: _) => a
  | _ => 0
def okL (l : EL) : Prop := ∀ q, q ∈ l → q.1 ≤ 15 ∧ (q.1 = 1 → q.2 < 12)
def WF (l : EL) : Prop := (∀ u, ∃ v, ∀ st, rp u l st = some (v :: st)) ∧ okL l
theorem okL_app {a b : EL} (h : okL a) (g : okL b) : okL (a ++ b) := fun q hq => (List.mem_append.mp hq).elim (h q) (g q)
theorem okL_1 {k v : Nat} (h : k ≤ 15) (h1 : k = 1 → v < 12) : okL [(k, v)] := fun q hq => by
  rw [List.mem_singleton] at hq
  rw [hq]
  exact ⟨h, h1⟩
theorem evl_of {u : Nat → Int64} {l : EL} {v : Int64} (h : ∀ st, rp u l st = some (v :: st)) : evl u l = v := by
  unfold evl
  rw [h []]
theorem WF_s {l : EL} (h : WF l) (u : Nat → Int64) (st : List Int64) : rp u l st = some (evl u l :: st) := by
  obtain ⟨v, hv⟩ := h.1 u
  rw [hv, evl_of hv]
theorem WF_0 (n : Nat) : WF [(0, n)] := ⟨fun u => ⟨_, fun st => rfl⟩, okL_1 (by decide) (fun z => by cases z)⟩
theorem WF_1 {n : Nat} (h : n < 12) : WF [(1, n)] := ⟨fun u => ⟨_, fun st => rfl⟩, okL_1 (by decide) (fun _ => h)⟩
theorem evl_0 (u : Nat → Int64) (n : Nat) : evl u [(0, n)] = (nI n).toInt64 := rfl
theorem evl_1 (u : Nat → Int64) (n : Nat) : evl u [(1, n)] = u n := rfl
def isBn (k : Nat) : Prop := k ≠ 0 ∧ k ≠ 1 ∧ k ≠ 9 ∧ k ≤ 15
theorem rp_b {u : Nat → Int64} {k : Nat} (hk : isBn k) (a b : Int64) (st : List Int64) : rp u [(k, 0)] (b :: a :: st) = some (bo k a b :: st) := by
  show (rpO u k 0 (b :: a :: st)).bind (rp u []) = _
  unfold rpO
  rw [if_neg hk.1, if_neg hk.2.1, if_neg hk.2.2.1]
  rfl
theorem rp_B {l1 l2 : EL} {k : Nat} (h1 : WF l1) (h2 : WF l2) (hk : isBn k) (u : Nat → Int64) (st : List Int64) : rp u (l1 ++ l2 ++ [(k, 0)]) st = some (bo k (evl u l1) (evl u l2) :: st) := by
  rw [rp_app, rp_app, WF_s h1, some_bind', WF_s h2, some_bind', rp_b hk]
theorem WF_B {l1 l2 : EL} {k : Nat} (h1 : WF l1) (h2 : WF l2) (hk : isBn k) : WF (l1 ++ l2 ++ [(k, 0)]) := ⟨fun u => ⟨_, rp_B h1 h2 hk u⟩, okL_app (okL_app h1.2 h2.2) (okL_1 hk.2.2.2 (fun z => absurd z hk.2.1))⟩
theorem evl_B {l1 l2 : EL} {k : Nat} (h1 : WF l1) (h2 : WF l2) (hk : isBn k) (u : Nat → Int64) : evl u (l1 ++ l2 ++ [(k, 0)]) = bo k (evl u l1) (evl u l2) := evl_of (rp_B h1 h2 hk u)
theorem rp_N {l : EL} (h : WF l) (u : Nat → Int64) (st : List Int64) : rp u (l ++ [(9, 0)]) st = some ((1 - evl u l) :: st) := by
  rw [rp_app, WF_s h, some_bind']
  rfl
theorem WF_N {l : EL} (h : WF l) : WF (l ++ [(9, 0)]) := ⟨fun u => ⟨_, rp_N h u⟩, okL_app h.2 (okL_1 (by decide) (fun z => by cases z))⟩
theorem evl_N {l : EL} (h : WF l) (u : Nat → Int64) : evl u (l ++ [(9, 0)]) = 1 - evl u l := evl_of (rp_N h u)
def T01 (a : Int64) : Prop := a = 0 ∨ a = 1
theorem tr1_T (p : Prop) [Decidable p] : T01 (tr1 p) := by
  unfold tr1
  split
  · exact Or.inr rfl
  · exact Or.inl rfl
theorem mulK_b (b : Nat) (h : mulK b ≠ 0) : isBn (mulK b) ∧ (b = 42 ∨ b = 47 ∨ b = 37) := by
  unfold mulK isBn at *
  by_cases h1 : b = 42
  · rw [if_pos h1]
    omega
  · rw [if_neg h1] at h ⊢
    by_cases h2 : b = 47
    · rw [if_pos h2]
      omega
    · rw [if_neg h2] at h ⊢
      by_cases h3 : b = 37
      · rw [if_pos h3]
        omega
      · rw [if_neg h3] at h
        exact absurd rfl h
theorem addK_b (b : Nat) (h : addK b ≠ 0) : isBn (addK b) ∧ (b = 43 ∨ b = 45) := by
  unfold addK isBn at *
  by_cases h1 : b = 43
  · rw [if_pos h1]
    omega
  · rw [if_neg h1] at h ⊢
    by_cases h2 : b = 45
    · rw [if_pos h2]
      omega
    · rw [if_neg h2] at h
      exact absurd rfl h
theorem cmK_b {T : TP} {s : Nat} (h : cmK T s ≠ 0) : isBn (cmK T s) ∧ (4 ≤ cmK T s ∧ cmK T s ≤ 8) ∧ (Bt T s = 60 ∨ Bt T s = 61 ∨ Bt T s = 62) := by
  unfold cmK isBn at *
  by_cases h1 : Bt T s = 61
  · rw [if_pos h1]
    omega
  · rw [if_neg h1] at h ⊢
    by_cases h2 : Bt T s = 60
    · rw [if_pos h2]
      split <;> omega
    · rw [if_neg h2] at h ⊢
      by_cases h3 : Bt T s = 62
      · rw [if_pos h3]
        split <;> omega
      · rw [if_neg h3] at h
        exact absurd rfl h
theorem bo_T {k : Nat} (h : 4 ≤ k ∧ k ≤ 8) (a b : Int64) : T01 (bo k a b) := by
  have : k = 4 ∨ k = 5 ∨ k = 6 ∨ k = 7 ∨ k = 8 := by omega
  rcases this with rfl | rfl | rfl | rfl | rfl
  · exact tr1_T _
  · exact tr1_T _
  · exact tr1_T _
  · exact tr1_T _
  · exact tr1_T _
theorem kVr_12 (T : TP) (s : Nat) : kVr T s ≤ 12 := by
  have : ∀ (ws : List (List Nat)) (q : Nat), wN T s ws q ≤ q + ws.length := by
    intro ws
    induction ws with
    | nil => intro q; exact Nat.le_refl _
    | cons w ws ih =>
      intro q
      show (if wdIs T s w = true then q else wN T s ws (q + 1)) ≤ q + (ws.length + 1)
      split
      · omega
      · have := ih (q + 1)
        omega
  exact this wd12 0
/-- a value: where, how many -/
theorem kVr_lt {T : TP} {s : Nat} (h : kVr T s ≠ 12) : s < T.1 := by
  refine Nat.lt_of_not_le (fun q => h ?_)
  have hk : ¬ kd T s = 1 := by have := kd_0.mpr q; omega
  have : ∀ (ws : List (List Nat)) (q : Nat), (∀ w, w ∈ ws → w ≠ []) → wN T s ws q = q + ws.length := by
    intro ws
    induction ws with
    | nil => intro q _; rfl
    | cons w ws ih =>
      intro q hw
      show (if wdIs T s w = true then q else wN T s ws (q + 1)) = q + (ws.length + 1)
      rw [wdIs_kd (hw w List.mem_cons_self) hk, if_neg (by decide), ih (q + 1) (fun v hv => hw v (List.mem_cons_of_mem _ hv))]
      omega
  exact this wd12 0 (by decide)
theorem pV_in {T : TP} {s c : Nat} {en : Nat × Nat} (h : pV T s c = .inr en) : s < T.1 ∧ c ≠ 60 ∧ WF [en] ∧ (kd T s = 2 ∧ rn isD T s - s ≤ 5 ∧ en = (0, nv T s) ∨ ¬ kd T s = 2 ∧ kVr T s < 12 ∧ en = (1, kVr T s)) := by
  unfold pV at h
  by_cases h2 : kd T s = 2
  · rw [if_pos h2] at h
    by_cases h5 : rn isD T s - s ≤ 5
    · rw [if_pos h5] at h
      by_cases hc : c = 60
      · rw [if_pos hc] at h
        cases h
      · rw [if_neg hc] at h
        cases h
        exact ⟨Nat.lt_of_not_le (fun q => by have := kd_0.mpr q; omega), hc, WF_0 _, Or.inl ⟨h2, h5, rfl⟩⟩
    · rw [if_neg h5] at h
      cases h
  · rw [if_neg h2] at h
    by_cases hk : kVr T s = 12
    · rw [if_pos hk] at h
      cases h
    · rw [if_neg hk] at h
      by_cases hc : c = 60
      · rw [if_pos hc] at h
        cases h
      · rw [if_neg hc] at h
        cases h
        have h12 : kVr T s < 12 := by have := kVr_12 T s; omega
        exact ⟨kVr_lt hk, hc, WF_1 h12, Or.inr ⟨h2, h12, rfl⟩⟩
theorem Bt_s {T : TP} {s : Nat} (h : Bt T s < 256) : s < T.1 := Bt_in h
/-- where it ends, how many entries it lays -/
def bnd (T : TP) (s c : Nat) (x : Nat) (q : Nat × Nat × EL) : Prop := s < q.1 ∧ q.1 ≤ T.1 ∧ c < q.2.1 ∧ q.2.1 ≤ 60 ∧ 3 * q.2.2.length + x + s + 4 * c ≤ q.1 + 4 * q.2.1
theorem tlp_in {T : TP} : ∀ (f s c : Nat) (l : EL) (q : Nat × Nat × EL), s ≤ T.1 → c ≤ 60 → WF l → tlp T f s c l = .inr q → WF q.2.2 ∧ s ≤ q.1 ∧ q.1 ≤ T.1 ∧ c ≤ q.2.1 ∧ q.2.1 ≤ 60 ∧ 3 * q.2.2.length + s + 4 * c ≤ 3 * l.length + q.1 + 4 * q.2.1
  | 0, s, c, l, q, hs, hc, hl, h => by
    cases h
    exact ⟨hl, Nat.le_refl _, hs, Nat.le_refl _, hc, Nat.le_refl _⟩
  | f + 1, s, c, l, q, hs, hc, hl, h => by
    have h : (if mulK (Bt T s) = 0 then .inr (s, c, l) else sB (pV T (nx' T s) c) fun en => tlp T f (nx' T (nx' T s)) (c + 1) (l ++ [en, (mulK (Bt T s), 0)])) = Sum.inr q := h
    by_cases hm : mulK (Bt T s) = 0
    · rw [if_pos hm] at h
      cases h
      exact ⟨hl, Nat.le_refl _, hs, Nat.le_refl _, hc, Nat.le_refl _⟩
    · rw [if_neg hm] at h
      obtain ⟨en, h1, h2⟩ := sB_inr h
      obtain ⟨a1, a2, a3, -⟩ := pV_in h1
      obtain ⟨b1, b2⟩ := mulK_b _ hm
      have hlt := nx_lt (Bt_s (T := T) (s := s) (by omega))
      have hlt2 := nx_lt a1
      have hle := nx_le (Nat.le_of_lt a1)
      have e : l ++ [en, (mulK (Bt T s), 0)] = l ++ [en] ++ [(mulK (Bt T s), 0)] := by simp
      rw [e] at h2
      obtain ⟨c1, c2, c3, c4, c5, c6⟩ := tlp_in f _ _ _ q hle.2 (by omega) (WF_B hl a3 b1) h2
      rw [List.length_append, List.length_append] at c6
      have z1 : [en].length = 1 := rfl
      have z2 : [(mulK (Bt T s), 0)].length = 1 := rfl
      rw [z1, z2] at c6
      exact ⟨c1, by omega, c3, by omega, c5, by omega⟩
theorem pT_in {T : TP} {s c : Nat} {q : Nat × Nat × EL} (hc : c ≤ 60) (h : pT T s c = .inr q) : WF q.2.2 ∧ bnd T s c 2 q := by
  obtain ⟨en, h1, h2⟩ := sB_inr h
  obtain ⟨a1, a2, a3, -⟩ := pV_in h1
  have hlt := nx_lt a1
  have hle := nx_le (Nat.le_of_lt a1)
  obtain ⟨c1, c2, c3, c4, c5, c6⟩ := tlp_in 61 _ _ _ q hle.2 (by omega) a3 h2
  have z1 : [en].length = 1 := rfl
  rw [z1] at c6
  unfold bnd
  exact ⟨c1, by omega, c3, by omega, c5, by omega⟩
theorem slp_in {T : TP} : ∀ (f s c : Nat) (l : EL) (q : Nat × Nat × EL), s ≤ T.1 → c ≤ 60 → WF l → slp T f s c l = .inr q → WF q.2.2 ∧ s ≤ q.1 ∧ q.1 ≤ T.1 ∧ c ≤ q.2.1 ∧ q.2.1 ≤ 60 ∧ 3 * q.2.2.length + s + 4 * c ≤ 3 * l.length + q.1 + 4 * q.2.1
  | 0, s, c, l, q, hs, hc, hl, h => by
    cases h
    exact ⟨hl, Nat.le_refl _, hs, Nat.le_refl _, hc, Nat.le_refl _⟩
  | f + 1, s, c, l, q, hs, hc, hl, h => by
    have h : (if addK (Bt T s) = 0 then .inr (s, c, l) else sB (pT T (nx' T s) c) fun q => slp T f q.1 q.2.1 (l ++ q.2.2 ++ [(addK (Bt T s), 0)])) = Sum.inr q := h
    by_cases hm : addK (Bt T s) = 0
    · rw [if_pos hm] at h
      cases h
      exact ⟨hl, Nat.le_refl _, hs, Nat.le_refl _, hc, Nat.le_refl _⟩
    · rw [if_neg hm] at h
      obtain ⟨r, h1, h2⟩ := sB_inr h
      obtain ⟨a1, a2, a3, a4, a5, a6⟩ := pT_in hc h1
      obtain ⟨b1, b2⟩ := addK_b _ hm
      have hlt := nx_lt (Bt_s (T := T) (s := s) (by omega))
      obtain ⟨c1, c2, c3, c4, c5, c6⟩ := slp_in f _ _ _ q a3 a5 (WF_B hl a1 b1) h2
      rw [List.length_append, List.length_append] at c6
      have z2 : [(addK (Bt T s), 0)].length = 1 := rfl
      rw [z2] at c6
      exact ⟨c1, by omega, c3, by omega, c5, by omega⟩
theorem pS_in {T : TP} {s c : Nat} {q : Nat × Nat × EL} (hc : c ≤ 60) (h : pS T s c = .inr q) : WF q.2.2 ∧ bnd T s c 2 q := by
  obtain ⟨r, h1, h2⟩ := sB_inr h
  obtain ⟨a1, a2, a3, a4, a5, a6⟩ := pT_in hc h1
  obtain ⟨c1, c2, c3, c4, c5, c6⟩ := slp_in 61 _ _ _ q a3 a5 a1 h2
  unfold bnd
  exact ⟨c1, by omega, c3, by omega, c5, by omega⟩
def WT (l : EL) : Prop := WF l ∧ l ≠ [] ∧ ∀ u, T01 (evl u l)
theorem pC_in {T : TP} {s c : Nat} {q : Nat × Nat × EL} (hc : c ≤ 60) (h : pC T s c = .inr q) : WT q.2.2 ∧ bnd T s c 3 q := by
  obtain ⟨r, h1, h2⟩ := sB_inr h
  obtain ⟨a1, a2, a3, a4, a5, a6⟩ := pS_in hc h1
  by_cases hk : cmK T r.1 = 0
  · rw [if_pos hk] at h2
    cases h2
  rw [if_neg hk] at h2
  by_cases h60 : r.2.1 = 60
  · rw [if_pos h60] at h2
    cases h2
  rw [if_neg h60] at h2
  obtain ⟨t, g1, g2⟩ := sB_inr h2
  obtain ⟨b1, b2, b3, b4, b5, b6⟩ := pS_in (by omega) g1
  obtain ⟨k1, k2, k3⟩ := cmK_b hk
  have hlt := nx_lt (Bt_s (T := T) (s := r.1) (by omega))
  cases g2
  refine ⟨⟨WF_B a1 b1 k1, by simp, fun u => by rw [evl_B a1 b1 k1]; exact bo_T k2 _ _⟩, ?_⟩
  unfold bnd
  rw [List.length_append, List.length_append]
  have z2 : [(cmK T r.1, 0)].length = 1 := rfl
  rw [z2]
  refine ⟨by show s < t.1; omega, b3, by show c < t.2.1; omega, b5, ?_⟩
  show 3 * (r.2.2.length + t.2.2.length + 1) + 3 + s + 4 * c ≤ t.1 + 4 * t.2.1
  omega
