/-! THE STORE: the pure heap as a list of shapes (which never change, but grow) and what the cells hold -/
abbrev Sh : Type := (Nat × Nat) ⊕ (Nat × List (Nat × Nat))
/-- ints of objects, longs, references that change, int arrays, long arrays, arrays of references -/
abbrev ST : Type := (Nat → Nat → Int32) × (Nat → Nat → Int64) × (Nat → Nat → Value) × (Nat → Nat → Int32) × (Nat → Nat → Int64) × (Nat → Nat → Option Nat)
/-- a field's kind: 0 int, 1 long, 2 a reference that stays, else one that changes -/
def fV (x : ST) (o k : Nat) (q : Nat × Nat) : Value := if q.1 = 0 then .int (x.1 o k) else if q.1 = 1 then .long (x.2.1 o k) else if q.1 = 2 then .ref q.2 else x.2.2.1 o k
/-- a row counts as far as it goes -/
def trn {α : Type} (z : α) (n : Nat) (f : Nat → α) : Nat → α := fun k => if k < n then f k else z
theorem trn_eq {α : Type} {z : α} {n : Nat} {f g : Nat → α} (h : ∀ k, k < n → f k = g k) : trn z n f = trn z n g := by
  funext k
  unfold trn
  by_cases hk : k < n
  · rw [if_pos hk, if_pos hk, h k hk]
  · rw [if_neg hk, if_neg hk]
theorem trn_upd {n i : Nat} {f : Nat → Int32} {v : Int32} (h : i < n) : upd (trn 0 n f) i v = trn 0 n (upd f i v) := by
  funext k
  unfold upd trn
  by_cases hk : k = i
  · subst hk
    simp [h]
  · by_cases hl : k < n
    · simp [hk, hl]
    · simp [hk, hl]
theorem trn_at {α : Type} {z : α} {n i : Nat} {f : Nat → α} (h : i < n) : trn z n f i = f i := by
  unfold trn
  rw [if_pos h]
def cell (x : ST) (i : Nat) : Sh → PE
  | .inl (t, n) => if t = 1 then .inl (1, n, .inr (.inl (trn 0 n (x.2.2.2.2.1 i)))) else if t < 4 then .inl (t, n, .inl (trn 0 n (x.2.2.2.1 i))) else .inl (t, n, .inr (.inr (.inr (.inr (trn none n (x.2.2.2.2.2 i))))))
  | .inr (ci, fs) => .inr (ci, fs.mapIdx (fun k q => fV x i k q))
def HP (sh : List Sh) (x : ST) : PH := sh.mapIdx (fun i s => cell x i s)
def up2 {α : Type} (f : Nat → Nat → α) (a b : Nat) (v : α) : Nat → Nat → α := fun i j => if i = a ∧ j = b then v else f i j
def up1 {α : Type} (f : Nat → Nat → α) (a : Nat) (g : Nat → α) : Nat → Nat → α := fun i => if i = a then g else f i
def sI (x : ST) (o k : Nat) (v : Int32) : ST := (up2 x.1 o k v, x.2)
def sJL (x : ST) (o k : Nat) (v : Int64) : ST := (x.1, up2 x.2.1 o k v, x.2.2)
def sR (x : ST) (o k : Nat) (v : Value) : ST := (x.1, x.2.1, up2 x.2.2.1 o k v, x.2.2.2)
def sA (x : ST) (a : Nat) (g : Nat → Int32) : ST := (x.1, x.2.1, x.2.2.1, up1 x.2.2.2.1 a g, x.2.2.2.2)
def sAJ (x : ST) (a : Nat) (g : Nat → Int64) : ST := (x.1, x.2.1, x.2.2.1, x.2.2.2.1, up1 x.2.2.2.2.1 a g, x.2.2.2.2.2)
def sAR (x : ST) (a : Nat) (g : Nat → Option Nat) : ST := (x.1, x.2.1, x.2.2.1, x.2.2.2.1, x.2.2.2.2.1, up1 x.2.2.2.2.2 a g)
theorem HP_get (sh : List Sh) (x : ST) (i : Nat) : (HP sh x)[i]? = (sh[i]?).map (cell x i) := by
  unfold HP
  rw [List.getElem?_mapIdx]
theorem HP_len (sh : List Sh) (x : ST) : (HP sh x).length = sh.length := by unfold HP; exact List.length_mapIdx
theorem HP_ext {sh : List Sh} {x y : ST} (h : ∀ i s, sh[i]? = some s → cell x i s = cell y i s) : HP sh x = HP sh y := by
  apply List.ext_getElem?
  intro i
  rw [HP_get, HP_get]
  cases hs : sh[i]? with
  | none => rfl
  | some s => exact congrArg some (h i s hs)
theorem HP_set {sh : List Sh} {x y : ST} {o : Nat} {s : Sh} {e : PE} (ho : sh[o]? = some s) (he : cell y o s = e) (h : ∀ i t, i ≠ o → sh[i]? = some t → cell y i t = cell x i t) : (HP sh x).set o e = HP sh y := by
  apply List.ext_getElem?
  intro i
  rw [List.getElem?_set, HP_get, HP_len]
  by_cases hi : o = i
  · subst hi
    have hl : o < sh.length := (List.getElem?_eq_some_iff.mp ho).1
    rw [if_pos rfl, if_pos hl, HP_get, ho]
    exact congrArg some he.symm
  · rw [if_neg hi, HP_get]
    cases hs : sh[i]? with
    | none => rfl
    | some t => exact congrArg some (h i t (fun q => hi q.symm) hs).symm
theorem gF_HP {sh : List Sh} {x : ST} {o ci k : Nat} {fs : List (Nat × Nat)} {q : Nat × Nat} (ho : sh[o]? = some (.inr (ci, fs))) (hk : fs[k]? = some q) : gF (HP sh x) o ci k = some (fV x o k q) := by
  unfold gF
  rw [HP_get, ho]
  show (if ci = ci then (fs.mapIdx (fun k q => fV x o k q))[k]? else none) = _
  rw [if_pos rfl, List.getElem?_mapIdx, hk]
  rfl
section STORE
variable {sh : List Sh} {x : ST} {o ci k q : Nat} {fs : List (Nat × Nat)}
theorem rI (ho : sh[o]? = some (.inr (ci, fs))) (hk : fs[k]? = some (0, q)) : fI (HP sh x) (.ref o) ci k = some (x.1 o k) := by
  unfold fI
  show (match gF (HP sh x) o ci k with | some (.int x) => some x | _ => none) = _
  rw [gF_HP ho hk]
  rfl
theorem rZ (ho : sh[o]? = some (.inr (ci, fs))) (hk : fs[k]? = some (0, q)) (hv : x.1 o k = 0 ∨ x.1 o k = 1) : fZ (HP sh x) (.ref o) ci k = some (x.1 o k) := by
  unfold fZ
  show (match gF (HP sh x) o ci k with | some (.int x) => if x = 0 ∨ x = 1 then some x else none | _ => none) = _
  rw [gF_HP ho hk]
  show (if x.1 o k = 0 ∨ x.1 o k = 1 then some (x.1 o k) else none) = _
  rw [if_pos hv]
theorem rJ (ho : sh[o]? = some (.inr (ci, fs))) (hk : fs[k]? = some (1, q)) : fL (HP sh x) (.ref o) ci k = some (x.2.1 o k) := by
  unfold fL
  show (match gF (HP sh x) o ci k with | some (.long x) => some x | _ => none) = _
  rw [gF_HP ho hk]
  rfl
theorem rF (ho : sh[o]? = some (.inr (ci, fs))) (hk : fs[k]? = some (2, q)) : fR (HP sh x) (.ref o) ci k = some (.ref q) := by
  unfold fR
  show (match gF (HP sh x) o ci k with | some w => if isR w = true then some w else none | _ => none) = _
  rw [gF_HP ho hk]
  rfl
theorem rR (ho : sh[o]? = some (.inr (ci, fs))) (hk : fs[k]? = some (3, q)) (hv : isR (x.2.2.1 o k) = true) : fR (HP sh x) (.ref o) ci k = some (x.2.2.1 o k) := by
  unfold fR
  show (match gF (HP sh x) o ci k with | some w => if isR w = true then some w else none | _ => none) = _
  rw [gF_HP ho hk]
  show (if isR (x.2.2.1 o k) = true then some (x.2.2.1 o k) else none) = _
  rw [if_pos hv]
theorem mapIdx_set {fs : List (Nat × Nat)} {k : Nat} {f g : Nat → Nat × Nat → Value} {q : Nat × Nat} {v : Value} (hk : fs[k]? = some q) (hv : g k q = v) (h : ∀ j p, j ≠ k → g j p = f j p) : (fs.mapIdx f).set k v = fs.mapIdx g := by
  apply List.ext_getElem?
  intro i
  rw [List.getElem?_set, List.getElem?_mapIdx, List.getElem?_mapIdx, List.length_mapIdx]
  by_cases hi : k = i
  · subst hi
    have hl : k < fs.length := (List.getElem?_eq_some_iff.mp hk).1
    rw [if_pos rfl, if_pos hl, hk]
    exact congrArg some hv.symm
  · rw [if_neg hi]
    cases fs[i]? with
    | none => rfl
    | some p => exact congrArg some (h i p (fun e => hi e.symm)).symm
theorem pF_HP {y : ST} {v : Value} {q : Nat × Nat} (ho : sh[o]? = some (.inr (ci, fs))) (hk : fs[k]? = some q) (hv : fV y o k q = v) (h1 : ∀ j p, j ≠ k → fV y o j p = fV x o j p) (h2 : ∀ i t, i ≠ o → sh[i]? = some t → cell y i t = cell x i t) : pF (HP sh x) o ci k v = some (HP sh y) := by
  unfold pF
  rw [HP_get, ho]
  have hl : k < (fs.mapIdx (fun k q => fV x o k q)).length := by rw [List.length_mapIdx]; exact (List.getElem?_eq_some_iff.mp hk).1
  show (if ci = ci ∧ k < (fs.mapIdx (fun k q => fV x o k q)).length then some ((HP sh x).set o (.inr (ci, (fs.mapIdx (fun k q => fV x o k q)).set k v))) else none) = _
  rw [if_pos ⟨rfl, hl⟩, mapIdx_set (g := fun k q => fV y o k q) hk hv h1]
  exact congrArg some (HP_set ho rfl h2)
theorem cell_I {v : Int32} {i : Nat} {t : Sh} (h : i ≠ o) : cell (sI x o k v) i t = cell x i t := by
  cases t with
  | inl a => rfl
  | inr a =>
    obtain ⟨ci, fs⟩ := a
    show Sum.inr (ci, fs.mapIdx (fun k' q => fV (sI x o k v) i k' q)) = Sum.inr (ci, fs.mapIdx (fun k' q => fV x i k' q))
    have : (fun k' q => fV (sI x o k v) i k' q) = (fun k' q => fV x i k' q) := by
      funext k' q
      unfold fV sI up2
      simp [h]
    rw [this]
theorem cell_J {v : Int64} {i : Nat} {t : Sh} (h : i ≠ o) : cell (sJL x o k v) i t = cell x i t := by
  cases t with
  | inl a => rfl
  | inr a =>
    obtain ⟨ci, fs⟩ := a
    show Sum.inr (ci, fs.mapIdx (fun k' q => fV (sJL x o k v) i k' q)) = Sum.inr (ci, fs.mapIdx (fun k' q => fV x i k' q))
    have : (fun k' q => fV (sJL x o k v) i k' q) = (fun k' q => fV x i k' q) := by
      funext k' q
      unfold fV sJL up2
      simp [h]
    rw [this]
theorem cell_R {v : Value} {i : Nat} {t : Sh} (h : i ≠ o) : cell (sR x o k v) i t = cell x i t := by
  cases t with
  | inl a => rfl
  | inr a =>
    obtain ⟨ci, fs⟩ := a
    show Sum.inr (ci, fs.mapIdx (fun k' q => fV (sR x o k v) i k' q)) = Sum.inr (ci, fs.mapIdx (fun k' q => fV x i k' q))
    have : (fun k' q => fV (sR x o k v) i k' q) = (fun k' q => fV x i k' q) := by
      funext k' q
      unfold fV sR up2
      simp [h]
    rw [this]
theorem wI' {v : Int32} (ho : sh[o]? = some (.inr (ci, fs))) (hk : fs[k]? = some (0, q)) : fP (HP sh x) (.ref o) ci k (.int v) = some (HP sh (sI x o k v)) := by
  show pF (HP sh x) o ci k (.int v) = _
  refine pF_HP ho hk ?_ (fun j p hj => ?_) (fun i t hi _ => cell_I hi)
  · unfold fV sI up2
    simp
  · unfold fV sI up2
    simp [hj]
theorem wJ' {v : Int64} (ho : sh[o]? = some (.inr (ci, fs))) (hk : fs[k]? = some (1, q)) : fP (HP sh x) (.ref o) ci k (.long v) = some (HP sh (sJL x o k v)) := by
  show pF (HP sh x) o ci k (.long v) = _
  refine pF_HP ho hk ?_ (fun j p hj => ?_) (fun i t hi _ => cell_J hi)
  · unfold fV sJL up2
    simp
  · unfold fV sJL up2
    simp [hj]
theorem wR' {v : Value} (ho : sh[o]? = some (.inr (ci, fs))) (hk : fs[k]? = some (3, q)) : fP (HP sh x) (.ref o) ci k v = some (HP sh (sR x o k v)) := by
  show pF (HP sh x) o ci k v = _
  refine pF_HP ho hk ?_ (fun j p hj => ?_) (fun i t hi _ => cell_R hi)
  · unfold fV sR up2
    simp
  · unfold fV sR up2
    simp [hj]
end STORE
section ARRS
variable {sh : List Sh} {x : ST} {a n : Nat}
theorem cell_int {t : Nat} (ht : t = 0 ∨ t = 2 ∨ t = 3) (x : ST) (a n : Nat) : cell x a (.inl (t, n)) = .inl (t, n, .inl (trn 0 n (x.2.2.2.1 a))) := by
  rcases ht with rfl | rfl | rfl <;> rfl
theorem aI_HP {t : Nat} {i : Int32} (ht : t = 0 ∨ t = 2 ∨ t = 3) (ha : sh[a]? = some (.inl (t, n))) : aI (HP sh x) a t i = if ¬ (i < 0 ∨ n ≤ i.toNatClampNeg) then some (x.2.2.2.1 a i.toNatClampNeg) else none := by
  unfold aI
  rw [HP_get, ha, Option.map_some, cell_int ht]
  show (if t = t ∧ ¬ (i < 0 ∨ n ≤ i.toNatClampNeg) then some (trn 0 n (x.2.2.2.1 a) i.toNatClampNeg) else none) = _
  by_cases h : ¬ (i < 0 ∨ n ≤ i.toNatClampNeg)
  · rw [if_pos h, if_pos ⟨rfl, h⟩, trn_at (Nat.lt_of_not_le (fun q => h (Or.inr q)))]
  · rw [if_neg h, if_neg (fun q => h q.2)]
theorem in_nI {j : Nat} (hj : j < n) (hn : n < 2 ^ 31) : ¬ (nI j < 0 ∨ n ≤ (nI j).toNatClampNeg) := vp_in_nI hj hn
theorem rA {j : Nat} (ha : sh[a]? = some (.inl (0, n))) (hj : j < n) (hn : n < 2 ^ 31) : eI (HP sh x) (.ref a) (nI j) = some (x.2.2.2.1 a j) := by
  show aI (HP sh x) a 0 (nI j) = _
  rw [aI_HP (Or.inl rfl) ha, if_pos (in_nI hj hn), nI_clamp (by omega)]
theorem cell_A {i : Nat} {t : Sh} {g : Nat → Int32} (h : i ≠ a) : cell (sA x a g) i t = cell x i t := by
  cases t with
  | inl q =>
    obtain ⟨t, n⟩ := q
    unfold cell sA up1
    simp [h]
  | inr q => rfl
theorem uI_HP {t : Nat} {i v : Int32} (ht : t = 0 ∨ t = 2 ∨ t = 3) (ha : sh[a]? = some (.inl (t, n))) : uI (HP sh x) a t i v = if ¬ (i < 0 ∨ n ≤ i.toNatClampNeg) then some (HP sh (sA x a (upd (x.2.2.2.1 a) i.toNatClampNeg v))) else none := by
  unfold uI
  rw [HP_get, ha, Option.map_some, cell_int ht]
  show (if t = t ∧ ¬ (i < 0 ∨ n ≤ i.toNatClampNeg) then some ((HP sh x).set a _) else none) = _
  by_cases h : ¬ (i < 0 ∨ n ≤ i.toNatClampNeg)
  · rw [if_pos h, if_pos ⟨rfl, h⟩]
    refine congrArg some (HP_set ha ?_ (fun i t hi _ => cell_A hi))
    rw [cell_int ht, trn_upd (Nat.lt_of_not_le (fun q => h (Or.inr q)))]
    unfold sA up1
    simp
  · rw [if_neg h, if_neg (fun q => h q.2)]
theorem wA {j : Nat} {v : Int32} (ha : sh[a]? = some (.inl (0, n))) (hj : j < n) (hn : n < 2 ^ 31) : wI (HP sh x) (.ref a) (nI j) v = some (HP sh (sA x a (upd (x.2.2.2.1 a) j v))) := by
  show uI (HP sh x) a 0 (nI j) v = _
  rw [uI_HP (Or.inl rfl) ha, if_pos (in_nI hj hn), nI_clamp (by omega)]
theorem cpA {b m c : Nat} (ha : sh[a]? = some (.inl (0, n))) (hb : sh[b]? = some (.inl (0, m))) (h1 : c ≤ n) (h2 : c ≤ m) (hn : c < 2 ^ 31) : cP (HP sh x) (.ref a) 0 (.ref b) 0 (nI c) = some (HP sh (sA x b (va_cpy (x.2.2.2.1 a) (x.2.2.2.1 b) 0 0 c))) := by
  show cpy (HP sh x) a 0 b 0 (nI c) = _
  unfold cpy
  rw [HP_get, HP_get, ha, hb, Option.map_some, Option.map_some, cell_int (Or.inl rfl), cell_int (Or.inl rfl)]
  show (if ¬ (0 : Int32) < 0 ∧ ¬ (0 : Int32) < 0 ∧ ¬ nI c < 0 ∧ (0 : Int32).toNatClampNeg + (nI c).toNatClampNeg ≤ n ∧ (0 : Int32).toNatClampNeg + (nI c).toNatClampNeg ≤ m then some ((HP sh x).set b _) else none) = _
  rw [nI_clamp hn]
  have z : (0 : Int32).toNatClampNeg = 0 := rfl
  rw [z, if_pos ⟨by decide, by decide, nI_pos hn, by omega, by omega⟩]
  refine congrArg some (HP_set hb ?_ (fun i t hi _ => cell_A hi))
  rw [cell_int (Or.inl rfl)]
  have e : va_cpy (trn 0 n (x.2.2.2.1 a)) (trn 0 m (x.2.2.2.1 b)) 0 0 c = trn 0 m (va_cpy (x.2.2.2.1 a) (x.2.2.2.1 b) 0 0 c) := by
    funext k
    unfold va_cpy trn
    by_cases hk : 0 ≤ k ∧ k < 0 + c
    · have q1 : k < c := by omega
      have q2 : k < n := by omega
      have q3 : k < m := by omega
      simp [q1, q2, q3]
    · have q1 : ¬ k < c := by omega
      simp [q1]
  rw [e]
  unfold sA up1
  simp
theorem lenA {t : Nat} (ht : t < 7) (ha : sh[a]? = some (.inl (t, n))) : nA (HP sh x) (.ref a) = some (Int32.ofNat n) := by
  show aN (HP sh x) a = _
  unfold aN
  rw [HP_get, ha]
  unfold cell
  by_cases h1 : t = 1
  · subst h1
    rfl
  · by_cases h4 : t < 4
    · simp [h1, h4, ht]
    · simp [h1, h4, ht]
theorem iO_HP {o ci : Nat} {fs : List (Nat × Nat)} (ho : sh[o]? = some (.inr (ci, fs))) : iO (HP sh x) (.ref o) ci = some o := by
  unfold iO
  show (if isO (HP sh x) o ci = true then some o else none) = _
  unfold isO
  rw [HP_get, ho]
  show (if (ci == ci) = true then some o else none) = _
  rw [if_pos (by simp)]
end ARRS
theorem cell_int' (x : ST) (a n : Nat) : cell x a (.inl (0, n)) = .inl (0, n, .inl (trn 0 n (x.2.2.2.1 a))) := rfl
