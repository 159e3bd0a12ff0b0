/-! the model: its cell is 259, its rows 260 to 306 (by program) -/
abbrev MM : Type := (Nat → Int32) × (Nat → Nat → Int32) × (Nat → Nat → Int64)
def MSH : List Sh := [.inr (13, [(0, 0), (2, 260), (2, 261), (2, 262), (2, 263), (2, 264), (2, 265), (2, 266), (2, 267), (2, 268), (2, 269), (2, 270), (2, 271), (2, 272), (2, 273), (2, 274), (2, 275), (2, 276), (2, 277), (2, 278), (2, 279), (2, 280), (2, 281), (2, 282), (2, 283), (2, 284), (2, 285), (2, 286), (0, 0), (0, 0), (0, 0), (0, 0), (0, 0), (0, 0), (0, 0), (0, 0), (0, 0), (0, 0), (2, 287), (2, 288), (2, 289), (2, 290), (2, 291), (2, 292), (2, 293), (2, 294), (2, 295), (2, 296), (2, 297), (2, 298), (2, 299), (0, 0), (0, 0), (0, 0), (2, 300), (2, 301), (2, 302), (2, 303), (2, 304), (2, 305), (2, 306), (0, 0), (0, 0)]), .inl (0, 10), .inl (0, 6), .inl (0, 6), .inl (0, 6), .inl (0, 6), .inl (0, 6), .inl (0, 5), .inl (0, 30), .inl (0, 8), .inl (0, 6), .inl (0, 5), .inl (0, 5), .inl (0, 5), .inl (0, 10), .inl (0, 10), .inl (0, 10), .inl (0, 6), .inl (0, 6), .inl (0, 8), .inl (0, 4), .inl (0, 6), .inl (0, 6), .inl (0, 6), .inl (0, 5), .inl (0, 5), .inl (0, 5), .inl (0, 8), .inl (2, 400), .inl (0, 1800), .inl (0, 1800), .inl (0, 6), .inl (0, 72), .inl (0, 72), .inl (0, 72), .inl (0, 402), .inl (1, 12), .inl (1, 300), .inl (0, 5), .inl (0, 1520), .inl (0, 1), .inl (0, 512), .inl (0, 64), .inl (0, 64), .inl (0, 305), .inl (0, 35), .inl (0, 9500), .inl (3, 4)]
def pM (x : ST) (m : MM) : ST := ((fun o => if o = 259 then m.1 else x.1 o), x.2.1, x.2.2.1, (fun a => if 260 ≤ a ∧ a < 307 then m.2.1 (a - 260) else x.2.2.2.1 a), (fun a => if 260 ≤ a ∧ a < 307 then m.2.2 (a - 260) else x.2.2.2.2.1 a), x.2.2.2.2.2)
def gM (x : ST) : MM := (x.1 259, (fun j => x.2.2.2.1 (260 + j)), fun j => x.2.2.2.2.1 (260 + j))
def mI (m : MM) (k : Nat) (v : Int32) : MM := (upd m.1 k v, m.2)
def mA (m : MM) (a : Nat) (j : Nat) (v : Int32) : MM := (m.1, (fun i => if i = a then upd (m.2.1 a) j v else m.2.1 i), m.2.2)
def updL (f : Nat → Int64) (i : Nat) (v : Int64) : Nat → Int64 := fun j => if j = i then v else f j
def mL (m : MM) (a : Nat) (j : Nat) (v : Int64) : MM := (m.1, m.2.1, fun i => if i = a then updL (m.2.2 a) j v else m.2.2 i)
theorem mA_1 (m : MM) (a j : Nat) (v : Int32) : (mA m a j v).1 = m.1 := rfl
theorem mA_L (m : MM) (a j : Nat) (v : Int32) : (mA m a j v).2.2 = m.2.2 := rfl
theorem mA_eq (m : MM) (a j : Nat) (v : Int32) : (mA m a j v).2.1 a = upd (m.2.1 a) j v := if_pos rfl
theorem mA_ne (m : MM) {a b : Nat} (j : Nat) (v : Int32) (h : b ≠ a) : (mA m a j v).2.1 b = m.2.1 b := if_neg h
theorem mL_1 (m : MM) (a j : Nat) (v : Int64) : (mL m a j v).1 = m.1 := rfl
theorem mL_A (m : MM) (a j : Nat) (v : Int64) : (mL m a j v).2.1 = m.2.1 := rfl
theorem mL_eq (m : MM) (a j : Nat) (v : Int64) : (mL m a j v).2.2 a = updL (m.2.2 a) j v := if_pos rfl
theorem mL_ne (m : MM) {a b : Nat} (j : Nat) (v : Int64) (h : b ≠ a) : (mL m a j v).2.2 b = m.2.2 b := if_neg h
theorem mI_A (m : MM) (k : Nat) (v : Int32) : (mI m k v).2 = m.2 := rfl
theorem mI_eq (m : MM) (k : Nat) (v : Int32) : (mI m k v).1 k = v := if_pos rfl
theorem mI_ne (m : MM) {k j : Nat} (v : Int32) (h : j ≠ k) : (mI m k v).1 j = m.1 j := if_neg h
theorem updL_at (f : Nat → Int64) (i : Nat) (a : Int64) : updL f i a i = a := if_pos rfl
theorem updL_ne (f : Nat → Int64) {i j : Nat} (a : Int64) (h : j ≠ i) : updL f i a j = f j := if_neg h
theorem trn_updL {n i : Nat} {f : Nat → Int64} {v : Int64} (h : i < n) : (fun j => if j = i then v else trn 0 n f j) = trn 0 n (updL f i v) := by
  funext k
  unfold updL trn
  by_cases hk : k = i
  · subst hk
    simp [h]
  · by_cases hl : k < n
    · simp [hk, hl]
    · simp [hk, hl]
theorem cell_long (x : ST) (a n : Nat) : cell x a (.inl (1, n)) = .inl (1, n, .inr (.inl (trn 0 n (x.2.2.2.2.1 a)))) := rfl
section LONGS
variable {sh : List Sh} {x : ST} {a n : Nat}
theorem cell_AJ {i : Nat} {t : Sh} {g : Nat → Int64} (h : i ≠ a) : cell (sAJ x a g) i t = cell x i t := by
  cases t with
  | inl q =>
    obtain ⟨t, n⟩ := q
    unfold cell sAJ up1
    simp [h]
  | inr q => rfl
theorem rAJ {j : Nat} (ha : sh[a]? = some (.inl (1, n))) (hj : j < n) (hn : n < 2 ^ 31) : eL (HP sh x) (.ref a) (nI j) = some (x.2.2.2.2.1 a j) := by
  show aL (HP sh x) a (nI j) = _
  unfold aL
  rw [HP_get, ha, Option.map_some, cell_long]
  show (if 1 = 1 ∧ ¬ (nI j < 0 ∨ n ≤ (nI j).toNatClampNeg) then some (trn 0 n (x.2.2.2.2.1 a) (nI j).toNatClampNeg) else none) = _
  rw [if_pos ⟨rfl, in_nI hj hn⟩, nI_clamp (by omega), trn_at hj]
theorem wAJ {j : Nat} {v : Int64} (ha : sh[a]? = some (.inl (1, n))) (hj : j < n) (hn : n < 2 ^ 31) : wL (HP sh x) (.ref a) (nI j) v = some (HP sh (sAJ x a (updL (x.2.2.2.2.1 a) j v))) := by
  show uL (HP sh x) a (nI j) v = _
  unfold uL
  rw [HP_get, ha, Option.map_some, cell_long]
  show (if 1 = 1 ∧ ¬ (nI j < 0 ∨ n ≤ (nI j).toNatClampNeg) then some ((HP sh x).set a (.inl (1, n, .inr (.inl (fun k => if k = (nI j).toNatClampNeg then v else trn 0 n (x.2.2.2.2.1 a) k))))) else none) = _
  rw [if_pos ⟨rfl, in_nI hj hn⟩, nI_clamp (by omega), trn_updL hj]
  refine congrArg some (HP_set ha ?_ (fun i t hi _ => cell_AJ hi))
  rw [cell_long]
  unfold sAJ up1
  simp
theorem bK_HP {t : Nat} (ht : t = 2 ∨ t = 3) (ha : sh[a]? = some (.inl (t, n))) : bK (HP sh x) a = some t := by
  unfold bK
  rw [HP_get, ha, Option.map_some, cell_int (by omega)]
  rcases ht with rfl | rfl <;> rfl
theorem rAB {j t : Nat} (ht : t = 2 ∨ t = 3) (ha : sh[a]? = some (.inl (t, n))) (hj : j < n) (hn : n < 2 ^ 31) : eB (HP sh x) (.ref a) (nI j) = some (x.2.2.2.1 a j) := by
  show (match bK (HP sh x) a with | some t => aI (HP sh x) a t (nI j) | none => none) = _
  rw [bK_HP ht ha]
  show aI (HP sh x) a t (nI j) = _
  rw [aI_HP (by omega) ha, if_pos (in_nI hj hn), nI_clamp (by omega)]
theorem wAB {j t : Nat} {v : Int32} (ht : t = 2 ∨ t = 3) (ha : sh[a]? = some (.inl (t, n))) (hj : j < n) (hn : n < 2 ^ 31) : wB (HP sh x) (.ref a) (nI j) v = some (HP sh (sA x a (upd (x.2.2.2.1 a) j (vp_nar (if t = 2 then .byte else .boolean) v)))) := by
  show (match bK (HP sh x) a with | some t => uI (HP sh x) a t (nI j) (vp_nar (if t = 2 then .byte else .boolean) v) | none => none) = _
  rw [bK_HP ht ha]
  show uI (HP sh x) a t (nI j) _ = _
  rw [uI_HP (by omega) ha, if_pos (in_nI hj hn), nI_clamp (by omega)]
end LONGS
def isMo (sh : List Sh) : Prop := ∀ i s, MSH[i]? = some s → sh[259 + i]? = some s
section MACC
variable {sh : List Sh} (x : ST) (m : MM)
theorem pM_I (k : Nat) : (pM x m).1 259 k = m.1 k := rfl
theorem pM_A (a j : Nat) (ha : a = 260 + j) (hj : j < 47) : (pM x m).2.2.2.1 a = m.2.1 j := by
  show (if 260 ≤ a ∧ a < 307 then m.2.1 (a - 260) else x.2.2.2.1 a) = _
  rw [if_pos (by omega), show a - 260 = j by omega]
theorem pM_J (a j : Nat) (ha : a = 260 + j) (hj : j < 47) : (pM x m).2.2.2.2.1 a = m.2.2 j := by
  show (if 260 ≤ a ∧ a < 307 then m.2.2 (a - 260) else x.2.2.2.2.1 a) = _
  rw [if_pos (by omega), show a - 260 = j by omega]
theorem pM_sI (k : Nat) (v : Int32) : sI (pM x m) 259 k v = pM x (mI m k v) := by
  unfold sI pM up2 mI upd
  simp only [Prod.mk.injEq, and_true]
  funext o j
  by_cases ho : o = 259
  · simp [ho]
  · simp [ho]
theorem pM_sA (a j k : Nat) (v : Int32) (ha : a = 260 + j) (hj : j < 47) : sA (pM x m) a (upd (m.2.1 j) k v) = pM x (mA m j k v) := by
  unfold sA pM up1 mA
  simp only [Prod.mk.injEq, and_true, true_and]
  funext c
  by_cases hc : c = a
  · subst hc
    rw [if_pos rfl, if_pos (by omega), if_pos (by omega)]
  · rw [if_neg hc]
    by_cases hr : 260 ≤ c ∧ c < 307
    · rw [if_pos hr, if_pos hr, if_neg (by omega)]
    · rw [if_neg hr, if_neg hr]
theorem pM_sJ (a j k : Nat) (v : Int64) (ha : a = 260 + j) (hj : j < 47) : sAJ (pM x m) a (updL (m.2.2 j) k v) = pM x (mL m j k v) := by
  unfold sAJ pM up1 mL
  simp only [Prod.mk.injEq, and_true, true_and]
  funext c
  by_cases hc : c = a
  · subst hc
    rw [if_pos rfl, if_pos (by omega), if_pos (by omega)]
  · rw [if_neg hc]
    by_cases hr : 260 ≤ c ∧ c < 307
    · rw [if_pos hr, if_pos hr, if_neg (by omega)]
    · rw [if_neg hr, if_neg hr]
theorem gM_pM : ∀ j, (gM (pM x m)).1 = m.1 ∧ (j < 47 → (gM (pM x m)).2.1 j = m.2.1 j ∧ (gM (pM x m)).2.2 j = m.2.2 j) := fun j => ⟨rfl, fun hj => ⟨pM_A x m _ j rfl hj, pM_J x m _ j rfl hj⟩⟩
theorem pM_gM : pM x (gM x) = x := by
  obtain ⟨i, j, r, a, al, q⟩ := x
  unfold pM gM
  simp only [Prod.mk.injEq, true_and, and_true]
  refine ⟨?_, ?_, ?_⟩
  · funext o
    by_cases ho : o = 259
    · simp [ho]
    · simp [ho]
  · funext c
    by_cases hr : 260 ≤ c ∧ c < 307
    · rw [if_pos hr, show 260 + (c - 260) = c by omega]
    · rw [if_neg hr]
  · funext c
    by_cases hr : 260 ≤ c ∧ c < 307
    · rw [if_pos hr, show 260 + (c - 260) = c by omega]
    · rw [if_neg hr]
end MACC
section MACC2
variable {sh : List Sh} {x : ST} {m : MM}
theorem M_thrown (h : isMo sh) : fI (HP sh (pM x m)) (.ref 259) 13 0 = some (m.1 0) := rI (h 0 _ rfl) (q := 0) rfl
theorem Mw_thrown (h : isMo sh) (v : Int32) : fP (HP sh (pM x m)) (.ref 259) 13 0 (.int v) = some (HP sh (pM x (mI m 0 v))) := by rw [wI' (h 0 _ rfl) (q := 0) rfl, pM_sI]
theorem M_taped (h : isMo sh) : fI (HP sh (pM x m)) (.ref 259) 13 28 = some (m.1 28) := rI (h 0 _ rfl) (q := 0) rfl
theorem Mw_taped (h : isMo sh) (v : Int32) : fP (HP sh (pM x m)) (.ref 259) 13 28 (.int v) = some (HP sh (pM x (mI m 28 v))) := by rw [wI' (h 0 _ rfl) (q := 0) rfl, pM_sI]
theorem M_p (h : isMo sh) : fI (HP sh (pM x m)) (.ref 259) 13 29 = some (m.1 29) := rI (h 0 _ rfl) (q := 0) rfl
theorem Mw_p (h : isMo sh) (v : Int32) : fP (HP sh (pM x m)) (.ref 259) 13 29 (.int v) = some (HP sh (pM x (mI m 29 v))) := by rw [wI' (h 0 _ rfl) (q := 0) rfl, pM_sI]
theorem M_fault (h : isMo sh) : fI (HP sh (pM x m)) (.ref 259) 13 30 = some (m.1 30) := rI (h 0 _ rfl) (q := 0) rfl
theorem Mw_fault (h : isMo sh) (v : Int32) : fP (HP sh (pM x m)) (.ref 259) 13 30 (.int v) = some (HP sh (pM x (mI m 30 v))) := by rw [wI' (h 0 _ rfl) (q := 0) rfl, pM_sI]
theorem M_slot (h : isMo sh) : fI (HP sh (pM x m)) (.ref 259) 13 31 = some (m.1 31) := rI (h 0 _ rfl) (q := 0) rfl
theorem Mw_slot (h : isMo sh) (v : Int32) : fP (HP sh (pM x m)) (.ref 259) 13 31 (.int v) = some (HP sh (pM x (mI m 31 v))) := by rw [wI' (h 0 _ rfl) (q := 0) rfl, pM_sI]
theorem M_rules (h : isMo sh) : fI (HP sh (pM x m)) (.ref 259) 13 32 = some (m.1 32) := rI (h 0 _ rfl) (q := 0) rfl
theorem Mw_rules (h : isMo sh) (v : Int32) : fP (HP sh (pM x m)) (.ref 259) 13 32 (.int v) = some (HP sh (pM x (mI m 32 v))) := by rw [wI' (h 0 _ rfl) (q := 0) rfl, pM_sI]
theorem M_entries (h : isMo sh) : fI (HP sh (pM x m)) (.ref 259) 13 33 = some (m.1 33) := rI (h 0 _ rfl) (q := 0) rfl
theorem Mw_entries (h : isMo sh) (v : Int32) : fP (HP sh (pM x m)) (.ref 259) 13 33 (.int v) = some (HP sh (pM x (mI m 33 v))) := by rw [wI' (h 0 _ rfl) (q := 0) rfl, pM_sI]
theorem M_deep (h : isMo sh) : fI (HP sh (pM x m)) (.ref 259) 13 34 = some (m.1 34) := rI (h 0 _ rfl) (q := 0) rfl
theorem Mw_deep (h : isMo sh) (v : Int32) : fP (HP sh (pM x m)) (.ref 259) 13 34 (.int v) = some (HP sh (pM x (mI m 34 v))) := by rw [wI' (h 0 _ rfl) (q := 0) rfl, pM_sI]
theorem M_counted (h : isMo sh) : fI (HP sh (pM x m)) (.ref 259) 13 35 = some (m.1 35) := rI (h 0 _ rfl) (q := 0) rfl
theorem Mw_counted (h : isMo sh) (v : Int32) : fP (HP sh (pM x m)) (.ref 259) 13 35 (.int v) = some (HP sh (pM x (mI m 35 v))) := by rw [wI' (h 0 _ rfl) (q := 0) rfl, pM_sI]
theorem M_opened (h : isMo sh) : fI (HP sh (pM x m)) (.ref 259) 13 36 = some (m.1 36) := rI (h 0 _ rfl) (q := 0) rfl
theorem Mw_opened (h : isMo sh) (v : Int32) : fP (HP sh (pM x m)) (.ref 259) 13 36 (.int v) = some (HP sh (pM x (mI m 36 v))) := by rw [wI' (h 0 _ rfl) (q := 0) rfl, pM_sI]
theorem M_words (h : isMo sh) : fI (HP sh (pM x m)) (.ref 259) 13 37 = some (m.1 37) := rI (h 0 _ rfl) (q := 0) rfl
theorem Mw_words (h : isMo sh) (v : Int32) : fP (HP sh (pM x m)) (.ref 259) 13 37 (.int v) = some (HP sh (pM x (mI m 37 v))) := by rw [wI' (h 0 _ rfl) (q := 0) rfl, pM_sI]
theorem M_pastMany (h : isMo sh) : fI (HP sh (pM x m)) (.ref 259) 13 51 = some (m.1 51) := rI (h 0 _ rfl) (q := 0) rfl
theorem Mw_pastMany (h : isMo sh) (v : Int32) : fP (HP sh (pM x m)) (.ref 259) 13 51 (.int v) = some (HP sh (pM x (mI m 51 v))) := by rw [wI' (h 0 _ rfl) (q := 0) rfl, pM_sI]
theorem M_pastAt (h : isMo sh) : fI (HP sh (pM x m)) (.ref 259) 13 52 = some (m.1 52) := rI (h 0 _ rfl) (q := 0) rfl
theorem Mw_pastAt (h : isMo sh) (v : Int32) : fP (HP sh (pM x m)) (.ref 259) 13 52 (.int v) = some (HP sh (pM x (mI m 52 v))) := by rw [wI' (h 0 _ rfl) (q := 0) rfl, pM_sI]
theorem M_takesBack (h : isMo sh) (hv : m.1 53 = 0 ∨ m.1 53 = 1) : fZ (HP sh (pM x m)) (.ref 259) 13 53 = some (m.1 53) := rZ (h 0 _ rfl) (q := 0) rfl hv
theorem Mw_takesBack (h : isMo sh) (v : Int32) : fP (HP sh (pM x m)) (.ref 259) 13 53 (.int v) = some (HP sh (pM x (mI m 53 v))) := by rw [wI' (h 0 _ rfl) (q := 0) rfl, pM_sI]
theorem M_imageAt (h : isMo sh) : fI (HP sh (pM x m)) (.ref 259) 13 61 = some (m.1 61) := rI (h 0 _ rfl) (q := 0) rfl
theorem Mw_imageAt (h : isMo sh) (v : Int32) : fP (HP sh (pM x m)) (.ref 259) 13 61 (.int v) = some (HP sh (pM x (mI m 61 v))) := by rw [wI' (h 0 _ rfl) (q := 0) rfl, pM_sI]
theorem M_goesBack (h : isMo sh) (hv : m.1 62 = 0 ∨ m.1 62 = 1) : fZ (HP sh (pM x m)) (.ref 259) 13 62 = some (m.1 62) := rZ (h 0 _ rfl) (q := 0) rfl hv
theorem Mw_goesBack (h : isMo sh) (v : Int32) : fP (HP sh (pM x m)) (.ref 259) 13 62 (.int v) = some (HP sh (pM x (mI m 62 v))) := by rw [wI' (h 0 _ rfl) (q := 0) rfl, pM_sI]
theorem M_scalar (h : isMo sh) : fR (HP sh (pM x m)) (.ref 259) 13 1 = some (.ref 260) := rF (h 0 _ rfl) (q := 260) rfl
theorem Mn_scalar (h : isMo sh) : sh[260]? = some (.inl (0, 10)) := h 1 _ rfl
theorem Me_scalar (h : isMo sh) {j : Nat} (hj : j < 10) : eI (HP sh (pM x m)) (.ref 260) (nI j) = some (m.2.1 0 j) := by rw [rA (Mn_scalar h) hj (by decide), pM_A x m 260 0 rfl (by decide)]
theorem Mu_scalar (h : isMo sh) {j : Nat} (hj : j < 10) (v : Int32) : wI (HP sh (pM x m)) (.ref 260) (nI j) v = some (HP sh (pM x (mA m 0 j v))) := by rw [wA (Mn_scalar h) hj (by decide), pM_A x m 260 0 rfl (by decide), pM_sA x m 260 0 j v rfl (by decide)]
theorem Ml_scalar (h : isMo sh) : nA (HP sh (pM x m)) (.ref 260) = some (nI 10) := lenA (by decide) (Mn_scalar h)
theorem M_at (h : isMo sh) : fR (HP sh (pM x m)) (.ref 259) 13 2 = some (.ref 261) := rF (h 0 _ rfl) (q := 261) rfl
theorem Mn_at (h : isMo sh) : sh[261]? = some (.inl (0, 6)) := h 2 _ rfl
theorem Me_at (h : isMo sh) {j : Nat} (hj : j < 6) : eI (HP sh (pM x m)) (.ref 261) (nI j) = some (m.2.1 1 j) := by rw [rA (Mn_at h) hj (by decide), pM_A x m 261 1 rfl (by decide)]
theorem Mu_at (h : isMo sh) {j : Nat} (hj : j < 6) (v : Int32) : wI (HP sh (pM x m)) (.ref 261) (nI j) v = some (HP sh (pM x (mA m 1 j v))) := by rw [wA (Mn_at h) hj (by decide), pM_A x m 261 1 rfl (by decide), pM_sA x m 261 1 j v rfl (by decide)]
theorem Ml_at (h : isMo sh) : nA (HP sh (pM x m)) (.ref 261) = some (nI 6) := lenA (by decide) (Mn_at h)
theorem M_kind (h : isMo sh) : fR (HP sh (pM x m)) (.ref 259) 13 3 = some (.ref 262) := rF (h 0 _ rfl) (q := 262) rfl
theorem Mn_kind (h : isMo sh) : sh[262]? = some (.inl (0, 6)) := h 3 _ rfl
theorem Me_kind (h : isMo sh) {j : Nat} (hj : j < 6) : eI (HP sh (pM x m)) (.ref 262) (nI j) = some (m.2.1 2 j) := by rw [rA (Mn_kind h) hj (by decide), pM_A x m 262 2 rfl (by decide)]
theorem Mu_kind (h : isMo sh) {j : Nat} (hj : j < 6) (v : Int32) : wI (HP sh (pM x m)) (.ref 262) (nI j) v = some (HP sh (pM x (mA m 2 j v))) := by rw [wA (Mn_kind h) hj (by decide), pM_A x m 262 2 rfl (by decide), pM_sA x m 262 2 j v rfl (by decide)]
theorem Ml_kind (h : isMo sh) : nA (HP sh (pM x m)) (.ref 262) = some (nI 6) := lenA (by decide) (Mn_kind h)
theorem M_asks (h : isMo sh) : fR (HP sh (pM x m)) (.ref 259) 13 4 = some (.ref 263) := rF (h 0 _ rfl) (q := 263) rfl
theorem Mn_asks (h : isMo sh) : sh[263]? = some (.inl (0, 6)) := h 4 _ rfl
theorem Me_asks (h : isMo sh) {j : Nat} (hj : j < 6) : eI (HP sh (pM x m)) (.ref 263) (nI j) = some (m.2.1 3 j) := by rw [rA (Mn_asks h) hj (by decide), pM_A x m 263 3 rfl (by decide)]
theorem Mu_asks (h : isMo sh) {j : Nat} (hj : j < 6) (v : Int32) : wI (HP sh (pM x m)) (.ref 263) (nI j) v = some (HP sh (pM x (mA m 3 j v))) := by rw [wA (Mn_asks h) hj (by decide), pM_A x m 263 3 rfl (by decide), pM_sA x m 263 3 j v rfl (by decide)]
theorem Ml_asks (h : isMo sh) : nA (HP sh (pM x m)) (.ref 263) = some (nI 6) := lenA (by decide) (Mn_asks h)
theorem M_askedAll (h : isMo sh) : fR (HP sh (pM x m)) (.ref 259) 13 5 = some (.ref 264) := rF (h 0 _ rfl) (q := 264) rfl
theorem Mn_askedAll (h : isMo sh) : sh[264]? = some (.inl (0, 6)) := h 5 _ rfl
theorem Me_askedAll (h : isMo sh) {j : Nat} (hj : j < 6) : eI (HP sh (pM x m)) (.ref 264) (nI j) = some (m.2.1 4 j) := by rw [rA (Mn_askedAll h) hj (by decide), pM_A x m 264 4 rfl (by decide)]
theorem Mu_askedAll (h : isMo sh) {j : Nat} (hj : j < 6) (v : Int32) : wI (HP sh (pM x m)) (.ref 264) (nI j) v = some (HP sh (pM x (mA m 4 j v))) := by rw [wA (Mn_askedAll h) hj (by decide), pM_A x m 264 4 rfl (by decide), pM_sA x m 264 4 j v rfl (by decide)]
theorem Ml_askedAll (h : isMo sh) : nA (HP sh (pM x m)) (.ref 264) = some (nI 6) := lenA (by decide) (Mn_askedAll h)
theorem M_chains (h : isMo sh) : fR (HP sh (pM x m)) (.ref 259) 13 6 = some (.ref 265) := rF (h 0 _ rfl) (q := 265) rfl
theorem Mn_chains (h : isMo sh) : sh[265]? = some (.inl (0, 6)) := h 6 _ rfl
theorem Me_chains (h : isMo sh) {j : Nat} (hj : j < 6) : eI (HP sh (pM x m)) (.ref 265) (nI j) = some (m.2.1 5 j) := by rw [rA (Mn_chains h) hj (by decide), pM_A x m 265 5 rfl (by decide)]
theorem Mu_chains (h : isMo sh) {j : Nat} (hj : j < 6) (v : Int32) : wI (HP sh (pM x m)) (.ref 265) (nI j) v = some (HP sh (pM x (mA m 5 j v))) := by rw [wA (Mn_chains h) hj (by decide), pM_A x m 265 5 rfl (by decide), pM_sA x m 265 5 j v rfl (by decide)]
theorem Ml_chains (h : isMo sh) : nA (HP sh (pM x m)) (.ref 265) = some (nI 6) := lenA (by decide) (Mn_chains h)
theorem M_where (h : isMo sh) : fR (HP sh (pM x m)) (.ref 259) 13 7 = some (.ref 266) := rF (h 0 _ rfl) (q := 266) rfl
theorem Mn_where (h : isMo sh) : sh[266]? = some (.inl (0, 5)) := h 7 _ rfl
theorem Me_where (h : isMo sh) {j : Nat} (hj : j < 5) : eI (HP sh (pM x m)) (.ref 266) (nI j) = some (m.2.1 6 j) := by rw [rA (Mn_where h) hj (by decide), pM_A x m 266 6 rfl (by decide)]
theorem Mu_where (h : isMo sh) {j : Nat} (hj : j < 5) (v : Int32) : wI (HP sh (pM x m)) (.ref 266) (nI j) v = some (HP sh (pM x (mA m 6 j v))) := by rw [wA (Mn_where h) hj (by decide), pM_A x m 266 6 rfl (by decide), pM_sA x m 266 6 j v rfl (by decide)]
theorem Ml_where (h : isMo sh) : nA (HP sh (pM x m)) (.ref 266) = some (nI 5) := lenA (by decide) (Mn_where h)
theorem M_knows (h : isMo sh) : fR (HP sh (pM x m)) (.ref 259) 13 8 = some (.ref 267) := rF (h 0 _ rfl) (q := 267) rfl
theorem Mn_knows (h : isMo sh) : sh[267]? = some (.inl (0, 30)) := h 8 _ rfl
theorem Me_knows (h : isMo sh) {j : Nat} (hj : j < 30) : eI (HP sh (pM x m)) (.ref 267) (nI j) = some (m.2.1 7 j) := by rw [rA (Mn_knows h) hj (by decide), pM_A x m 267 7 rfl (by decide)]
theorem Mu_knows (h : isMo sh) {j : Nat} (hj : j < 30) (v : Int32) : wI (HP sh (pM x m)) (.ref 267) (nI j) v = some (HP sh (pM x (mA m 7 j v))) := by rw [wA (Mn_knows h) hj (by decide), pM_A x m 267 7 rfl (by decide), pM_sA x m 267 7 j v rfl (by decide)]
theorem Ml_knows (h : isMo sh) : nA (HP sh (pM x m)) (.ref 267) = some (nI 30) := lenA (by decide) (Mn_knows h)
theorem M_open (h : isMo sh) : fR (HP sh (pM x m)) (.ref 259) 13 9 = some (.ref 268) := rF (h 0 _ rfl) (q := 268) rfl
theorem Mn_open (h : isMo sh) : sh[268]? = some (.inl (0, 8)) := h 9 _ rfl
theorem Me_open (h : isMo sh) {j : Nat} (hj : j < 8) : eI (HP sh (pM x m)) (.ref 268) (nI j) = some (m.2.1 8 j) := by rw [rA (Mn_open h) hj (by decide), pM_A x m 268 8 rfl (by decide)]
theorem Mu_open (h : isMo sh) {j : Nat} (hj : j < 8) (v : Int32) : wI (HP sh (pM x m)) (.ref 268) (nI j) v = some (HP sh (pM x (mA m 8 j v))) := by rw [wA (Mn_open h) hj (by decide), pM_A x m 268 8 rfl (by decide), pM_sA x m 268 8 j v rfl (by decide)]
theorem Ml_open (h : isMo sh) : nA (HP sh (pM x m)) (.ref 268) = some (nI 8) := lenA (by decide) (Mn_open h)
theorem M_wrong (h : isMo sh) : fR (HP sh (pM x m)) (.ref 259) 13 10 = some (.ref 269) := rF (h 0 _ rfl) (q := 269) rfl
theorem Mn_wrong (h : isMo sh) : sh[269]? = some (.inl (0, 6)) := h 10 _ rfl
theorem Me_wrong (h : isMo sh) {j : Nat} (hj : j < 6) : eI (HP sh (pM x m)) (.ref 269) (nI j) = some (m.2.1 9 j) := by rw [rA (Mn_wrong h) hj (by decide), pM_A x m 269 9 rfl (by decide)]
theorem Mu_wrong (h : isMo sh) {j : Nat} (hj : j < 6) (v : Int32) : wI (HP sh (pM x m)) (.ref 269) (nI j) v = some (HP sh (pM x (mA m 9 j v))) := by rw [wA (Mn_wrong h) hj (by decide), pM_A x m 269 9 rfl (by decide), pM_sA x m 269 9 j v rfl (by decide)]
theorem Ml_wrong (h : isMo sh) : nA (HP sh (pM x m)) (.ref 269) = some (nI 6) := lenA (by decide) (Mn_wrong h)
theorem M_from (h : isMo sh) : fR (HP sh (pM x m)) (.ref 259) 13 11 = some (.ref 270) := rF (h 0 _ rfl) (q := 270) rfl
theorem Mn_from (h : isMo sh) : sh[270]? = some (.inl (0, 5)) := h 11 _ rfl
theorem Me_from (h : isMo sh) {j : Nat} (hj : j < 5) : eI (HP sh (pM x m)) (.ref 270) (nI j) = some (m.2.1 10 j) := by rw [rA (Mn_from h) hj (by decide), pM_A x m 270 10 rfl (by decide)]
theorem Mu_from (h : isMo sh) {j : Nat} (hj : j < 5) (v : Int32) : wI (HP sh (pM x m)) (.ref 270) (nI j) v = some (HP sh (pM x (mA m 10 j v))) := by rw [wA (Mn_from h) hj (by decide), pM_A x m 270 10 rfl (by decide), pM_sA x m 270 10 j v rfl (by decide)]
theorem Ml_from (h : isMo sh) : nA (HP sh (pM x m)) (.ref 270) = some (nI 5) := lenA (by decide) (Mn_from h)
theorem M_to (h : isMo sh) : fR (HP sh (pM x m)) (.ref 259) 13 12 = some (.ref 271) := rF (h 0 _ rfl) (q := 271) rfl
theorem Mn_to (h : isMo sh) : sh[271]? = some (.inl (0, 5)) := h 12 _ rfl
theorem Me_to (h : isMo sh) {j : Nat} (hj : j < 5) : eI (HP sh (pM x m)) (.ref 271) (nI j) = some (m.2.1 11 j) := by rw [rA (Mn_to h) hj (by decide), pM_A x m 271 11 rfl (by decide)]
theorem Mu_to (h : isMo sh) {j : Nat} (hj : j < 5) (v : Int32) : wI (HP sh (pM x m)) (.ref 271) (nI j) v = some (HP sh (pM x (mA m 11 j v))) := by rw [wA (Mn_to h) hj (by decide), pM_A x m 271 11 rfl (by decide), pM_sA x m 271 11 j v rfl (by decide)]
theorem Ml_to (h : isMo sh) : nA (HP sh (pM x m)) (.ref 271) = some (nI 5) := lenA (by decide) (Mn_to h)
theorem M_every (h : isMo sh) : fR (HP sh (pM x m)) (.ref 259) 13 13 = some (.ref 272) := rF (h 0 _ rfl) (q := 272) rfl
theorem Mn_every (h : isMo sh) : sh[272]? = some (.inl (0, 5)) := h 13 _ rfl
theorem Me_every (h : isMo sh) {j : Nat} (hj : j < 5) : eI (HP sh (pM x m)) (.ref 272) (nI j) = some (m.2.1 12 j) := by rw [rA (Mn_every h) hj (by decide), pM_A x m 272 12 rfl (by decide)]
theorem Mu_every (h : isMo sh) {j : Nat} (hj : j < 5) (v : Int32) : wI (HP sh (pM x m)) (.ref 272) (nI j) v = some (HP sh (pM x (mA m 12 j v))) := by rw [wA (Mn_every h) hj (by decide), pM_A x m 272 12 rfl (by decide), pM_sA x m 272 12 j v rfl (by decide)]
theorem Ml_every (h : isMo sh) : nA (HP sh (pM x m)) (.ref 272) = some (nI 5) := lenA (by decide) (Mn_every h)
theorem M_noteHour (h : isMo sh) : fR (HP sh (pM x m)) (.ref 259) 13 14 = some (.ref 273) := rF (h 0 _ rfl) (q := 273) rfl
theorem Mn_noteHour (h : isMo sh) : sh[273]? = some (.inl (0, 10)) := h 14 _ rfl
theorem Me_noteHour (h : isMo sh) {j : Nat} (hj : j < 10) : eI (HP sh (pM x m)) (.ref 273) (nI j) = some (m.2.1 13 j) := by rw [rA (Mn_noteHour h) hj (by decide), pM_A x m 273 13 rfl (by decide)]
theorem Mu_noteHour (h : isMo sh) {j : Nat} (hj : j < 10) (v : Int32) : wI (HP sh (pM x m)) (.ref 273) (nI j) v = some (HP sh (pM x (mA m 13 j v))) := by rw [wA (Mn_noteHour h) hj (by decide), pM_A x m 273 13 rfl (by decide), pM_sA x m 273 13 j v rfl (by decide)]
theorem Ml_noteHour (h : isMo sh) : nA (HP sh (pM x m)) (.ref 273) = some (nI 10) := lenA (by decide) (Mn_noteHour h)
theorem M_noteWho (h : isMo sh) : fR (HP sh (pM x m)) (.ref 259) 13 15 = some (.ref 274) := rF (h 0 _ rfl) (q := 274) rfl
theorem Mn_noteWho (h : isMo sh) : sh[274]? = some (.inl (0, 10)) := h 15 _ rfl
theorem Me_noteWho (h : isMo sh) {j : Nat} (hj : j < 10) : eI (HP sh (pM x m)) (.ref 274) (nI j) = some (m.2.1 14 j) := by rw [rA (Mn_noteWho h) hj (by decide), pM_A x m 274 14 rfl (by decide)]
theorem Mu_noteWho (h : isMo sh) {j : Nat} (hj : j < 10) (v : Int32) : wI (HP sh (pM x m)) (.ref 274) (nI j) v = some (HP sh (pM x (mA m 14 j v))) := by rw [wA (Mn_noteWho h) hj (by decide), pM_A x m 274 14 rfl (by decide), pM_sA x m 274 14 j v rfl (by decide)]
theorem Ml_noteWho (h : isMo sh) : nA (HP sh (pM x m)) (.ref 274) = some (nI 10) := lenA (by decide) (Mn_noteWho h)
theorem M_noteWhom (h : isMo sh) : fR (HP sh (pM x m)) (.ref 259) 13 16 = some (.ref 275) := rF (h 0 _ rfl) (q := 275) rfl
theorem Mn_noteWhom (h : isMo sh) : sh[275]? = some (.inl (0, 10)) := h 16 _ rfl
theorem Me_noteWhom (h : isMo sh) {j : Nat} (hj : j < 10) : eI (HP sh (pM x m)) (.ref 275) (nI j) = some (m.2.1 15 j) := by rw [rA (Mn_noteWhom h) hj (by decide), pM_A x m 275 15 rfl (by decide)]
theorem Mu_noteWhom (h : isMo sh) {j : Nat} (hj : j < 10) (v : Int32) : wI (HP sh (pM x m)) (.ref 275) (nI j) v = some (HP sh (pM x (mA m 15 j v))) := by rw [wA (Mn_noteWhom h) hj (by decide), pM_A x m 275 15 rfl (by decide), pM_sA x m 275 15 j v rfl (by decide)]
theorem Ml_noteWhom (h : isMo sh) : nA (HP sh (pM x m)) (.ref 275) = some (nI 10) := lenA (by decide) (Mn_noteWhom h)
theorem M_toldAt (h : isMo sh) : fR (HP sh (pM x m)) (.ref 259) 13 17 = some (.ref 276) := rF (h 0 _ rfl) (q := 276) rfl
theorem Mn_toldAt (h : isMo sh) : sh[276]? = some (.inl (0, 6)) := h 17 _ rfl
theorem Me_toldAt (h : isMo sh) {j : Nat} (hj : j < 6) : eI (HP sh (pM x m)) (.ref 276) (nI j) = some (m.2.1 16 j) := by rw [rA (Mn_toldAt h) hj (by decide), pM_A x m 276 16 rfl (by decide)]
theorem Mu_toldAt (h : isMo sh) {j : Nat} (hj : j < 6) (v : Int32) : wI (HP sh (pM x m)) (.ref 276) (nI j) v = some (HP sh (pM x (mA m 16 j v))) := by rw [wA (Mn_toldAt h) hj (by decide), pM_A x m 276 16 rfl (by decide), pM_sA x m 276 16 j v rfl (by decide)]
theorem Ml_toldAt (h : isMo sh) : nA (HP sh (pM x m)) (.ref 276) = some (nI 6) := lenA (by decide) (Mn_toldAt h)
theorem M_toldKind (h : isMo sh) : fR (HP sh (pM x m)) (.ref 259) 13 18 = some (.ref 277) := rF (h 0 _ rfl) (q := 277) rfl
theorem Mn_toldKind (h : isMo sh) : sh[277]? = some (.inl (0, 6)) := h 18 _ rfl
theorem Me_toldKind (h : isMo sh) {j : Nat} (hj : j < 6) : eI (HP sh (pM x m)) (.ref 277) (nI j) = some (m.2.1 17 j) := by rw [rA (Mn_toldKind h) hj (by decide), pM_A x m 277 17 rfl (by decide)]
theorem Mu_toldKind (h : isMo sh) {j : Nat} (hj : j < 6) (v : Int32) : wI (HP sh (pM x m)) (.ref 277) (nI j) v = some (HP sh (pM x (mA m 17 j v))) := by rw [wA (Mn_toldKind h) hj (by decide), pM_A x m 277 17 rfl (by decide), pM_sA x m 277 17 j v rfl (by decide)]
theorem Ml_toldKind (h : isMo sh) : nA (HP sh (pM x m)) (.ref 277) = some (nI 6) := lenA (by decide) (Mn_toldKind h)
theorem M_toldStreets (h : isMo sh) : fR (HP sh (pM x m)) (.ref 259) 13 19 = some (.ref 278) := rF (h 0 _ rfl) (q := 278) rfl
theorem Mn_toldStreets (h : isMo sh) : sh[278]? = some (.inl (0, 8)) := h 19 _ rfl
theorem Me_toldStreets (h : isMo sh) {j : Nat} (hj : j < 8) : eI (HP sh (pM x m)) (.ref 278) (nI j) = some (m.2.1 18 j) := by rw [rA (Mn_toldStreets h) hj (by decide), pM_A x m 278 18 rfl (by decide)]
theorem Mu_toldStreets (h : isMo sh) {j : Nat} (hj : j < 8) (v : Int32) : wI (HP sh (pM x m)) (.ref 278) (nI j) v = some (HP sh (pM x (mA m 18 j v))) := by rw [wA (Mn_toldStreets h) hj (by decide), pM_A x m 278 18 rfl (by decide), pM_sA x m 278 18 j v rfl (by decide)]
theorem Ml_toldStreets (h : isMo sh) : nA (HP sh (pM x m)) (.ref 278) = some (nI 8) := lenA (by decide) (Mn_toldStreets h)
theorem M_newScalar (h : isMo sh) : fR (HP sh (pM x m)) (.ref 259) 13 20 = some (.ref 279) := rF (h 0 _ rfl) (q := 279) rfl
theorem Mn_newScalar (h : isMo sh) : sh[279]? = some (.inl (0, 4)) := h 20 _ rfl
theorem Me_newScalar (h : isMo sh) {j : Nat} (hj : j < 4) : eI (HP sh (pM x m)) (.ref 279) (nI j) = some (m.2.1 19 j) := by rw [rA (Mn_newScalar h) hj (by decide), pM_A x m 279 19 rfl (by decide)]
theorem Mu_newScalar (h : isMo sh) {j : Nat} (hj : j < 4) (v : Int32) : wI (HP sh (pM x m)) (.ref 279) (nI j) v = some (HP sh (pM x (mA m 19 j v))) := by rw [wA (Mn_newScalar h) hj (by decide), pM_A x m 279 19 rfl (by decide), pM_sA x m 279 19 j v rfl (by decide)]
theorem Ml_newScalar (h : isMo sh) : nA (HP sh (pM x m)) (.ref 279) = some (nI 4) := lenA (by decide) (Mn_newScalar h)
theorem M_newAt (h : isMo sh) : fR (HP sh (pM x m)) (.ref 259) 13 21 = some (.ref 280) := rF (h 0 _ rfl) (q := 280) rfl
theorem Mn_newAt (h : isMo sh) : sh[280]? = some (.inl (0, 6)) := h 21 _ rfl
theorem Me_newAt (h : isMo sh) {j : Nat} (hj : j < 6) : eI (HP sh (pM x m)) (.ref 280) (nI j) = some (m.2.1 20 j) := by rw [rA (Mn_newAt h) hj (by decide), pM_A x m 280 20 rfl (by decide)]
theorem Mu_newAt (h : isMo sh) {j : Nat} (hj : j < 6) (v : Int32) : wI (HP sh (pM x m)) (.ref 280) (nI j) v = some (HP sh (pM x (mA m 20 j v))) := by rw [wA (Mn_newAt h) hj (by decide), pM_A x m 280 20 rfl (by decide), pM_sA x m 280 20 j v rfl (by decide)]
theorem Ml_newAt (h : isMo sh) : nA (HP sh (pM x m)) (.ref 280) = some (nI 6) := lenA (by decide) (Mn_newAt h)
theorem M_newKind (h : isMo sh) : fR (HP sh (pM x m)) (.ref 259) 13 22 = some (.ref 281) := rF (h 0 _ rfl) (q := 281) rfl
theorem Mn_newKind (h : isMo sh) : sh[281]? = some (.inl (0, 6)) := h 22 _ rfl
theorem Me_newKind (h : isMo sh) {j : Nat} (hj : j < 6) : eI (HP sh (pM x m)) (.ref 281) (nI j) = some (m.2.1 21 j) := by rw [rA (Mn_newKind h) hj (by decide), pM_A x m 281 21 rfl (by decide)]
theorem Mu_newKind (h : isMo sh) {j : Nat} (hj : j < 6) (v : Int32) : wI (HP sh (pM x m)) (.ref 281) (nI j) v = some (HP sh (pM x (mA m 21 j v))) := by rw [wA (Mn_newKind h) hj (by decide), pM_A x m 281 21 rfl (by decide), pM_sA x m 281 21 j v rfl (by decide)]
theorem Ml_newKind (h : isMo sh) : nA (HP sh (pM x m)) (.ref 281) = some (nI 6) := lenA (by decide) (Mn_newKind h)
theorem M_newWrong (h : isMo sh) : fR (HP sh (pM x m)) (.ref 259) 13 23 = some (.ref 282) := rF (h 0 _ rfl) (q := 282) rfl
theorem Mn_newWrong (h : isMo sh) : sh[282]? = some (.inl (0, 6)) := h 23 _ rfl
theorem Me_newWrong (h : isMo sh) {j : Nat} (hj : j < 6) : eI (HP sh (pM x m)) (.ref 282) (nI j) = some (m.2.1 22 j) := by rw [rA (Mn_newWrong h) hj (by decide), pM_A x m 282 22 rfl (by decide)]
theorem Mu_newWrong (h : isMo sh) {j : Nat} (hj : j < 6) (v : Int32) : wI (HP sh (pM x m)) (.ref 282) (nI j) v = some (HP sh (pM x (mA m 22 j v))) := by rw [wA (Mn_newWrong h) hj (by decide), pM_A x m 282 22 rfl (by decide), pM_sA x m 282 22 j v rfl (by decide)]
theorem Ml_newWrong (h : isMo sh) : nA (HP sh (pM x m)) (.ref 282) = some (nI 6) := lenA (by decide) (Mn_newWrong h)
theorem M_newFrom (h : isMo sh) : fR (HP sh (pM x m)) (.ref 259) 13 24 = some (.ref 283) := rF (h 0 _ rfl) (q := 283) rfl
theorem Mn_newFrom (h : isMo sh) : sh[283]? = some (.inl (0, 5)) := h 24 _ rfl
theorem Me_newFrom (h : isMo sh) {j : Nat} (hj : j < 5) : eI (HP sh (pM x m)) (.ref 283) (nI j) = some (m.2.1 23 j) := by rw [rA (Mn_newFrom h) hj (by decide), pM_A x m 283 23 rfl (by decide)]
theorem Mu_newFrom (h : isMo sh) {j : Nat} (hj : j < 5) (v : Int32) : wI (HP sh (pM x m)) (.ref 283) (nI j) v = some (HP sh (pM x (mA m 23 j v))) := by rw [wA (Mn_newFrom h) hj (by decide), pM_A x m 283 23 rfl (by decide), pM_sA x m 283 23 j v rfl (by decide)]
theorem Ml_newFrom (h : isMo sh) : nA (HP sh (pM x m)) (.ref 283) = some (nI 5) := lenA (by decide) (Mn_newFrom h)
theorem M_newTo (h : isMo sh) : fR (HP sh (pM x m)) (.ref 259) 13 25 = some (.ref 284) := rF (h 0 _ rfl) (q := 284) rfl
theorem Mn_newTo (h : isMo sh) : sh[284]? = some (.inl (0, 5)) := h 25 _ rfl
theorem Me_newTo (h : isMo sh) {j : Nat} (hj : j < 5) : eI (HP sh (pM x m)) (.ref 284) (nI j) = some (m.2.1 24 j) := by rw [rA (Mn_newTo h) hj (by decide), pM_A x m 284 24 rfl (by decide)]
theorem Mu_newTo (h : isMo sh) {j : Nat} (hj : j < 5) (v : Int32) : wI (HP sh (pM x m)) (.ref 284) (nI j) v = some (HP sh (pM x (mA m 24 j v))) := by rw [wA (Mn_newTo h) hj (by decide), pM_A x m 284 24 rfl (by decide), pM_sA x m 284 24 j v rfl (by decide)]
theorem Ml_newTo (h : isMo sh) : nA (HP sh (pM x m)) (.ref 284) = some (nI 5) := lenA (by decide) (Mn_newTo h)
theorem M_newEvery (h : isMo sh) : fR (HP sh (pM x m)) (.ref 259) 13 26 = some (.ref 285) := rF (h 0 _ rfl) (q := 285) rfl
theorem Mn_newEvery (h : isMo sh) : sh[285]? = some (.inl (0, 5)) := h 26 _ rfl
theorem Me_newEvery (h : isMo sh) {j : Nat} (hj : j < 5) : eI (HP sh (pM x m)) (.ref 285) (nI j) = some (m.2.1 25 j) := by rw [rA (Mn_newEvery h) hj (by decide), pM_A x m 285 25 rfl (by decide)]
theorem Mu_newEvery (h : isMo sh) {j : Nat} (hj : j < 5) (v : Int32) : wI (HP sh (pM x m)) (.ref 285) (nI j) v = some (HP sh (pM x (mA m 25 j v))) := by rw [wA (Mn_newEvery h) hj (by decide), pM_A x m 285 25 rfl (by decide), pM_sA x m 285 25 j v rfl (by decide)]
theorem Ml_newEvery (h : isMo sh) : nA (HP sh (pM x m)) (.ref 285) = some (nI 5) := lenA (by decide) (Mn_newEvery h)
theorem M_newStreets (h : isMo sh) : fR (HP sh (pM x m)) (.ref 259) 13 27 = some (.ref 286) := rF (h 0 _ rfl) (q := 286) rfl
theorem Mn_newStreets (h : isMo sh) : sh[286]? = some (.inl (0, 8)) := h 27 _ rfl
theorem Me_newStreets (h : isMo sh) {j : Nat} (hj : j < 8) : eI (HP sh (pM x m)) (.ref 286) (nI j) = some (m.2.1 26 j) := by rw [rA (Mn_newStreets h) hj (by decide), pM_A x m 286 26 rfl (by decide)]
theorem Mu_newStreets (h : isMo sh) {j : Nat} (hj : j < 8) (v : Int32) : wI (HP sh (pM x m)) (.ref 286) (nI j) v = some (HP sh (pM x (mA m 26 j v))) := by rw [wA (Mn_newStreets h) hj (by decide), pM_A x m 286 26 rfl (by decide), pM_sA x m 286 26 j v rfl (by decide)]
theorem Ml_newStreets (h : isMo sh) : nA (HP sh (pM x m)) (.ref 286) = some (nI 8) := lenA (by decide) (Mn_newStreets h)
theorem M_tape (h : isMo sh) : fR (HP sh (pM x m)) (.ref 259) 13 38 = some (.ref 287) := rF (h 0 _ rfl) (q := 287) rfl
theorem Mn_tape (h : isMo sh) : sh[287]? = some (.inl (2, 400)) := h 28 _ rfl
theorem Me_tape (h : isMo sh) {j : Nat} (hj : j < 400) : eB (HP sh (pM x m)) (.ref 287) (nI j) = some (m.2.1 27 j) := by rw [rAB (by decide) (Mn_tape h) hj (by decide), pM_A x m 287 27 rfl (by decide)]
theorem Mu_tape (h : isMo sh) {j : Nat} (hj : j < 400) (v : Int32) : wB (HP sh (pM x m)) (.ref 287) (nI j) v = some (HP sh (pM x (mA m 27 j (vp_nar .byte v)))) := by rw [wAB (by decide) (Mn_tape h) hj (by decide), pM_A x m 287 27 rfl (by decide), pM_sA x m 287 27 j _ rfl (by decide)]; rfl
theorem Ml_tape (h : isMo sh) : nA (HP sh (pM x m)) (.ref 287) = some (nI 400) := lenA (by decide) (Mn_tape h)
theorem M_sort (h : isMo sh) : fR (HP sh (pM x m)) (.ref 259) 13 39 = some (.ref 288) := rF (h 0 _ rfl) (q := 288) rfl
theorem Mn_sort (h : isMo sh) : sh[288]? = some (.inl (0, 1800)) := h 29 _ rfl
theorem Me_sort (h : isMo sh) {j : Nat} (hj : j < 1800) : eI (HP sh (pM x m)) (.ref 288) (nI j) = some (m.2.1 28 j) := by rw [rA (Mn_sort h) hj (by decide), pM_A x m 288 28 rfl (by decide)]
theorem Mu_sort (h : isMo sh) {j : Nat} (hj : j < 1800) (v : Int32) : wI (HP sh (pM x m)) (.ref 288) (nI j) v = some (HP sh (pM x (mA m 28 j v))) := by rw [wA (Mn_sort h) hj (by decide), pM_A x m 288 28 rfl (by decide), pM_sA x m 288 28 j v rfl (by decide)]
theorem Ml_sort (h : isMo sh) : nA (HP sh (pM x m)) (.ref 288) = some (nI 1800) := lenA (by decide) (Mn_sort h)
theorem M_number (h : isMo sh) : fR (HP sh (pM x m)) (.ref 259) 13 40 = some (.ref 289) := rF (h 0 _ rfl) (q := 289) rfl
theorem Mn_number (h : isMo sh) : sh[289]? = some (.inl (0, 1800)) := h 30 _ rfl
theorem Me_number (h : isMo sh) {j : Nat} (hj : j < 1800) : eI (HP sh (pM x m)) (.ref 289) (nI j) = some (m.2.1 29 j) := by rw [rA (Mn_number h) hj (by decide), pM_A x m 289 29 rfl (by decide)]
theorem Mu_number (h : isMo sh) {j : Nat} (hj : j < 1800) (v : Int32) : wI (HP sh (pM x m)) (.ref 289) (nI j) v = some (HP sh (pM x (mA m 29 j v))) := by rw [wA (Mn_number h) hj (by decide), pM_A x m 289 29 rfl (by decide), pM_sA x m 289 29 j v rfl (by decide)]
theorem Ml_number (h : isMo sh) : nA (HP sh (pM x m)) (.ref 289) = some (nI 1800) := lenA (by decide) (Mn_number h)
theorem M_clauses (h : isMo sh) : fR (HP sh (pM x m)) (.ref 259) 13 41 = some (.ref 290) := rF (h 0 _ rfl) (q := 290) rfl
theorem Mn_clauses (h : isMo sh) : sh[290]? = some (.inl (0, 6)) := h 31 _ rfl
theorem Me_clauses (h : isMo sh) {j : Nat} (hj : j < 6) : eI (HP sh (pM x m)) (.ref 290) (nI j) = some (m.2.1 30 j) := by rw [rA (Mn_clauses h) hj (by decide), pM_A x m 290 30 rfl (by decide)]
theorem Mu_clauses (h : isMo sh) {j : Nat} (hj : j < 6) (v : Int32) : wI (HP sh (pM x m)) (.ref 290) (nI j) v = some (HP sh (pM x (mA m 30 j v))) := by rw [wA (Mn_clauses h) hj (by decide), pM_A x m 290 30 rfl (by decide), pM_sA x m 290 30 j v rfl (by decide)]
theorem Ml_clauses (h : isMo sh) : nA (HP sh (pM x m)) (.ref 290) = some (nI 6) := lenA (by decide) (Mn_clauses h)
theorem M_sumAt (h : isMo sh) : fR (HP sh (pM x m)) (.ref 259) 13 42 = some (.ref 291) := rF (h 0 _ rfl) (q := 291) rfl
theorem Mn_sumAt (h : isMo sh) : sh[291]? = some (.inl (0, 72)) := h 32 _ rfl
theorem Me_sumAt (h : isMo sh) {j : Nat} (hj : j < 72) : eI (HP sh (pM x m)) (.ref 291) (nI j) = some (m.2.1 31 j) := by rw [rA (Mn_sumAt h) hj (by decide), pM_A x m 291 31 rfl (by decide)]
theorem Mu_sumAt (h : isMo sh) {j : Nat} (hj : j < 72) (v : Int32) : wI (HP sh (pM x m)) (.ref 291) (nI j) v = some (HP sh (pM x (mA m 31 j v))) := by rw [wA (Mn_sumAt h) hj (by decide), pM_A x m 291 31 rfl (by decide), pM_sA x m 291 31 j v rfl (by decide)]
theorem Ml_sumAt (h : isMo sh) : nA (HP sh (pM x m)) (.ref 291) = some (nI 72) := lenA (by decide) (Mn_sumAt h)
theorem M_testAt (h : isMo sh) : fR (HP sh (pM x m)) (.ref 259) 13 43 = some (.ref 292) := rF (h 0 _ rfl) (q := 292) rfl
theorem Mn_testAt (h : isMo sh) : sh[292]? = some (.inl (0, 72)) := h 33 _ rfl
theorem Me_testAt (h : isMo sh) {j : Nat} (hj : j < 72) : eI (HP sh (pM x m)) (.ref 292) (nI j) = some (m.2.1 32 j) := by rw [rA (Mn_testAt h) hj (by decide), pM_A x m 292 32 rfl (by decide)]
theorem Mu_testAt (h : isMo sh) {j : Nat} (hj : j < 72) (v : Int32) : wI (HP sh (pM x m)) (.ref 292) (nI j) v = some (HP sh (pM x (mA m 32 j v))) := by rw [wA (Mn_testAt h) hj (by decide), pM_A x m 292 32 rfl (by decide), pM_sA x m 292 32 j v rfl (by decide)]
theorem Ml_testAt (h : isMo sh) : nA (HP sh (pM x m)) (.ref 292) = some (nI 72) := lenA (by decide) (Mn_testAt h)
theorem M_endAt (h : isMo sh) : fR (HP sh (pM x m)) (.ref 259) 13 44 = some (.ref 293) := rF (h 0 _ rfl) (q := 293) rfl
theorem Mn_endAt (h : isMo sh) : sh[293]? = some (.inl (0, 72)) := h 34 _ rfl
theorem Me_endAt (h : isMo sh) {j : Nat} (hj : j < 72) : eI (HP sh (pM x m)) (.ref 293) (nI j) = some (m.2.1 33 j) := by rw [rA (Mn_endAt h) hj (by decide), pM_A x m 293 33 rfl (by decide)]
theorem Mu_endAt (h : isMo sh) {j : Nat} (hj : j < 72) (v : Int32) : wI (HP sh (pM x m)) (.ref 293) (nI j) v = some (HP sh (pM x (mA m 33 j v))) := by rw [wA (Mn_endAt h) hj (by decide), pM_A x m 293 33 rfl (by decide), pM_sA x m 293 33 j v rfl (by decide)]
theorem Ml_endAt (h : isMo sh) : nA (HP sh (pM x m)) (.ref 293) = some (nI 72) := lenA (by decide) (Mn_endAt h)
theorem M_openAt (h : isMo sh) : fR (HP sh (pM x m)) (.ref 259) 13 45 = some (.ref 294) := rF (h 0 _ rfl) (q := 294) rfl
theorem Mn_openAt (h : isMo sh) : sh[294]? = some (.inl (0, 402)) := h 35 _ rfl
theorem Me_openAt (h : isMo sh) {j : Nat} (hj : j < 402) : eI (HP sh (pM x m)) (.ref 294) (nI j) = some (m.2.1 34 j) := by rw [rA (Mn_openAt h) hj (by decide), pM_A x m 294 34 rfl (by decide)]
theorem Mu_openAt (h : isMo sh) {j : Nat} (hj : j < 402) (v : Int32) : wI (HP sh (pM x m)) (.ref 294) (nI j) v = some (HP sh (pM x (mA m 34 j v))) := by rw [wA (Mn_openAt h) hj (by decide), pM_A x m 294 34 rfl (by decide), pM_sA x m 294 34 j v rfl (by decide)]
theorem Ml_openAt (h : isMo sh) : nA (HP sh (pM x m)) (.ref 294) = some (nI 402) := lenA (by decide) (Mn_openAt h)
theorem M_asked (h : isMo sh) : fR (HP sh (pM x m)) (.ref 259) 13 46 = some (.ref 295) := rF (h 0 _ rfl) (q := 295) rfl
theorem Mn_asked (h : isMo sh) : sh[295]? = some (.inl (1, 12)) := h 36 _ rfl
theorem Me_asked (h : isMo sh) {j : Nat} (hj : j < 12) : eL (HP sh (pM x m)) (.ref 295) (nI j) = some (m.2.2 35 j) := by rw [rAJ (Mn_asked h) hj (by decide), pM_J x m 295 35 rfl (by decide)]
theorem Mu_asked (h : isMo sh) {j : Nat} (hj : j < 12) (v : Int64) : wL (HP sh (pM x m)) (.ref 295) (nI j) v = some (HP sh (pM x (mL m 35 j v))) := by rw [wAJ (Mn_asked h) hj (by decide), pM_J x m 295 35 rfl (by decide), pM_sJ x m 295 35 j v rfl (by decide)]
theorem Ml_asked (h : isMo sh) : nA (HP sh (pM x m)) (.ref 295) = some (nI 12) := lenA (by decide) (Mn_asked h)
theorem M_stack (h : isMo sh) : fR (HP sh (pM x m)) (.ref 259) 13 47 = some (.ref 296) := rF (h 0 _ rfl) (q := 296) rfl
theorem Mn_stack (h : isMo sh) : sh[296]? = some (.inl (1, 300)) := h 37 _ rfl
theorem Me_stack (h : isMo sh) {j : Nat} (hj : j < 300) : eL (HP sh (pM x m)) (.ref 296) (nI j) = some (m.2.2 36 j) := by rw [rAJ (Mn_stack h) hj (by decide), pM_J x m 296 36 rfl (by decide)]
theorem Mu_stack (h : isMo sh) {j : Nat} (hj : j < 300) (v : Int64) : wL (HP sh (pM x m)) (.ref 296) (nI j) v = some (HP sh (pM x (mL m 36 j v))) := by rw [wAJ (Mn_stack h) hj (by decide), pM_J x m 296 36 rfl (by decide), pM_sJ x m 296 36 j v rfl (by decide)]
theorem Ml_stack (h : isMo sh) : nA (HP sh (pM x m)) (.ref 296) = some (nI 300) := lenA (by decide) (Mn_stack h)
theorem M_gone (h : isMo sh) : fR (HP sh (pM x m)) (.ref 259) 13 48 = some (.ref 297) := rF (h 0 _ rfl) (q := 297) rfl
theorem Mn_gone (h : isMo sh) : sh[297]? = some (.inl (0, 5)) := h 38 _ rfl
theorem Me_gone (h : isMo sh) {j : Nat} (hj : j < 5) : eI (HP sh (pM x m)) (.ref 297) (nI j) = some (m.2.1 37 j) := by rw [rA (Mn_gone h) hj (by decide), pM_A x m 297 37 rfl (by decide)]
theorem Mu_gone (h : isMo sh) {j : Nat} (hj : j < 5) (v : Int32) : wI (HP sh (pM x m)) (.ref 297) (nI j) v = some (HP sh (pM x (mA m 37 j v))) := by rw [wA (Mn_gone h) hj (by decide), pM_A x m 297 37 rfl (by decide), pM_sA x m 297 37 j v rfl (by decide)]
theorem Ml_gone (h : isMo sh) : nA (HP sh (pM x m)) (.ref 297) = some (nI 5) := lenA (by decide) (Mn_gone h)
theorem M_past (h : isMo sh) : fR (HP sh (pM x m)) (.ref 259) 13 49 = some (.ref 298) := rF (h 0 _ rfl) (q := 298) rfl
theorem Mn_past (h : isMo sh) : sh[298]? = some (.inl (0, 1520)) := h 39 _ rfl
theorem Me_past (h : isMo sh) {j : Nat} (hj : j < 1520) : eI (HP sh (pM x m)) (.ref 298) (nI j) = some (m.2.1 38 j) := by rw [rA (Mn_past h) hj (by decide), pM_A x m 298 38 rfl (by decide)]
theorem Mu_past (h : isMo sh) {j : Nat} (hj : j < 1520) (v : Int32) : wI (HP sh (pM x m)) (.ref 298) (nI j) v = some (HP sh (pM x (mA m 38 j v))) := by rw [wA (Mn_past h) hj (by decide), pM_A x m 298 38 rfl (by decide), pM_sA x m 298 38 j v rfl (by decide)]
theorem Ml_past (h : isMo sh) : nA (HP sh (pM x m)) (.ref 298) = some (nI 1520) := lenA (by decide) (Mn_past h)
theorem M_pastOf (h : isMo sh) : fR (HP sh (pM x m)) (.ref 259) 13 50 = some (.ref 299) := rF (h 0 _ rfl) (q := 299) rfl
theorem Mn_pastOf (h : isMo sh) : sh[299]? = some (.inl (0, 1)) := h 40 _ rfl
theorem Me_pastOf (h : isMo sh) {j : Nat} (hj : j < 1) : eI (HP sh (pM x m)) (.ref 299) (nI j) = some (m.2.1 39 j) := by rw [rA (Mn_pastOf h) hj (by decide), pM_A x m 299 39 rfl (by decide)]
theorem Mu_pastOf (h : isMo sh) {j : Nat} (hj : j < 1) (v : Int32) : wI (HP sh (pM x m)) (.ref 299) (nI j) v = some (HP sh (pM x (mA m 39 j v))) := by rw [wA (Mn_pastOf h) hj (by decide), pM_A x m 299 39 rfl (by decide), pM_sA x m 299 39 j v rfl (by decide)]
theorem Ml_pastOf (h : isMo sh) : nA (HP sh (pM x m)) (.ref 299) = some (nI 1) := lenA (by decide) (Mn_pastOf h)
theorem M_plays (h : isMo sh) : fR (HP sh (pM x m)) (.ref 259) 13 54 = some (.ref 300) := rF (h 0 _ rfl) (q := 300) rfl
theorem Mn_plays (h : isMo sh) : sh[300]? = some (.inl (0, 512)) := h 41 _ rfl
theorem Me_plays (h : isMo sh) {j : Nat} (hj : j < 512) : eI (HP sh (pM x m)) (.ref 300) (nI j) = some (m.2.1 40 j) := by rw [rA (Mn_plays h) hj (by decide), pM_A x m 300 40 rfl (by decide)]
theorem Mu_plays (h : isMo sh) {j : Nat} (hj : j < 512) (v : Int32) : wI (HP sh (pM x m)) (.ref 300) (nI j) v = some (HP sh (pM x (mA m 40 j v))) := by rw [wA (Mn_plays h) hj (by decide), pM_A x m 300 40 rfl (by decide), pM_sA x m 300 40 j v rfl (by decide)]
theorem Ml_plays (h : isMo sh) : nA (HP sh (pM x m)) (.ref 300) = some (nI 512) := lenA (by decide) (Mn_plays h)
theorem M_firstHas (h : isMo sh) : fR (HP sh (pM x m)) (.ref 259) 13 55 = some (.ref 301) := rF (h 0 _ rfl) (q := 301) rfl
theorem Mn_firstHas (h : isMo sh) : sh[301]? = some (.inl (0, 64)) := h 42 _ rfl
theorem Me_firstHas (h : isMo sh) {j : Nat} (hj : j < 64) : eI (HP sh (pM x m)) (.ref 301) (nI j) = some (m.2.1 41 j) := by rw [rA (Mn_firstHas h) hj (by decide), pM_A x m 301 41 rfl (by decide)]
theorem Mu_firstHas (h : isMo sh) {j : Nat} (hj : j < 64) (v : Int32) : wI (HP sh (pM x m)) (.ref 301) (nI j) v = some (HP sh (pM x (mA m 41 j v))) := by rw [wA (Mn_firstHas h) hj (by decide), pM_A x m 301 41 rfl (by decide), pM_sA x m 301 41 j v rfl (by decide)]
theorem Ml_firstHas (h : isMo sh) : nA (HP sh (pM x m)) (.ref 301) = some (nI 64) := lenA (by decide) (Mn_firstHas h)
theorem M_secondHas (h : isMo sh) : fR (HP sh (pM x m)) (.ref 259) 13 56 = some (.ref 302) := rF (h 0 _ rfl) (q := 302) rfl
theorem Mn_secondHas (h : isMo sh) : sh[302]? = some (.inl (0, 64)) := h 43 _ rfl
theorem Me_secondHas (h : isMo sh) {j : Nat} (hj : j < 64) : eI (HP sh (pM x m)) (.ref 302) (nI j) = some (m.2.1 42 j) := by rw [rA (Mn_secondHas h) hj (by decide), pM_A x m 302 42 rfl (by decide)]
theorem Mu_secondHas (h : isMo sh) {j : Nat} (hj : j < 64) (v : Int32) : wI (HP sh (pM x m)) (.ref 302) (nI j) v = some (HP sh (pM x (mA m 42 j v))) := by rw [wA (Mn_secondHas h) hj (by decide), pM_A x m 302 42 rfl (by decide), pM_sA x m 302 42 j v rfl (by decide)]
theorem Ml_secondHas (h : isMo sh) : nA (HP sh (pM x m)) (.ref 302) = some (nI 64) := lenA (by decide) (Mn_secondHas h)
theorem M_lay (h : isMo sh) : fR (HP sh (pM x m)) (.ref 259) 13 57 = some (.ref 303) := rF (h 0 _ rfl) (q := 303) rfl
theorem Mn_lay (h : isMo sh) : sh[303]? = some (.inl (0, 305)) := h 44 _ rfl
theorem Me_lay (h : isMo sh) {j : Nat} (hj : j < 305) : eI (HP sh (pM x m)) (.ref 303) (nI j) = some (m.2.1 43 j) := by rw [rA (Mn_lay h) hj (by decide), pM_A x m 303 43 rfl (by decide)]
theorem Mu_lay (h : isMo sh) {j : Nat} (hj : j < 305) (v : Int32) : wI (HP sh (pM x m)) (.ref 303) (nI j) v = some (HP sh (pM x (mA m 43 j v))) := by rw [wA (Mn_lay h) hj (by decide), pM_A x m 303 43 rfl (by decide), pM_sA x m 303 43 j v rfl (by decide)]
theorem Ml_lay (h : isMo sh) : nA (HP sh (pM x m)) (.ref 303) = some (nI 305) := lenA (by decide) (Mn_lay h)
theorem M_shows (h : isMo sh) : fR (HP sh (pM x m)) (.ref 259) 13 58 = some (.ref 304) := rF (h 0 _ rfl) (q := 304) rfl
theorem Mn_shows (h : isMo sh) : sh[304]? = some (.inl (0, 35)) := h 45 _ rfl
theorem Me_shows (h : isMo sh) {j : Nat} (hj : j < 35) : eI (HP sh (pM x m)) (.ref 304) (nI j) = some (m.2.1 44 j) := by rw [rA (Mn_shows h) hj (by decide), pM_A x m 304 44 rfl (by decide)]
theorem Mu_shows (h : isMo sh) {j : Nat} (hj : j < 35) (v : Int32) : wI (HP sh (pM x m)) (.ref 304) (nI j) v = some (HP sh (pM x (mA m 44 j v))) := by rw [wA (Mn_shows h) hj (by decide), pM_A x m 304 44 rfl (by decide), pM_sA x m 304 44 j v rfl (by decide)]
theorem Ml_shows (h : isMo sh) : nA (HP sh (pM x m)) (.ref 304) = some (nI 35) := lenA (by decide) (Mn_shows h)
theorem M_images (h : isMo sh) : fR (HP sh (pM x m)) (.ref 259) 13 59 = some (.ref 305) := rF (h 0 _ rfl) (q := 305) rfl
theorem Mn_images (h : isMo sh) : sh[305]? = some (.inl (0, 9500)) := h 46 _ rfl
theorem Me_images (h : isMo sh) {j : Nat} (hj : j < 9500) : eI (HP sh (pM x m)) (.ref 305) (nI j) = some (m.2.1 45 j) := by rw [rA (Mn_images h) hj (by decide), pM_A x m 305 45 rfl (by decide)]
theorem Mu_images (h : isMo sh) {j : Nat} (hj : j < 9500) (v : Int32) : wI (HP sh (pM x m)) (.ref 305) (nI j) v = some (HP sh (pM x (mA m 45 j v))) := by rw [wA (Mn_images h) hj (by decide), pM_A x m 305 45 rfl (by decide), pM_sA x m 305 45 j v rfl (by decide)]
theorem Ml_images (h : isMo sh) : nA (HP sh (pM x m)) (.ref 305) = some (nI 9500) := lenA (by decide) (Mn_images h)
theorem M_isMade (h : isMo sh) : fR (HP sh (pM x m)) (.ref 259) 13 60 = some (.ref 306) := rF (h 0 _ rfl) (q := 306) rfl
theorem Mn_isMade (h : isMo sh) : sh[306]? = some (.inl (3, 4)) := h 47 _ rfl
theorem Me_isMade (h : isMo sh) {j : Nat} (hj : j < 4) : eB (HP sh (pM x m)) (.ref 306) (nI j) = some (m.2.1 46 j) := by rw [rAB (by decide) (Mn_isMade h) hj (by decide), pM_A x m 306 46 rfl (by decide)]
theorem Mu_isMade (h : isMo sh) {j : Nat} (hj : j < 4) (v : Int32) : wB (HP sh (pM x m)) (.ref 306) (nI j) v = some (HP sh (pM x (mA m 46 j (vp_nar .boolean v)))) := by rw [wAB (by decide) (Mn_isMade h) hj (by decide), pM_A x m 306 46 rfl (by decide), pM_sA x m 306 46 j _ rfl (by decide)]; rfl
theorem Ml_isMade (h : isMo sh) : nA (HP sh (pM x m)) (.ref 306) = some (nI 4) := lenA (by decide) (Mn_isMade h)
theorem M_is (h : isMo sh) : iO (HP sh (pM x m)) (.ref 259) 13 = some 259 := iO_HP (h 0 _ rfl)
end MACC2
