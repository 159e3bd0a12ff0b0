/-! constructors: what they append -/
theorem fP_app {ph0 l : PH} {b j ci k : Nat} {fs : List Value} {w : Value} (hb : b = ph0.length + j) (hl : l[j]? = some (.inr (ci, fs))) (hk : k < fs.length) : fP (ph0 ++ l) (.ref b) ci k w = some (ph0 ++ l.set j (.inr (ci, fs.set k w))) := by
  subst hb
  show pF (ph0 ++ l) (ph0.length + j) ci k w = _
  unfold pF
  rw [List.getElem?_append_right (by omega), Nat.add_sub_cancel_left, hl]
  show (if ci = ci ∧ k < fs.length then some ((ph0 ++ l).set (ph0.length + j) (.inr (ci, fs.set k w))) else none) = _
  rw [if_pos ⟨rfl, hk⟩, List.set_append_right _ _ (by omega), Nat.add_sub_cancel_left]
theorem fP_0 {ph0 tl : PH} {ci k : Nat} {fs : List Value} {w : Value} (hk : k < fs.length) : fP (ph0 ++ (.inr (ci, fs)) :: tl) (.ref ph0.length) ci k w = some (ph0 ++ (.inr (ci, fs.set k w)) :: tl) := fP_app (j := 0) rfl rfl hk
theorem len_app {ph0 l : PH} : (ph0 ++ l).length = ph0.length + l.length := List.length_append
theorem some_bind' {α β : Type} (a : α) (f : α → Option β) : (some a).bind f = f a := rfl
section CTOR
variable {L : Nat} {xs : Nat → Int32}
def dSt : PE := .inr (7, [.int 0, .int 0, .int 0, .long 0, .null, .null, .null, .null, .null, .null, .null])
def stC (b : Nat) : PH := [.inr (7, [.int 0, .int (-1), .int 0, .long 0, .ref (b + 1), .ref (b + 2), .ref (b + 3), .ref (b + 4), .ref (b + 5), .ref (b + 6), .ref (b + 7)]), nwAr 0 6, nwAr 0 6, nwAr 0 6, nwAr 0 6, nwAr 0 6, nwAr 0 5, nwAr 0 30]
theorem k_State (d : Nat) (ph0 : PH) : CL (ZZ L xs) (d + 1) mX7_init [.ref ph0.length] (ph0 ++ [dSt]) = some (ph0 ++ stC ph0.length, none) := by
  show RS (ZZ L xs) (d + 1) mX7_init 0 [some (.ref ph0.length)] [] (ph0 ++ [dSt]) = _
  rw [bX7_init_0]
  unfold dSt
  rw [fP_0 (Nat.le_of_ble_eq_true rfl), some_bind', List.append_assoc, List.cons_append, List.nil_append,
    fP_0 (Nat.le_of_ble_eq_true rfl), some_bind', List.append_assoc, List.cons_append, List.cons_append, List.nil_append,
    fP_0 (Nat.le_of_ble_eq_true rfl), some_bind', List.append_assoc, List.cons_append, List.cons_append, List.cons_append, List.nil_append,
    fP_0 (Nat.le_of_ble_eq_true rfl), some_bind', List.append_assoc]
  simp only [List.cons_append, List.nil_append]
  rw [fP_0 (Nat.le_of_ble_eq_true rfl), some_bind', List.append_assoc]
  simp only [List.cons_append, List.nil_append]
  rw [fP_0 (Nat.le_of_ble_eq_true rfl), some_bind', List.append_assoc]
  simp only [List.cons_append, List.nil_append]
  rw [fP_0 (Nat.le_of_ble_eq_true rfl), some_bind', List.append_assoc]
  simp only [List.cons_append, List.nil_append]
  rw [fP_0 (Nat.le_of_ble_eq_true rfl), some_bind']
  simp only [List.length_append, List.length_cons, List.length_nil]
  rfl
theorem kv_State (d : Nat) (ph0 : PH) : cV (ZZ L xs) (d + 1) mX7_init [.ref ph0.length] (ph0 ++ [dSt]) = some (ph0 ++ stC ph0.length) := by
  unfold cV
  rw [k_State]
  rfl
end CTOR
theorem wR_app {ph0 l : PH} {a j t n i v : Nat} {f : Nat → Option Nat} (ha : a = ph0.length + j) (hl : l[j]? = some (.inl (t, n, .inr (.inr (.inr (.inr f)))))) (ht : t = 4 ∨ t = 5 ∨ t = 6) (hi : i < n) (hn : n < 2 ^ 31) (ho : isO (ph0 ++ l) v (tC t) = true) : wR (ph0 ++ l) (.ref a) (nI i) (.ref v) = some (ph0 ++ l.set j (.inl (t, n, .inr (.inr (.inr (.inr (va_up f i (some v)))))))) := by
  subst ha
  show uR (ph0 ++ l) (ph0.length + j) (nI i) v = _
  unfold uR
  rw [List.getElem?_append_right (by omega), Nat.add_sub_cancel_left, hl]
  show (if (t = 4 ∨ t = 5 ∨ t = 6) ∧ ¬ (nI i < 0 ∨ n ≤ (nI i).toNatClampNeg) ∧ isO (ph0 ++ l) v (tC t) = true then some ((ph0 ++ l).set (ph0.length + j) _) else none) = _
  rw [if_pos ⟨ht, in_nI hi hn, ho⟩, List.set_append_right _ _ (by omega), Nat.add_sub_cancel_left, nI_clamp (by omega)]
theorem isO_app {ph0 l : PH} {v j ci : Nat} {fs : List Value} (hv : v = ph0.length + j) (hl : l[j]? = some (.inr (ci, fs))) : isO (ph0 ++ l) v ci = true := by
  subst hv
  unfold isO
  rw [List.getElem?_append_right (by omega), Nat.add_sub_cancel_left, hl]
  show (ci == ci) = true
  simp
theorem fR_app {ph0 l : PH} {b j ci k : Nat} {fs : List Value} {w : Value} (hb : b = ph0.length + j) (hl : l[j]? = some (.inr (ci, fs))) (hk : fs[k]? = some w) (hw : isR w = true) : fR (ph0 ++ l) (.ref b) ci k = some w := by
  subst hb
  unfold fR gF
  show (match (match (ph0 ++ l)[ph0.length + j]? with | some (.inr (c, fs)) => if c = ci then fs[k]? else none | _ => none) with | some w => if isR w = true then some w else none | _ => none) = _
  rw [List.getElem?_append_right (by omega), Nat.add_sub_cancel_left, hl]
  show (match (if ci = ci then fs[k]? else none) with | some w => if isR w = true then some w else none | _ => none) = _
  rw [if_pos rfl, hk]
  show (if isR w = true then some w else none) = _
  rw [if_pos hw]
theorem iO_app {ph0 l : PH} {b j ci : Nat} {fs : List Value} (hb : b = ph0.length + j) (hl : l[j]? = some (.inr (ci, fs))) : iO (ph0 ++ l) (.ref b) ci = some b := by
  unfold iO
  show (if isO (ph0 ++ l) b ci = true then some b else none) = _
  rw [if_pos (isO_app hb hl)]
section CTOR2
variable {L : Nat} {xs : Nat → Int32}
def dTo : PE := .inr (9, [.int 0, .int 0, .int 0, .int 0, .long 0, .int 0, .null, .null, .null, .null, .null])
def toC (b : Nat) : PH := [.inr (9, [.int 0, .int 0, .int 0, .int 0, .long 0, .int 0, .ref (b + 1), .ref (b + 2), .ref (b + 3), .ref (b + 4), .ref (b + 5)]), nwAr 0 6, nwAr 0 6, nwAr 0 5, nwAr 0 5, nwAr 0 5]
theorem kv_Town (d : Nat) (ph0 : PH) : cV (ZZ L xs) (d + 1) mX9_init [.ref ph0.length] (ph0 ++ [dTo]) = some (ph0 ++ toC ph0.length) := by
  unfold cV
  have h : CL (ZZ L xs) (d + 1) mX9_init [.ref ph0.length] (ph0 ++ [dTo]) = some (ph0 ++ toC ph0.length, none) := by
    show RS (ZZ L xs) (d + 1) mX9_init 0 [some (.ref ph0.length)] [] (ph0 ++ [dTo]) = _
    rw [bX9_init_0]
    unfold dTo
    rw [List.append_assoc]
    simp only [List.cons_append, List.nil_append]
    rw [fP_0 (Nat.le_of_ble_eq_true rfl), some_bind', List.append_assoc]
    simp only [List.cons_append, List.nil_append]
    rw [fP_0 (Nat.le_of_ble_eq_true rfl), some_bind', List.append_assoc]
    simp only [List.cons_append, List.nil_append]
    rw [fP_0 (Nat.le_of_ble_eq_true rfl), some_bind', List.append_assoc]
    simp only [List.cons_append, List.nil_append]
    rw [fP_0 (Nat.le_of_ble_eq_true rfl), some_bind', List.append_assoc]
    simp only [List.cons_append, List.nil_append]
    rw [fP_0 (Nat.le_of_ble_eq_true rfl), some_bind']
    simp only [List.length_append, List.length_cons, List.length_nil]
    rfl
  rw [h]
  rfl
def dRu : PE := .inr (4, [.int 0, .null, .null, .int 0, .null, .null, .int 0, .int 0, .null, .null])
def ruC (b : Nat) : PH := [.inr (4, [.int 0, .ref (b + 1), .ref (b + 2), .int 0, .ref (b + 3), .ref (b + 4), .int 0, .int 0, .ref (b + 5), .ref (b + 6)]), nwAr 0 60, nwAr 0 60, nwAr 0 60, nwAr 0 60, nwAr 0 256, nwAr 0 256]
theorem kv_Rule (d : Nat) (ph0 : PH) : cV (ZZ L xs) (d + 1) mX4_init [.ref ph0.length] (ph0 ++ [dRu]) = some (ph0 ++ ruC ph0.length) := by
  unfold cV
  have h : CL (ZZ L xs) (d + 1) mX4_init [.ref ph0.length] (ph0 ++ [dRu]) = some (ph0 ++ ruC ph0.length, none) := by
    show RS (ZZ L xs) (d + 1) mX4_init 0 [some (.ref ph0.length)] [] (ph0 ++ [dRu]) = _
    rw [bX4_init_0]
    unfold dRu
    rw [List.append_assoc]
    simp only [List.cons_append, List.nil_append]
    rw [fP_0 (Nat.le_of_ble_eq_true rfl), some_bind', List.append_assoc]
    simp only [List.cons_append, List.nil_append]
    rw [fP_0 (Nat.le_of_ble_eq_true rfl), some_bind', List.append_assoc]
    simp only [List.cons_append, List.nil_append]
    rw [fP_0 (Nat.le_of_ble_eq_true rfl), some_bind', List.append_assoc]
    simp only [List.cons_append, List.nil_append]
    rw [fP_0 (Nat.le_of_ble_eq_true rfl), some_bind', List.append_assoc]
    simp only [List.cons_append, List.nil_append]
    rw [fP_0 (Nat.le_of_ble_eq_true rfl), some_bind', List.append_assoc]
    simp only [List.cons_append, List.nil_append]
    rw [fP_0 (Nat.le_of_ble_eq_true rfl), some_bind']
    simp only [List.length_append, List.length_cons, List.length_nil]
    rfl
  rw [h]
  rfl
def dPa : PE := .inr (3, [.int 0, .int 0, .null])
/-- so many of the past's states -/
def psC (b : Nat) : Nat → PH
  | 0 => []
  | i + 1 => psC b i ++ stC (b + 2 + 8 * i)
theorem psC_len (b i : Nat) : (psC b i).length = 8 * i := by
  induction i with
  | zero => rfl
  | succ i ih =>
    show (psC b i ++ stC (b + 2 + 8 * i)).length = _
    rw [List.length_append, ih]
    show 8 * i + 8 = _
    omega
def kpA (b i : Nat) : PE := .inl (5, 20, .inr (.inr (.inr (.inr (fun j => if j < i then some (b + 2 + 8 * j) else none)))))
def paC (b : Nat) : PH := .inr (3, [.int 0, .int 0, .ref (b + 1)]) :: kpA b 20 :: psC b 20
theorem kpA_up (b i : Nat) : va_up (fun j => if j < i then some (b + 2 + 8 * j) else none) i (some (b + 2 + 8 * i)) = fun j => if j < i + 1 then some (b + 2 + 8 * j) else none := by
  funext j
  unfold va_up
  by_cases h : j = i
  · subst h
    rw [if_pos rfl, if_pos (by omega)]
  · rw [if_neg h]
    show (if j < i then some (b + 2 + 8 * j) else none) = _
    by_cases h2 : j < i
    · rw [if_pos h2, if_pos (by omega)]
    · rw [if_neg h2, if_neg (by omega)]
theorem past_loop (d : Nat) (ph0 : PH) : ∀ (f i : Nat), f + i = 20 → RS (ZZ L xs) (d + 2) mX3_init 15 [some (.ref ph0.length), some (.int (nI i))] [] (ph0 ++ (.inr (3, [.int 0, .int 0, .ref (ph0.length + 1)]) :: kpA ph0.length i :: psC ph0.length i)) = some (ph0 ++ paC ph0.length, none) := by
  intro f
  induction f with
  | zero =>
    intro i hi
    have : i = 20 := by omega
    subst this
    rw [bX3_init_15, if_pos (by decide)]
    rfl
  | succ f ih =>
    intro i hi
    have hlt : i < 20 := by omega
    rw [bX3_init_15, if_neg (show ¬ (20 : Int32) ≤ nI i from nI_ge (b := 20) hlt (by decide))]
    have hf : ∀ tl, fR (ph0 ++ (.inr (3, [.int 0, .int 0, .ref (ph0.length + 1)]) :: tl)) (.ref ph0.length) 3 2 = some (.ref (ph0.length + 1)) := fun tl => fR_app (j := 0) rfl rfl rfl rfl
    rw [hf, some_bind']
    show (cV (ZZ L xs) (d + 1) mX7_init [.ref (ph0 ++ (.inr (3, [.int 0, .int 0, .ref (ph0.length + 1)]) :: kpA ph0.length i :: psC ph0.length i)).length] ((ph0 ++ (.inr (3, [.int 0, .int 0, .ref (ph0.length + 1)]) :: kpA ph0.length i :: psC ph0.length i)) ++ [dSt])).bind _ = _
    rw [kv_State, some_bind']
    have hlen : (ph0 ++ (.inr (3, [.int 0, .int 0, .ref (ph0.length + 1)]) :: kpA ph0.length i :: psC ph0.length i)).length = ph0.length + 2 + 8 * i := by
      rw [List.length_append, List.length_cons, List.length_cons, psC_len]
      omega
    rw [hlen, List.append_assoc, List.cons_append, List.cons_append]
    rw [wR_app (j := 1) (t := 5) (n := 20) (f := fun j => if j < i then some (ph0.length + 2 + 8 * j) else none) rfl rfl (by decide) hlt (by decide) (isO_app (j := 2 + 8 * i) (by omega) (by
      rw [show 2 + 8 * i = 8 * i + 1 + 1 by omega, List.getElem?_cons_succ, List.getElem?_cons_succ, List.getElem?_append_right (by rw [psC_len]; omega), psC_len, Nat.sub_self]
      rfl))]
    rw [some_bind', kpA_up, nI_1]
    exact ih (i + 1) (by omega)
theorem kv_Past (d : Nat) (ph0 : PH) : cV (ZZ L xs) (d + 2) mX3_init [.ref ph0.length] (ph0 ++ [dPa]) = some (ph0 ++ paC ph0.length) := by
  unfold cV
  have h : CL (ZZ L xs) (d + 2) mX3_init [.ref ph0.length] (ph0 ++ [dPa]) = some (ph0 ++ paC ph0.length, none) := by
    show RS (ZZ L xs) (d + 2) mX3_init 0 [some (.ref ph0.length), none] [] (ph0 ++ [dPa]) = _
    rw [bX3_init_0]
    unfold dPa
    rw [List.append_assoc]
    simp only [List.cons_append, List.nil_append]
    rw [fP_0 (Nat.le_of_ble_eq_true rfl), some_bind']
    simp only [List.length_append, List.length_cons, List.length_nil]
    have := past_loop (L := L) (xs := xs) d ph0 20 0 rfl
    refine Eq.trans ?_ this
    rfl
  rw [h]
  rfl
end CTOR2
