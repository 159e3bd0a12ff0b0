/-! constructors: what they append -/
theorem fP_app {ph0 l : PH} {b j ci k : Nat} {fs : List Value} {w : Value} (hb : b = ph0.length + j) (hl : l[j]? = some (.inr (ci, fs))) (hk : k < fs.length) : fP (ph0 ++ l) (.ref b) ci k w = some (ph0 ++ l.set j (.inr (ci, fs.set k w))) := by
  subst hb
  show pF (ph0 ++ l) (ph0.length + j) ci k w = _
  unfold pF
  rw [List.getElem?_append_right (by omega), Nat.add_sub_cancel_left, hl]
  show (if ci = ci ∧ k < fs.length then some ((ph0 ++ l).set (ph0.length + j) (.inr (ci, fs.set k w))) else none) = _
  rw [if_pos ⟨rfl, hk⟩, List.set_append_right _ _ (by omega), Nat.add_sub_cancel_left]
theorem fP_0 {ph0 tl : PH} {ci k : Nat} {fs : List Value} {w : Value} (hk : k < fs.length) : fP (ph0 ++ (.inr (ci, fs)) :: tl) (.ref ph0.length) ci k w = some (ph0 ++ (.inr (ci, fs.set k w)) :: tl) := fP_app (j := 0) rfl rfl hk
theorem len_app {ph0 l : PH} : (ph0 ++ l).length = ph0.length + l.length := List.length_append
theorem some_bind' {α β : Type} (a : α) (f : α → Option β) : (some a).bind f = f a := rfl
section CTOR
variable {L : Nat} {xs : Nat → Int32}
def dSt : PE := .inr (7, [.int 0, .int 0, .int 0, .long 0, .null, .null, .null, .null, .null, .null, .null])
def stC (b : Nat) : PH := [.inr (7, [.int 0, .int (-1), .int 0, .long 0, .ref (b + 1), .ref (b + 2), .ref (b + 3), .ref (b + 4), .ref (b + 5), .ref (b + 6), .ref (b + 7)]), nwAr 0 6, nwAr 0 6, nwAr 0 6, nwAr 0 6, nwAr 0 6, nwAr 0 5, nwAr 0 30]
theorem k_State (d : Nat) (ph0 : PH) : CL (ZZ L xs) (d + 1) mX7_init [.ref ph0.length] (ph0 ++ [dSt]) = some (ph0 ++ stC ph0.length, none) := by
  show RS (ZZ L xs) (d + 1) mX7_init 0 [some (.ref ph0.length)] [] (ph0 ++ [dSt]) = _
  rw [bX7_init_0]
  unfold dSt
  rw [fP_0 (Nat.le_of_ble_eq_true rfl), some_bind', List.append_assoc, List.cons_append, List.nil_append,
    fP_0 (Nat.le_of_ble_eq_true rfl), some_bind', List.append_assoc, List.cons_append, List.cons_append, List.nil_append,
    fP_0 (Nat.le_of_ble_eq_true rfl), some_bind', List.append_assoc, List.cons_append, List.cons_append, List.cons_append, List.nil_append,
    fP_0 (Nat.le_of_ble_eq_true rfl), some_bind', List.append_assoc]
  simp only [List.cons_append, List.nil_append]
  rw [fP_0 (Nat.le_of_ble_eq_true rfl), some_bind', List.append_assoc]
  simp only [List.cons_append, List.nil_append]
  rw [fP_0 (Nat.le_of_ble_eq_true rfl), some_bind', List.append_assoc]
  simp only [List.cons_append, List.nil_append]
  rw [fP_0 (Nat.le_of_ble_eq_true rfl), some_bind', List.append_assoc]
  simp only [List.cons_append, List.nil_append]
  rw [fP_0 (Nat.le_of_ble_eq_true rfl), some_bind']
  simp only [List.length_append, List.length_cons, List.length_nil]
  rfl
theorem kv_State (d : Nat) (ph0 : PH) : cV (ZZ L xs) (d + 1) mX7_init [.ref ph0.length] (ph0 ++ [dSt]) = some (ph0 ++ stC ph0.length) := by
  unfold cV
  rw [k_State]
  rfl
end CTOR
