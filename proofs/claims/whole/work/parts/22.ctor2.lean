/-! constructors of Scene, Tape and the readers -/
section CTOR3
variable {L : Nat} {xs : Nat → Int32}
theorem toC_len (b : Nat) : (toC b).length = 6 := rfl
theorem stC_len (b : Nat) : (stC b).length = 8 := rfl
theorem ruC_len (b : Nat) : (ruC b).length = 7 := rfl
theorem paC_len (b : Nat) : (paC b).length = 162 := by
  unfold paC
  rw [List.length_cons, List.length_cons, psC_len]
def dSc : PE := .inr (6, [.null, .null, .null, .int 0, .int 0, .int 0, .null, .null, .null])
def scO (b : Nat) : PE := .inr (6, [.ref (b + 1), .ref (b + 7), .ref (b + 15), .int (-1), .int 0, .int 0, .ref (b + 177), .ref (b + 178), .ref (b + 179)])
def scC (b : Nat) : PH := scO b :: (toC (b + 1) ++ (stC (b + 7) ++ (paC (b + 15) ++ [nwAr 0 10, nwAr 0 10, nwAr 0 10])))
theorem scC_len (b : Nat) : (scC b).length = 180 := by
  unfold scC
  rw [List.length_cons, List.length_append, List.length_append, List.length_append, toC_len, stC_len, paC_len]
  rfl
theorem kv_Scene (d : Nat) (ph0 : PH) : cV (ZZ L xs) (d + 3) mX6_init [.ref ph0.length] (ph0 ++ [dSc]) = some (ph0 ++ scC ph0.length) := by
  unfold cV
  have h : CL (ZZ L xs) (d + 3) mX6_init [.ref ph0.length] (ph0 ++ [dSc]) = some (ph0 ++ scC ph0.length, none) := by
    show RS (ZZ L xs) (d + 3) mX6_init 0 [some (.ref ph0.length)] [] (ph0 ++ [dSc]) = _
    rw [bX6_init_0]
    unfold dSc
    show (cV (ZZ L xs) (d + 1 + 1) mX9_init [Value.ref (ph0 ++ [(Sum.inr (6, [Value.null, Value.null, Value.null, Value.int 0, Value.int 0, Value.int 0, Value.null, Value.null, Value.null]) : PE)]).length] ((ph0 ++ [(Sum.inr (6, [Value.null, Value.null, Value.null, Value.int 0, Value.int 0, Value.int 0, Value.null, Value.null, Value.null]) : PE)]) ++ [dTo])).bind _ = _
    rw [kv_Town, some_bind']
    have l1 : (ph0 ++ [(Sum.inr (6, [.null, .null, .null, .int 0, .int 0, .int 0, .null, .null, .null]) : PE)]).length = ph0.length + 1 := by rw [List.length_append]; rfl
    rw [l1, List.append_assoc, List.cons_append, List.nil_append, fP_0 (Nat.le_of_ble_eq_true rfl), some_bind']
    simp only [List.set_cons_zero]
    show (cV (ZZ L xs) (d + 1 + 1) mX7_init [Value.ref (ph0 ++ (Sum.inr (6, [Value.ref (ph0.length + 1), Value.null, Value.null, Value.int 0, Value.int 0, Value.int 0, Value.null, Value.null, Value.null]) : PE) :: toC (ph0.length + 1)).length] ((ph0 ++ (Sum.inr (6, [Value.ref (ph0.length + 1), Value.null, Value.null, Value.int 0, Value.int 0, Value.int 0, Value.null, Value.null, Value.null]) : PE) :: toC (ph0.length + 1)) ++ [dSt])).bind _ = _
    rw [kv_State, some_bind']
    have l2 : (ph0 ++ (Sum.inr (6, [.ref (ph0.length + 1), .null, .null, .int 0, .int 0, .int 0, .null, .null, .null]) : PE) :: toC (ph0.length + 1)).length = ph0.length + 7 := by rw [List.length_append, List.length_cons, toC_len]
    rw [l2, List.append_assoc, List.cons_append, fP_0 (Nat.le_of_ble_eq_true rfl), some_bind']
    simp only [List.set_cons_succ, List.set_cons_zero]
    show (cV (ZZ L xs) (d + 2) mX3_init [Value.ref (ph0 ++ (Sum.inr (6, [Value.ref (ph0.length + 1), Value.ref (ph0.length + 7), Value.null, Value.int 0, Value.int 0, Value.int 0, Value.null, Value.null, Value.null]) : PE) :: (toC (ph0.length + 1) ++ stC (ph0.length + 7))).length] ((ph0 ++ (Sum.inr (6, [Value.ref (ph0.length + 1), Value.ref (ph0.length + 7), Value.null, Value.int 0, Value.int 0, Value.int 0, Value.null, Value.null, Value.null]) : PE) :: (toC (ph0.length + 1) ++ stC (ph0.length + 7))) ++ [dPa])).bind _ = _
    rw [kv_Past, some_bind']
    have l3 : (ph0 ++ (Sum.inr (6, [.ref (ph0.length + 1), .ref (ph0.length + 7), .null, .int 0, .int 0, .int 0, .null, .null, .null]) : PE) :: (toC (ph0.length + 1) ++ stC (ph0.length + 7))).length = ph0.length + 15 := by rw [List.length_append, List.length_cons, List.length_append, toC_len, stC_len]
    rw [l3, List.append_assoc, List.cons_append, List.append_assoc, fP_0 (Nat.le_of_ble_eq_true rfl), some_bind']
    simp only [List.set_cons_succ, List.set_cons_zero]
    rw [fP_0 (Nat.le_of_ble_eq_true rfl), some_bind']
    simp only [List.set_cons_succ, List.set_cons_zero]
    have l4 : ∀ o : PE, (ph0 ++ o :: (toC (ph0.length + 1) ++ (stC (ph0.length + 7) ++ paC (ph0.length + 15)))).length = ph0.length + 177 := by
      intro o
      rw [List.length_append, List.length_cons, List.length_append, List.length_append, toC_len, stC_len, paC_len]
    rw [l4, List.append_assoc, List.cons_append, fP_0 (Nat.le_of_ble_eq_true rfl), some_bind']
    simp only [List.set_cons_succ, List.set_cons_zero, List.append_assoc]
    have l5 : ∀ o : PE, (ph0 ++ o :: (toC (ph0.length + 1) ++ (stC (ph0.length + 7) ++ (paC (ph0.length + 15) ++ [nwAr 0 10])))).length = ph0.length + 178 := by
      intro o
      rw [List.length_append, List.length_cons, List.length_append, List.length_append, List.length_append, toC_len, stC_len, paC_len]
      rfl
    rw [l5, List.cons_append, fP_0 (Nat.le_of_ble_eq_true rfl), some_bind']
    simp only [List.set_cons_succ, List.set_cons_zero, List.append_assoc, List.cons_append, List.nil_append]
    have l6 : ∀ o : PE, (ph0 ++ o :: (toC (ph0.length + 1) ++ (stC (ph0.length + 7) ++ (paC (ph0.length + 15) ++ [nwAr 0 10, nwAr 0 10])))).length = ph0.length + 179 := by
      intro o
      rw [List.length_append, List.length_cons, List.length_append, List.length_append, List.length_append, toC_len, stC_len, paC_len]
      rfl
    rw [l6, fP_0 (Nat.le_of_ble_eq_true rfl), some_bind']
    rfl
  rw [h]
  rfl
def dTa : PE := .inr (8, [.null, .int 0, .int 0, .int 0, .int 0, .int 0, .int 0])
def taC (b : Nat) : PH := [.inr (8, [.ref (b + 1), .int 0, .int 0, .int 0, .int 0, .int 0, .int 0]), nwAr 0 400]
theorem kv_Tape (d : Nat) (ph0 : PH) : cV (ZZ L xs) (d + 1) mX8_init [.ref ph0.length] (ph0 ++ [dTa]) = some (ph0 ++ taC ph0.length) := by
  unfold cV
  have h : CL (ZZ L xs) (d + 1) mX8_init [.ref ph0.length] (ph0 ++ [dTa]) = some (ph0 ++ taC ph0.length, none) := by
    show RS (ZZ L xs) (d + 1) mX8_init 0 [some (.ref ph0.length)] [] (ph0 ++ [dTa]) = _
    rw [bX8_init_0]
    unfold dTa
    rw [List.append_assoc]
    simp only [List.cons_append, List.nil_append]
    rw [fP_0 (Nat.le_of_ble_eq_true rfl), some_bind']
    simp only [List.length_append, List.length_cons, List.length_nil]
    rfl
  rw [h]
  rfl
theorem kv_TR (d : Nat) (ph0 : PH) (t : Nat) : cV (ZZ L xs) (d + 1) mX10_init [.ref ph0.length, .ref t] (ph0 ++ [.inr (10, [.null])]) = some (ph0 ++ [.inr (10, [.ref t])]) := by
  unfold cV
  have h : CL (ZZ L xs) (d + 1) mX10_init [.ref ph0.length, .ref t] (ph0 ++ [.inr (10, [.null])]) = some (ph0 ++ [.inr (10, [.ref t])], none) := by
    show RS (ZZ L xs) (d + 1) mX10_init 0 [some (.ref ph0.length), some (.ref t)] [] (ph0 ++ [.inr (10, [.null])]) = _
    rw [bX10_init_0 (hv1 := rfl), fP_0 (Nat.le_of_ble_eq_true rfl), some_bind']
    rfl
  rw [h]
  rfl
theorem kv_RR (d : Nat) (ph0 : PH) (t : Nat) : cV (ZZ L xs) (d + 1) mX5_init [.ref ph0.length, .ref t] (ph0 ++ [.inr (5, [.null, .null])]) = some (ph0 ++ [.inr (5, [.ref t, .null])]) := by
  unfold cV
  have h : CL (ZZ L xs) (d + 1) mX5_init [.ref ph0.length, .ref t] (ph0 ++ [.inr (5, [.null, .null])]) = some (ph0 ++ [.inr (5, [.ref t, .null])], none) := by
    show RS (ZZ L xs) (d + 1) mX5_init 0 [some (.ref ph0.length), some (.ref t)] [] (ph0 ++ [.inr (5, [.null, .null])]) = _
    rw [bX5_init_0 (hv1 := rfl), fP_0 (Nat.le_of_ble_eq_true rfl), some_bind']
    rfl
  rw [h]
  rfl
end CTOR3
