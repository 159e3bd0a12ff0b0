/-! the constructors of the class -/
theorem g_arr {ph0 tl : PH} {ci k : Nat} {fs : List Value} (c : PE) (hk : k < fs.length) : fP ((ph0 ++ (.inr (ci, fs)) :: tl) ++ [c]) (.ref ph0.length) ci k (.ref (ph0 ++ (.inr (ci, fs)) :: tl).length) = some (ph0 ++ (.inr (ci, fs.set k (.ref (ph0.length + (tl.length + 1))))) :: (tl ++ [c])) := by
  rw [List.append_assoc, List.cons_append, fP_0 hk, len_app]
  rfl
section S2
variable {L : Nat} {xs : Nat → Int32}
def dHi : PE := .inr (1, [.null, .null, .null, .null])
def hiC (a b n : Nat) : PH := .inr (1, [.ref a, .ref b, .ref (n + 1), .ref (n + 9)]) :: (stC (n + 1) ++ [nwAr 0 35])
theorem kv_Hist (d : Nat) (ph0 : PH) (a b : Nat) : cV (ZZ L xs) (d + 2) mX1_init [.ref ph0.length, .ref a, .ref b] (ph0 ++ [dHi]) = some (ph0 ++ hiC a b ph0.length) := by
  refine cV_of ?_
  show RS (ZZ L xs) (d + 2) mX1_init 0 [some (.ref ph0.length), some (.ref a), some (.ref b)] [] _ = _
  rw [bX1_init_0 (hv1 := rfl) (hv2 := rfl)]
  show (cV (ZZ L xs) (d + 1) mX7_init [.ref (ph0 ++ [dHi]).length] ((ph0 ++ [dHi]) ++ [dSt])).bind _ = _
  have l1 : (ph0 ++ [dHi]).length = ph0.length + 1 := by rw [List.length_append]; rfl
  rw [kv_State, some_bind', l1, List.append_assoc, List.cons_append, List.nil_append]
  unfold dHi
  rw [fP_0 (Nat.le_of_ble_eq_true rfl), some_bind', g_arr _ (Nat.le_of_ble_eq_true rfl), some_bind', fP_0 (Nat.le_of_ble_eq_true rfl), some_bind', fP_0 (Nat.le_of_ble_eq_true rfl), some_bind']
  rfl
def dOl : PE := .inr (2, [.null, .null, .null, .null, .null, .null, .int 0, .int 0, .int 0, .int 0, .int 0])
def tuA (n i : Nat) : PE := .inl (5, 4, .inr (.inr (.inr (.inr (fun j => if j < i then some (n + 12 + 8 * j) else none)))))
def tsC (n : Nat) : Nat → PH
  | 0 => []
  | i + 1 => tsC n i ++ stC (n + 12 + 8 * i)
theorem tsC_len (n i : Nat) : (tsC n i).length = 8 * i := by
  induction i with
  | zero => rfl
  | succ i ih =>
    show (tsC n i ++ stC (n + 12 + 8 * i)).length = _
    rw [List.length_append, ih]
    show 8 * i + 8 = _
    omega
def olP (a b n i : Nat) : PH := .inr (2, [.ref a, .ref b, .ref (n + 1), .ref (n + 9), .ref (n + 10), .ref (n + 11), .int 0, .int 0, .int 0, .int 0, .int 0]) :: (stC (n + 1) ++ [tuA n i, nwAr 0 64, nwAr 0 64])
def olC (a b n : Nat) : PH := olP a b n 4 ++ tsC n 4
theorem olP_len (a b n i : Nat) : (olP a b n i).length = 12 := rfl
theorem tuA_up (n i : Nat) : va_up (fun j => if j < i then some (n + 12 + 8 * j) else none) i (some (n + 12 + 8 * i)) = fun j => if j < i + 1 then some (n + 12 + 8 * j) else none := by
  funext j
  unfold va_up
  by_cases h : j = i
  · subst h
    rw [if_pos rfl, if_pos (by omega)]
  · rw [if_neg h]
    show (if j < i then some (n + 12 + 8 * j) else none) = _
    by_cases h2 : j < i
    · rw [if_pos h2, if_pos (by omega)]
    · rw [if_neg h2, if_neg (by omega)]
theorem out_loop (d : Nat) (ph0 : PH) (a b : Nat) : ∀ (f i : Nat), f + i = 4 → ∀ (u1 u2 : Option Value), RS (ZZ L xs) (d + 2) mX2_init 51 [some (.ref ph0.length), u1, u2, some (.int (nI i))] [] (ph0 ++ (olP a b ph0.length i ++ tsC ph0.length i)) = some (ph0 ++ olC a b ph0.length, none) := by
  intro f
  induction f with
  | zero =>
    intro i hi u1 u2
    have : i = 4 := by omega
    subst this
    rw [bX2_init_51, if_pos (by decide)]
    rfl
  | succ f ih =>
    intro i hi u1 u2
    have hlt : i < 4 := by omega
    rw [bX2_init_51, if_neg (show ¬ (3 : Int32) < nI i from fun z => absurd ((nI_ltI (a := 3) (b := i) (by decide) (by omega)).mp z) (by omega))]
    have hf : ∀ tl, fR (ph0 ++ (olP a b ph0.length i ++ tl)) (.ref ph0.length) 2 3 = some (.ref (ph0.length + 9)) := fun tl => fR_app (j := 0) rfl rfl rfl rfl
    rw [hf, some_bind']
    show (cV (ZZ L xs) (d + 1) mX7_init [.ref (ph0 ++ (olP a b ph0.length i ++ tsC ph0.length i)).length] ((ph0 ++ (olP a b ph0.length i ++ tsC ph0.length i)) ++ [dSt])).bind _ = _
    rw [kv_State, some_bind']
    have hlen : (ph0 ++ (olP a b ph0.length i ++ tsC ph0.length i)).length = ph0.length + 12 + 8 * i := by
      rw [List.length_append, List.length_append, tsC_len, olP_len]
      omega
    rw [hlen, List.append_assoc, List.append_assoc]
    rw [wR_app (j := 9) (t := 5) (n := 4) (f := fun j => if j < i then some (ph0.length + 12 + 8 * j) else none) rfl rfl (by decide) hlt (by decide) (isO_app (j := 12 + 8 * i) (by omega) (by
      rw [List.getElem?_append_right (by rw [olP_len]; omega), olP_len, List.getElem?_append_right (by rw [tsC_len]; omega), tsC_len, show 12 + 8 * i - 12 - 8 * i = 0 by omega]
      rfl))]
    rw [some_bind', tuA_up, nI_1]
    exact ih (i + 1) (by omega) _ _
theorem kv_Out (d : Nat) (ph0 : PH) (a b : Nat) : cV (ZZ L xs) (d + 2) mX2_init [.ref ph0.length, .ref a, .ref b] (ph0 ++ [dOl]) = some (ph0 ++ olC a b ph0.length) := by
  refine cV_of ?_
  show RS (ZZ L xs) (d + 2) mX2_init 0 [some (.ref ph0.length), some (.ref a), some (.ref b), none] [] _ = _
  rw [bX2_init_0 (hv1 := rfl) (hv2 := rfl)]
  show (cV (ZZ L xs) (d + 1) mX7_init [.ref (ph0 ++ [dOl]).length] ((ph0 ++ [dOl]) ++ [dSt])).bind _ = _
  have l1 : (ph0 ++ [dOl]).length = ph0.length + 1 := by rw [List.length_append]; rfl
  have tu0 : nwR 5 ((4 : Int32).toNatClampNeg) = tuA ph0.length 0 := by
    unfold nwR tuA
    have : (fun _ => none : Nat → Option Nat) = fun j => if j < 0 then some (ph0.length + 12 + 8 * j) else none := by
      funext j
      rw [if_neg (Nat.not_lt_zero j)]
    rw [this]
    rfl
  rw [kv_State, some_bind', l1, List.append_assoc, List.cons_append, List.nil_append]
  unfold dOl
  rw [fP_0 (Nat.le_of_ble_eq_true rfl), some_bind', tu0, g_arr _ (Nat.le_of_ble_eq_true rfl), some_bind', g_arr _ (Nat.le_of_ble_eq_true rfl), some_bind', g_arr _ (Nat.le_of_ble_eq_true rfl), some_bind', fP_0 (Nat.le_of_ble_eq_true rfl), some_bind', fP_0 (Nat.le_of_ble_eq_true rfl), some_bind']
  have := out_loop (L := L) (xs := xs) d ph0 a b 4 0 rfl (some (.ref a)) (some (.ref b))
  rw [show tsC ph0.length 0 = [] from rfl, List.append_nil] at this
  exact this
end S2
