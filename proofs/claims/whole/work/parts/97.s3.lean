/-! the constructors of the class: clock, the whole -/
section S3
variable {L : Nat} {xs : Nat → Int32}
def dCk : PE := .inr (0, [.null, .null, .null, .null, .null, .int 0])
def dWy : PE := .inr (11, [.long 0, .null])
def wyC (n : Nat) : PH := [.inr (11, [.long 0, .ref (n + 1)]), .inl (0, 64, .inl (trn 0 64 (dst 0)))]
def ckC (n : Nat) : PH := .inr (0, [.ref (n + 1), .ref (n + 3), .ref (n + 4), .ref (n + 5), .null, .int 0]) :: (wyC (n + 1) ++ ([nwAr 0 5, nwAr 0 12] ++ toC (n + 5)))
def shWq (n : Nat) : List Sh := [.inr (0, [(3, 0), (3, 0), (3, 0), (3, 0), (3, 0), (0, 0)]), .inr (11, [(1, 0), (2, n + 1 + 1)]), .inl (0, 64)]
def nulR : Nat → Nat → Value := fun _ _ => .null
def nonA : Nat → Nat → Option Nat := fun _ _ => none
def zerI : Nat → Nat → Int32 := fun _ _ => 0
theorem wq_1 (sh : List Sh) (y : ST) : HP sh y ++ [dCk, .inr (11, [.long 0, .ref (sh.length + 1 + 1)]), nwAr 0 64] = HP (sh ++ shWq sh.length) (bl y sh.length zerI nulR nonA) := by
  refine HP_blk (Off_bl y sh.length zerI nulR nonA) (blk_cons ?_ (blk_cons ?_ (blk_cons ?_ (blk_nil _ _))))
  · show _ = Sum.inr (0, [(bl y sh.length zerI nulR nonA).2.2.1 sh.length 0, (bl y sh.length zerI nulR nonA).2.2.1 sh.length 1, (bl y sh.length zerI nulR nonA).2.2.1 sh.length 2, (bl y sh.length zerI nulR nonA).2.2.1 sh.length 3, (bl y sh.length zerI nulR nonA).2.2.1 sh.length 4, Value.int ((bl y sh.length zerI nulR nonA).1 sh.length 5)])
    rw [bl_R (Nat.le_refl _), bl_R (Nat.le_refl _), bl_R (Nat.le_refl _), bl_R (Nat.le_refl _), bl_R (Nat.le_refl _), bl_I (Nat.le_refl _)]
    rfl
  · show _ = Sum.inr (11, [Value.long ((bl y sh.length zerI nulR nonA).2.1 (sh.length + 1) 0), .ref (sh.length + 1 + 1)])
    rw [bl_J (by omega)]
  · exact (cell_bl (by omega)).symm
theorem wq_2 (sh : List Sh) (y : ST) : HP sh y ++ ([dCk] ++ wyC (sh.length + 1)) = HP (sh ++ shWq sh.length) (sA (sJL (bl y sh.length zerI nulR nonA) (sh.length + 1) 0 0) (sh.length + 1 + 1) (dst 0)) := by
  refine HP_blk (Off_sA (Off_sJL (Off_bl y sh.length zerI nulR nonA) (by omega) _ _) (by omega) _) (blk_cons ?_ (blk_cons ?_ (blk_cons ?_ (blk_nil _ _))))
  · show _ = Sum.inr (0, [(bl y sh.length zerI nulR nonA).2.2.1 sh.length 0, (bl y sh.length zerI nulR nonA).2.2.1 sh.length 1, (bl y sh.length zerI nulR nonA).2.2.1 sh.length 2, (bl y sh.length zerI nulR nonA).2.2.1 sh.length 3, (bl y sh.length zerI nulR nonA).2.2.1 sh.length 4, Value.int ((bl y sh.length zerI nulR nonA).1 sh.length 5)])
    rw [bl_R (Nat.le_refl _), bl_R (Nat.le_refl _), bl_R (Nat.le_refl _), bl_R (Nat.le_refl _), bl_R (Nat.le_refl _), bl_I (Nat.le_refl _)]
    rfl
  · show _ = Sum.inr (11, [Value.long (up2 (bl y sh.length zerI nulR nonA).2.1 (sh.length + 1) 0 0 (sh.length + 1) 0), .ref (sh.length + 1 + 1)])
    unfold up2
    rw [if_pos ⟨rfl, rfl⟩]
  · rw [cell_int', sA_at]
theorem kv_Ways (d : Nat) (sh : List Sh) (y : ST) : cV (ZZ L xs) (d + 3) mX11_init [.ref (HP sh y ++ [dCk]).length] ((HP sh y ++ [dCk]) ++ [dWy]) = some (HP sh y ++ ([dCk] ++ wyC (sh.length + 1))) := by
  refine cV_of ?_
  show RS (ZZ L xs) (d + 3) mX11_init 0 [some (.ref (HP sh y ++ [dCk]).length)] [] _ = _
  have hP : (HP sh y ++ [dCk]).length = sh.length + 1 := by rw [List.length_append, HP_len]; rfl
  rw [bX11_init_0]
  unfold dWy
  rw [g_arr _ (Nat.le_of_ble_eq_true rfl), some_bind', hP]
  have e9 : (HP sh y ++ [dCk]) ++ (.inr (11, [.long 0, .ref (sh.length + 1 + 1)])) :: ([] ++ [nwAr 0 64]) = HP (sh ++ shWq sh.length) (bl y sh.length zerI nulR nonA) := by
    rw [List.append_assoc]
    exact wq_1 sh y
  have hw : isWays (sh ++ shWq sh.length) (sh.length + 1) := ⟨Ext_at 1 rfl, Ext_at 2 rfl⟩
  show (iO ((HP sh y ++ [dCk]) ++ (.inr (11, [.long 0, .ref (sh.length + 1 + 1)])) :: ([] ++ [nwAr 0 64])) (.ref (sh.length + 1)) 11).bind _ = _
  rw [e9, iO_HP hw.1, some_bind']
  show (cV (ZZ L xs) (d + 2) mX11_measure [.ref (sh.length + 1), .long 0] ((HP sh y ++ [dCk]) ++ (.inr (11, [.long 0, .ref (sh.length + 1 + 1)])) :: ([] ++ [nwAr 0 64]))).bind _ = _
  rw [e9, v_measure d hw, some_bind', bl_A (by omega), wq_2]
  rfl
theorem kv_Ck (d : Nat) (sh : List Sh) (y : ST) : cV (ZZ L xs) (d + 4) mX0_init [.ref (HP sh y).length] (HP sh y ++ [dCk]) = some (HP sh y ++ ckC (HP sh y).length) := by
  refine cV_of ?_
  show RS (ZZ L xs) (d + 4) mX0_init 0 [some (.ref (HP sh y).length)] [] _ = _
  have hP : (HP sh y ++ [dCk]).length = (HP sh y).length + 1 := by rw [List.length_append]; rfl
  have hl : (HP sh y).length = sh.length := HP_len sh y
  rw [bX0_init_0]
  show (cV (ZZ L xs) (d + 3) mX11_init [.ref (HP sh y ++ [dCk]).length] ((HP sh y ++ [dCk]) ++ [dWy])).bind _ = _
  rw [kv_Ways, some_bind', hP, ← hl, List.cons_append, List.nil_append]
  generalize HP sh y = P
  unfold dCk
  rw [fP_0 (Nat.le_of_ble_eq_true rfl), some_bind', g_arr _ (Nat.le_of_ble_eq_true rfl), some_bind', g_arr _ (Nat.le_of_ble_eq_true rfl), some_bind']
  have key : ∀ (X : PH) (F : PH → Option (PH × Option Value)), ((dR (.ref X.length)).bind fun b35 => (cV (ZZ L xs) (d + 3) mX9_init [.ref b35] (X ++ [.inr (9, [.int 0, .int 0, .int 0, .int 0, .long 0, .int 0, .null, .null, .null, .null, .null])])).bind F) = F (X ++ toC X.length) := fun X F => by
    show (cV (ZZ L xs) (d + 3) mX9_init [.ref X.length] (X ++ [dTo])).bind F = _
    rw [kv_Town (d + 2)]
    rfl
  have hX : ∀ o : PE, (P ++ o :: (wyC (P.length + 1) ++ [nwAr 0 5] ++ [nwAr 0 12])).length = P.length + 5 := fun o => by
    rw [List.length_append]
    rfl
  rw [key, hX, List.append_assoc, List.cons_append, fP_0 (Nat.le_of_ble_eq_true rfl), some_bind']
  rfl
def dWM : PE := .inr (12, [.null, .null, .null, .null, .int 0, .null, .null, .null, .null, .null, .null])
theorem w_put {tl : PH} {ci k : Nat} {fs : List Value} {w : Value} (hk : k < fs.length) : fP ((.inr (ci, fs)) :: tl) (.ref 0) ci k w = some ((.inr (ci, fs.set k w)) :: tl) := fP_0 (ph0 := []) hk
theorem nw_Ta (d : Nat) (X : PH) (F : PH → Option (PH × Option Value)) : ((dR (.ref X.length)).bind fun b => (cV (ZZ L xs) (d + 1) mX8_init [.ref b] (X ++ [.inr (8, [.null, .int 0, .int 0, .int 0, .int 0, .int 0, .int 0])])).bind F) = F (X ++ taC X.length) := by
  show (cV (ZZ L xs) (d + 1) mX8_init [.ref X.length] (X ++ [dTa])).bind F = _
  rw [kv_Tape d]
  rfl
theorem nw_Sc (d : Nat) (X : PH) (F : PH → Option (PH × Option Value)) : ((dR (.ref X.length)).bind fun b => (cV (ZZ L xs) (d + 3) mX6_init [.ref b] (X ++ [.inr (6, [.null, .null, .null, .int 0, .int 0, .int 0, .null, .null, .null])])).bind F) = F (X ++ scC X.length) := by
  show (cV (ZZ L xs) (d + 3) mX6_init [.ref X.length] (X ++ [dSc])).bind F = _
  rw [kv_Scene d]
  rfl
theorem nw_Ck (d : Nat) {X : PH} {sh : List Sh} {y : ST} (h : X = HP sh y) (F : PH → Option (PH × Option Value)) : ((dR (.ref X.length)).bind fun b => (cV (ZZ L xs) (d + 4) mX0_init [.ref b] (X ++ [.inr (0, [.null, .null, .null, .null, .null, .int 0])])).bind F) = F (X ++ ckC X.length) := by
  subst h
  show (cV (ZZ L xs) (d + 4) mX0_init [.ref (HP sh y).length] (HP sh y ++ [dCk])).bind F = _
  rw [kv_Ck d]
  rfl
theorem nw_TR (d t : Nat) (X : PH) (F : PH → Option (PH × Option Value)) : ((dR (.ref X.length)).bind fun b => (cV (ZZ L xs) (d + 1) mX10_init [.ref b, .ref t] (X ++ [.inr (10, [.null])])).bind F) = F (X ++ [.inr (10, [.ref t])]) := by
  show (cV (ZZ L xs) (d + 1) mX10_init [.ref X.length, .ref t] (X ++ [.inr (10, [.null])])).bind F = _
  rw [kv_TR d]
  rfl
theorem nw_RR (d t : Nat) (X : PH) (F : PH → Option (PH × Option Value)) : ((dR (.ref X.length)).bind fun b => (cV (ZZ L xs) (d + 1) mX5_init [.ref b, .ref t] (X ++ [.inr (5, [.null, .null])])).bind F) = F (X ++ [.inr (5, [.ref t, .null])]) := by
  show (cV (ZZ L xs) (d + 1) mX5_init [.ref X.length, .ref t] (X ++ [.inr (5, [.null, .null])])).bind F = _
  rw [kv_RR d]
  rfl
theorem nw_Ru (d : Nat) (X : PH) (F : PH → Option (PH × Option Value)) : ((dR (.ref X.length)).bind fun b => (cV (ZZ L xs) (d + 1) mX4_init [.ref b] (X ++ [.inr (4, [.int 0, .null, .null, .int 0, .null, .null, .int 0, .int 0, .null, .null])])).bind F) = F (X ++ ruC X.length) := by
  show (cV (ZZ L xs) (d + 1) mX4_init [.ref X.length] (X ++ [dRu])).bind F = _
  rw [kv_Rule d]
  rfl
theorem nw_Ol (d a b : Nat) (X : PH) (F : PH → Option (PH × Option Value)) : ((dR (.ref X.length)).bind fun z => (cV (ZZ L xs) (d + 2) mX2_init [.ref z, .ref a, .ref b] (X ++ [.inr (2, [.null, .null, .null, .null, .null, .null, .int 0, .int 0, .int 0, .int 0, .int 0])])).bind F) = F (X ++ olC a b X.length) := by
  show (cV (ZZ L xs) (d + 2) mX2_init [.ref X.length, .ref a, .ref b] (X ++ [dOl])).bind F = _
  rw [kv_Out d]
  rfl
theorem nw_Hi (d a b : Nat) (X : PH) (F : PH → Option (PH × Option Value)) : ((dR (.ref X.length)).bind fun z => (cV (ZZ L xs) (d + 2) mX1_init [.ref z, .ref a, .ref b] (X ++ [.inr (1, [.null, .null, .null, .null])])).bind F) = F (X ++ hiC a b X.length) := by
  show (cV (ZZ L xs) (d + 2) mX1_init [.ref X.length, .ref a, .ref b] (X ++ [dHi])).bind F = _
  rw [kv_Hist d]
  rfl
def yZ : ST := (zerI, (fun _ _ => 0), nulR, zerI, (fun _ _ => 0), nonA)
def shTa1 : List Sh := [.inr (8, [(2, 2), (0, 0), (0, 0), (0, 0), (0, 0), (0, 0), (0, 0)]), .inl (0, 400)]
/-- tape and scene, behind one cell -/
theorem hp_A (s : Sh) (y : ST) : (HP [s] y ++ taC 1) ++ scC 3 = HP (([s] ++ shTa1) ++ shSc 3) (bl (bl y 1 zerI nulR nonA) 3 (ISc 3) (RSc 3) (ASc 3)) := by
  have h1 : HP [s] y ++ taC 1 = HP ([s] ++ shTa1) (bl y 1 zerI nulR nonA) := by
    refine HP_blk (sh := [s]) (Off_bl y 1 zerI nulR nonA) (blk_cons ?_ (blk_cons ?_ (blk_nil _ _)))
    · rfl
    · exact (cell_bl (n := 1) (Nat.le_add_left 1 _)).symm
  rw [h1]
  exact HP_blk (sh := [s] ++ shTa1) (Off_bl _ 3 _ _ _) (blk_Sc _ 3)
def wmR : PH := ((((((((taC 1 ++ scC 3) ++ ckC 183) ++ [.inr (10, [.ref 1])]) ++ [.inr (5, [.ref 1, .null])]) ++ [nwR 4 6]) ++ ruC 197) ++ [nwR 6 4]) ++ olC 3 183 205) ++ hiC 3 183 249
def wmO : PE := .inr (12, [.ref 1, .ref 194, .ref 195, .ref 196, .int 0, .ref 197, .ref 3, .ref 204, .ref 183, .ref 205, .ref 249])
theorem kv_WM (d : Nat) : cV (ZZ L xs) (d + 5) mX12_init [.ref 0] [dWM] = some (wmO :: wmR) := by
  refine cV_of ?_
  show RS (ZZ L xs) (d + 5) mX12_init 0 [some (.ref 0), none, none, none] [] [dWM] = _
  have l1 : ([dWM] : PH).length = 1 := rfl
  have l2 : ([dWM] ++ taC 1).length = 3 := rfl
  have l3 : (([dWM] ++ taC 1) ++ scC 3).length = 183 := by rw [List.length_append, l2, scC_len]
  have hA : ([dWM] ++ taC 1) ++ scC 3 = HP (([.inr (12, [(3, 0), (3, 0), (3, 0), (3, 0), (0, 0), (3, 0), (3, 0), (3, 0), (3, 0), (3, 0), (3, 0)])] ++ shTa1) ++ shSc 3) _ := hp_A (.inr (12, [(3, 0), (3, 0), (3, 0), (3, 0), (0, 0), (3, 0), (3, 0), (3, 0), (3, 0), (3, 0), (3, 0)])) yZ
  rw [bX12_init_0, nw_Ta (d + 3), l1, nw_Sc (d + 1), l2, nw_Ck d hA, l3]
  have hT : ((taC 1 ++ scC 3) ++ ckC 183).length = 193 := by
    rw [List.length_append, List.length_append, scC_len]
    rfl
  show (fP (dWM :: ((taC 1 ++ scC 3) ++ ckC 183)) (.ref 0) 12 0 (.ref 1)).bind _ = _
  unfold wmR
  generalize (taC 1 ++ scC 3) ++ ckC 183 = T at hT ⊢
  unfold dWM
  have lc : ∀ (o : PE) (tl : PH), (o :: tl).length = tl.length + 1 := fun _ _ => rfl
  rw [w_put (Nat.le_of_ble_eq_true rfl), some_bind', nw_TR (d + 3), List.cons_append, lc, hT, w_put (Nat.le_of_ble_eq_true rfl), some_bind', nw_RR (d + 3), List.cons_append, lc]
  have h1 : (T ++ [(.inr (10, [.ref 1]) : PE)]).length = 194 := by rw [List.length_append, hT]; rfl
  have h2 : ((T ++ [(.inr (10, [.ref 1]) : PE)]) ++ [(.inr (5, [.ref 1, .null]) : PE)]).length = 195 := by rw [List.length_append, h1]; rfl
  have h3 : (((T ++ [(.inr (10, [.ref 1]) : PE)]) ++ [(.inr (5, [.ref 1, .null]) : PE)]) ++ [nwR 4 6]).length = 196 := by rw [List.length_append, h2]; rfl
  have h4 : ((((T ++ [(.inr (10, [.ref 1]) : PE)]) ++ [(.inr (5, [.ref 1, .null]) : PE)]) ++ [nwR 4 6]) ++ ruC 197).length = 203 := by rw [List.length_append, h3]; rfl
  have h5 : (((((T ++ [(.inr (10, [.ref 1]) : PE)]) ++ [(.inr (5, [.ref 1, .null]) : PE)]) ++ [nwR 4 6]) ++ ruC 197) ++ [nwR 6 4]).length = 204 := by rw [List.length_append, h4]; rfl
  have h6 : ((((((T ++ [(.inr (10, [.ref 1]) : PE)]) ++ [(.inr (5, [.ref 1, .null]) : PE)]) ++ [nwR 4 6]) ++ ruC 197) ++ [nwR 6 4]) ++ olC 3 183 205).length = 248 := by rw [List.length_append, h5]; rfl
  rw [h1, w_put (Nat.le_of_ble_eq_true rfl), some_bind', show nwR 4 ((6 : Int32).toNatClampNeg) = nwR 4 6 from rfl, List.cons_append, lc, h2, w_put (Nat.le_of_ble_eq_true rfl), some_bind', w_put (Nat.le_of_ble_eq_true rfl), some_bind', nw_Ru (d + 3), List.cons_append, lc, h3, w_put (Nat.le_of_ble_eq_true rfl), some_bind', w_put (Nat.le_of_ble_eq_true rfl), some_bind', show nwR 6 ((4 : Int32).toNatClampNeg) = nwR 6 4 from rfl, List.cons_append, lc, h4, w_put (Nat.le_of_ble_eq_true rfl), some_bind', w_put (Nat.le_of_ble_eq_true rfl), some_bind', nw_Ol (d + 2), List.cons_append, lc, h5, w_put (Nat.le_of_ble_eq_true rfl), some_bind', nw_Hi (d + 2), List.cons_append, lc, h6, w_put (Nat.le_of_ble_eq_true rfl), some_bind']
  rfl
end S3
