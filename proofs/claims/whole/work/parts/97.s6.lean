/-! the heap that the law begins with, and its world -/
def WMf : Sh := .inr (12, [(2, 1), (2, 194), (2, 195), (2, 196), (0, 0), (3, 0), (2, 3), (2, 204), (2, 183), (2, 205), (2, 249)])
def y0f : ST := sR yZ 0 5 (.ref 197)
def yAA : ST := bl (bl y0f 1 zerI nulR nonA) 3 (ISc 3) (RSc 3) (ASc 3)
def yBB : ST := sA (sR (bl yAA 183 zerI nulR nonA) 183 3 (.ref 188)) 185 (dst 0)
def yCC : ST := bl yBB 186 I1 nulR A1
def shAA : List Sh := ([WMf] ++ shTa1) ++ shSc 3
def shBB : List Sh := shAA ++ shC
def shXX : List Sh := shBB ++ shD
def sh00 : List Sh := shXX ++ MSH
theorem shAA_len : shAA.length = 183 := by
  unfold shAA
  rw [List.length_append, shSc_len]
  rfl
theorem shBB_len : shBB.length = 186 := by
  unfold shBB
  rw [List.length_append, shAA_len]
  rfl
theorem shXX_len : shXX.length = 259 := by
  unfold shXX
  rw [List.length_append, shBB_len]
  rfl
def ckO : PE := .inr (0, [.ref 184, .ref 186, .ref 187, .ref 188, .null, .int 0])
theorem hp_1 : ([wmO] ++ taC 1) ++ scC 3 = HP shAA yAA := hp_A WMf y0f
theorem hp_2 : HP shAA yAA ++ (ckO :: wyC 184) = HP shBB yBB := by
  refine HP_blk (sh := shAA) ?_ ?_
  · rw [shAA_len]
    exact Off_sA (Off_sR (Off_bl yAA 183 zerI nulR nonA) (by decide) _ _) (by decide) _
  · rw [shAA_len]
    exact blk_cons rfl (blk_cons rfl (blk_1 (by rw [cell_int']; rfl)))
theorem hp_3 : HP shBB yBB ++ wmD = HP shXX yCC := by
  refine HP_blk (sh := shBB) ?_ ?_
  · rw [shBB_len]
    exact Off_bl yBB 186 I1 nulR A1
  · rw [shBB_len]
    exact blk_D yBB
theorem hp_4 : HP shXX yCC ++ moC 259 = HP sh00 (pM yCC m00) := by
  refine HP_blk (sh := shXX) ?_ ?_
  · rw [shXX_len]
    intro o ho
    have ho : o < 259 := Nat.lt_of_not_le ho
    refine ⟨if_neg (by omega), rfl, rfl, if_neg (by omega), if_neg (by omega), rfl⟩
  · rw [shXX_len]
    exact blk_Mo yCC
theorem hp_X : wmO :: wmR = HP shXX yCC := by
  rw [← hp_3, ← hp_2, ← hp_1]
  have hck : ckC 183 = (ckO :: wyC 184) ++ ([nwAr 0 5, nwAr 0 12] ++ toC 188) := rfl
  unfold wmR wmD
  rw [hck]
  generalize scC 3 = S
  generalize olC 3 183 205 = O
  generalize hiC 3 183 249 = H
  generalize ruC 197 = R
  generalize toC 188 = Q
  generalize wyC 184 = V
  generalize taC 1 = U
  simp only [List.append_assoc, List.cons_append, List.nil_append]
section S6
variable {L : Nat} {xs : Nat → Int32}
theorem law_0 : RS (ZZ L xs) (100 + 1) mL_law 0 [some (.retAddr 0), none, none, none] [] [] = LW L xs 0 (HP sh00 (pM yCC m00)) := by
  rw [bL_law_0]
  show (cV (ZZ L xs) 100 mX12_init [.ref 0] [dWM]).bind _ = _
  rw [kv_WM 95, some_bind', hp_X]
  show (cV (ZZ L xs) 100 mX13_init [.ref (HP shXX yCC).length] (HP shXX yCC ++ [dMo])).bind _ = _
  rw [kv_Mo 99, some_bind', show (HP shXX yCC).length = 259 by rw [HP_len, shXX_len], hp_4]
  rfl
theorem at_C {i : Nat} {s : Sh} (h : shC[i]? = some s) : sh00[183 + i]? = some s := by
  have e := Ext_at (sh := shAA) i h
  rw [shAA_len] at e
  exact Ext_app shXX MSH _ _ (Ext_app shBB shD _ _ e)
theorem at_D {i : Nat} {s : Sh} (h : shD[i]? = some s) : sh00[186 + i]? = some s := by
  have e := Ext_at (sh := shBB) i h
  rw [shBB_len] at e
  exact Ext_app shXX MSH _ _ e
theorem at_M {i : Nat} {s : Sh} (h : MSH[i]? = some s) : sh00[259 + i]? = some s := by
  have e := Ext_at (sh := shXX) i h
  rw [shXX_len] at e
  exact e
theorem ext_0 : Ext shAA sh00 := fun i s h => Ext_app shXX MSH _ _ (Ext_app shBB shD _ _ (Ext_app shAA shC _ _ h))
theorem sc_0 : isSc sh00 3 ∧ isTo sh00 4 := by
  obtain ⟨h1, h2⟩ := isSc_new ([WMf] ++ shTa1)
  have h1 : isSc shAA 3 := h1
  have h2 : isTo shAA 4 := h2
  exact ⟨isSc_ext ext_0 h1, ⟨ext_0 _ _ h2.1, ext_0 _ _ h2.2.1, ext_0 _ _ h2.2.2.1, ext_0 _ _ h2.2.2.2.1, ext_0 _ _ h2.2.2.2.2.1, ext_0 _ _ h2.2.2.2.2.2⟩⟩
theorem ru_0 : isRu sh00 197 := ⟨at_D (i := 11) rfl, at_D (i := 12) rfl, at_D (i := 13) rfl, at_D (i := 14) rfl, at_D (i := 15) rfl, at_D (i := 16) rfl, at_D (i := 17) rfl⟩
theorem xs_0 : isXS sh00 := by
  refine ⟨⟨ext_0 0 _ rfl, ⟨ext_0 1 _ rfl, ext_0 2 _ rfl⟩, sc_0.1, at_C (i := 0) rfl, at_D (i := 0) rfl, at_D (i := 1) rfl, at_C (i := 1) rfl, at_C (i := 2) rfl⟩, ⟨at_D (i := 8) rfl, at_D (i := 9) rfl, at_D (i := 10) rfl, at_D (i := 18) rfl⟩, ⟨at_D (i := 19) rfl, ⟨at_D (i := 20) rfl, at_D (i := 21) rfl, at_D (i := 22) rfl, at_D (i := 23) rfl, at_D (i := 24) rfl, at_D (i := 25) rfl, at_D (i := 26) rfl, at_D (i := 27) rfl⟩, at_D (i := 28) rfl, at_D (i := 29) rfl, at_D (i := 30) rfl, ⟨at_D (i := 31) rfl, at_D (i := 32) rfl, at_D (i := 33) rfl, at_D (i := 34) rfl, at_D (i := 35) rfl, at_D (i := 36) rfl, at_D (i := 37) rfl, at_D (i := 38) rfl⟩, ⟨at_D (i := 39) rfl, at_D (i := 40) rfl, at_D (i := 41) rfl, at_D (i := 42) rfl, at_D (i := 43) rfl, at_D (i := 44) rfl, at_D (i := 45) rfl, at_D (i := 46) rfl⟩, ⟨at_D (i := 47) rfl, at_D (i := 48) rfl, at_D (i := 49) rfl, at_D (i := 50) rfl, at_D (i := 51) rfl, at_D (i := 52) rfl, at_D (i := 53) rfl, at_D (i := 54) rfl⟩, ⟨at_D (i := 55) rfl, at_D (i := 56) rfl, at_D (i := 57) rfl, at_D (i := 58) rfl, at_D (i := 59) rfl, at_D (i := 60) rfl, at_D (i := 61) rfl, at_D (i := 62) rfl⟩⟩, ⟨at_D (i := 63) rfl, ⟨at_D (i := 64) rfl, at_D (i := 65) rfl, at_D (i := 66) rfl, at_D (i := 67) rfl, at_D (i := 68) rfl, at_D (i := 69) rfl, at_D (i := 70) rfl, at_D (i := 71) rfl⟩, at_D (i := 72) rfl⟩, fun i s h => at_M h⟩
end S6
