/-! the heap that the law begins with -/
def m00 : MM := ((fun k => if k = 37 then 12 else 0), (fun a => if a = 0 then scA else fun _ => 0), fun _ _ => 0)
theorem mo_c0 {y : ST} {a n : Nat} (h : y.2.2.2.1 a = fun _ => 0) : nwAr 0 n = cell y a (.inl (0, n)) := by
  rw [cell_int', h, trn_0]
  rfl
theorem mo_c2 {y : ST} {a n : Nat} (h : y.2.2.2.1 a = fun _ => 0) : nwAr 2 n = cell y a (.inl (2, n)) := by
  show _ = (Sum.inl (2, n, Sum.inl (trn 0 n (y.2.2.2.1 a))) : PE)
  rw [h, trn_0]
  rfl
theorem mo_c3 {y : ST} {a n : Nat} (h : y.2.2.2.1 a = fun _ => 0) : nwAr 3 n = cell y a (.inl (3, n)) := by
  show _ = (Sum.inl (3, n, Sum.inl (trn 0 n (y.2.2.2.1 a))) : PE)
  rw [h, trn_0]
  rfl
theorem trn_0l (n : Nat) : trn (0 : Int64) n (fun _ => 0) = fun _ => 0 := by
  funext k
  unfold trn
  split <;> rfl
theorem mo_c1 {y : ST} {a n : Nat} (h : y.2.2.2.2.1 a = fun _ => 0) : nwAr 1 n = cell y a (.inl (1, n)) := by
  show _ = (Sum.inl (1, n, Sum.inr (Sum.inl (trn 0 n (y.2.2.2.2.1 a)))) : PE)
  rw [h, trn_0l]
  rfl
set_option maxRecDepth 20000 in
theorem mo_obj (y : ST) : (.inr (13, [.int 0, .ref (259 + 1), .ref (259 + 2), .ref (259 + 3), .ref (259 + 4), .ref (259 + 5), .ref (259 + 6), .ref (259 + 7), .ref (259 + 8), .ref (259 + 9), .ref (259 + 10), .ref (259 + 11), .ref (259 + 12), .ref (259 + 13), .ref (259 + 14), .ref (259 + 15), .ref (259 + 16), .ref (259 + 17), .ref (259 + 18), .ref (259 + 19), .ref (259 + 20), .ref (259 + 21), .ref (259 + 22), .ref (259 + 23), .ref (259 + 24), .ref (259 + 25), .ref (259 + 26), .ref (259 + 27), .int 0, .int 0, .int 0, .int 0, .int 0, .int 0, .int 0, .int 0, .int 0, .int 12, .ref (259 + 28), .ref (259 + 29), .ref (259 + 30), .ref (259 + 31), .ref (259 + 32), .ref (259 + 33), .ref (259 + 34), .ref (259 + 35), .ref (259 + 36), .ref (259 + 37), .ref (259 + 38), .ref (259 + 39), .ref (259 + 40), .int 0, .int 0, .int 0, .ref (259 + 41), .ref (259 + 42), .ref (259 + 43), .ref (259 + 44), .ref (259 + 45), .ref (259 + 46), .ref (259 + 47), .int 0, .int 0]) : PE) = cell (pM y m00) 259 (.inr (13, [(0, 0), (2, 260), (2, 261), (2, 262), (2, 263), (2, 264), (2, 265), (2, 266), (2, 267), (2, 268), (2, 269), (2, 270), (2, 271), (2, 272), (2, 273), (2, 274), (2, 275), (2, 276), (2, 277), (2, 278), (2, 279), (2, 280), (2, 281), (2, 282), (2, 283), (2, 284), (2, 285), (2, 286), (0, 0), (0, 0), (0, 0), (0, 0), (0, 0), (0, 0), (0, 0), (0, 0), (0, 0), (0, 0), (2, 287), (2, 288), (2, 289), (2, 290), (2, 291), (2, 292), (2, 293), (2, 294), (2, 295), (2, 296), (2, 297), (2, 298), (2, 299), (0, 0), (0, 0), (0, 0), (2, 300), (2, 301), (2, 302), (2, 303), (2, 304), (2, 305), (2, 306), (0, 0), (0, 0)])) := by
  show _ = (Sum.inr (13, List.mapIdx (fun k q => fV (pM y m00) 259 k q) [(0, 0), (2, 260), (2, 261), (2, 262), (2, 263), (2, 264), (2, 265), (2, 266), (2, 267), (2, 268), (2, 269), (2, 270), (2, 271), (2, 272), (2, 273), (2, 274), (2, 275), (2, 276), (2, 277), (2, 278), (2, 279), (2, 280), (2, 281), (2, 282), (2, 283), (2, 284), (2, 285), (2, 286), (0, 0), (0, 0), (0, 0), (0, 0), (0, 0), (0, 0), (0, 0), (0, 0), (0, 0), (0, 0), (2, 287), (2, 288), (2, 289), (2, 290), (2, 291), (2, 292), (2, 293), (2, 294), (2, 295), (2, 296), (2, 297), (2, 298), (2, 299), (0, 0), (0, 0), (0, 0), (2, 300), (2, 301), (2, 302), (2, 303), (2, 304), (2, 305), (2, 306), (0, 0), (0, 0)]) : PE)
  simp only [List.mapIdx_cons, List.mapIdx_nil]
  rfl
set_option maxRecDepth 20000 in
theorem blk_Mo (y : ST) : blkC (pM y m00) 259 (moC 259) MSH := by
  unfold moC MSH
  refine blk_cons ?_ (blk_cons ?_ (blk_cons ?_ (blk_cons ?_ (blk_cons ?_ (blk_cons ?_ (blk_cons ?_ (blk_cons ?_ (blk_cons ?_ (blk_cons ?_ (blk_cons ?_ (blk_cons ?_ (blk_cons ?_ (blk_cons ?_ (blk_cons ?_ (blk_cons ?_ (blk_cons ?_ (blk_cons ?_ (blk_cons ?_ (blk_cons ?_ (blk_cons ?_ (blk_cons ?_ (blk_cons ?_ (blk_cons ?_ (blk_cons ?_ (blk_cons ?_ (blk_cons ?_ (blk_cons ?_ (blk_cons ?_ (blk_cons ?_ (blk_cons ?_ (blk_cons ?_ (blk_cons ?_ (blk_cons ?_ (blk_cons ?_ (blk_cons ?_ (blk_cons ?_ (blk_cons ?_ (blk_cons ?_ (blk_cons ?_ (blk_cons ?_ (blk_cons ?_ (blk_cons ?_ (blk_cons ?_ (blk_cons ?_ (blk_cons ?_ (blk_cons ?_ (blk_cons ?_ (blk_nil _ _))))))))))))))))))))))))))))))))))))))))))))))))
  · exact mo_obj y
  · rfl
  · exact mo_c0 rfl
  · exact mo_c0 rfl
  · exact mo_c0 rfl
  · exact mo_c0 rfl
  · exact mo_c0 rfl
  · exact mo_c0 rfl
  · exact mo_c0 rfl
  · exact mo_c0 rfl
  · exact mo_c0 rfl
  · exact mo_c0 rfl
  · exact mo_c0 rfl
  · exact mo_c0 rfl
  · exact mo_c0 rfl
  · exact mo_c0 rfl
  · exact mo_c0 rfl
  · exact mo_c0 rfl
  · exact mo_c0 rfl
  · exact mo_c0 rfl
  · exact mo_c0 rfl
  · exact mo_c0 rfl
  · exact mo_c0 rfl
  · exact mo_c0 rfl
  · exact mo_c0 rfl
  · exact mo_c0 rfl
  · exact mo_c0 rfl
  · exact mo_c0 rfl
  · exact mo_c2 rfl
  · exact mo_c0 rfl
  · exact mo_c0 rfl
  · exact mo_c0 rfl
  · exact mo_c0 rfl
  · exact mo_c0 rfl
  · exact mo_c0 rfl
  · exact mo_c0 rfl
  · exact mo_c1 rfl
  · exact mo_c1 rfl
  · exact mo_c0 rfl
  · exact mo_c0 rfl
  · exact mo_c0 rfl
  · exact mo_c0 rfl
  · exact mo_c0 rfl
  · exact mo_c0 rfl
  · exact mo_c0 rfl
  · exact mo_c0 rfl
  · exact mo_c0 rfl
  · exact mo_c3 rfl
theorem trn_n (n : Nat) : trn (none : Option Nat) n (fun _ => none) = fun _ => none := by
  funext k
  unfold trn
  split <;> rfl
theorem mo_cr {y : ST} {a n t : Nat} (ht : t = 4 ∨ t = 5 ∨ t = 6) (h : y.2.2.2.2.2 a = fun _ => none) : nwR t n = cell y a (.inl (t, n)) := by
  rw [cell_ref (by omega), h, trn_n]
  rfl
def I1 : Nat → Nat → Int32 := fun o k => if k = 1 ∧ 206 ≤ o then -1 else 0
def A1 : Nat → Nat → Option Nat := fun o j => if o = 214 ∧ j < 4 then some (217 + 8 * j) else none
theorem I1_s {b : Nat} (h : 206 ≤ b) : I1 b 0 = 0 ∧ I1 b 1 = -1 ∧ I1 b 2 = 0 := by
  unfold I1
  exact ⟨if_neg (by omega), if_pos ⟨rfl, h⟩, if_neg (by omega)⟩
def shH : List Sh := .inr (1, [(2, 3), (2, 183), (2, 250), (2, 258)]) :: (shSt 250 ++ [.inl (0, 35)])
def shO : List Sh := (.inr (2, [(2, 3), (2, 183), (2, 206), (2, 214), (2, 215), (2, 216), (0, 0), (0, 0), (0, 0), (0, 0), (0, 0)]) :: (shSt 206 ++ [.inl (5, 4), .inl (0, 64), .inl (0, 64)])) ++ (((([] ++ shSt 217) ++ shSt 225) ++ shSt 233) ++ shSt 241)
def shC : List Sh := [.inr (0, [(2, 184), (2, 186), (2, 187), (3, 0), (3, 0), (0, 0)]), .inr (11, [(1, 0), (2, 185)]), .inl (0, 64)]
def shD : List Sh := [.inl (0, 5), .inl (0, 12)] ++ (shTo 188 ++ ([.inr (10, [(2, 1)])] ++ ([.inr (5, [(2, 1), (3, 0)])] ++ ([.inl (4, 6)] ++ (shRu 197 ++ ([.inl (6, 4)] ++ (shO ++ shH)))))))
def wmD : PH := [nwAr 0 5, nwAr 0 12] ++ (toC 188 ++ ([.inr (10, [.ref 1])] ++ ([.inr (5, [.ref 1, .null])] ++ ([nwR 4 6] ++ (ruC 197 ++ ([nwR 6 4] ++ (olC 3 183 205 ++ hiC 3 183 249)))))))
theorem A1_n {o : Nat} (h : o ≠ 214) : A1 o = fun _ => none := by
  funext j
  exact if_neg (fun z => h z.1)
theorem blk_H (y : ST) : blkC (bl y 186 I1 nulR A1) 249 (hiC 3 183 249) shH := by
  refine blk_cons rfl (blk_app (l1 := stC 250) ?_ (blk_1 ?_))
  · obtain ⟨h0, h1, h2⟩ := I1_s (b := 250) (by decide)
    exact blk_St (b := 250) (by decide) h0 h1 h2
  · exact (cell_bl (by decide)).symm
theorem blk_O (y : ST) : blkC (bl y 186 I1 nulR A1) 205 (olC 3 183 205) shO := by
  have st : ∀ b, 206 ≤ b → blkC (bl y 186 I1 nulR A1) b (stC b) (shSt b) := fun b hb => by
    obtain ⟨h0, h1, h2⟩ := I1_s hb
    exact blk_St (by omega) h0 h1 h2
  refine blk_app (l1 := olP 3 183 205 4) (blk_cons ?_ (blk_app (l1 := stC 206) (st 206 (by decide)) (blk_cons ?_ (blk_cons ?_ (blk_1 ?_))))) ?_
  · rfl
  · show tuA 205 4 = cell (bl y 186 I1 nulR A1) 214 (.inl (5, 4))
    rw [cell_ref (by omega), bl_AR (by decide)]
    unfold tuA
    congr
    funext j
    unfold trn A1
    by_cases hj : j < 4
    · rw [if_pos hj, if_pos hj]
      exact (if_pos ⟨rfl, hj⟩).symm
    · rw [if_neg hj, if_neg hj]
  · exact (cell_bl (by decide)).symm
  · exact (cell_bl (by decide)).symm
  · exact blk_app (l1 := ((([] ++ stC 217) ++ stC 225) ++ stC 233)) (blk_app (l1 := (([] ++ stC 217) ++ stC 225)) (blk_app (l1 := ([] ++ stC 217)) (blk_app (l1 := []) (blk_nil _ _) (st 217 (by decide))) (st 225 (by decide))) (st 233 (by decide))) (st 241 (by decide))
theorem blk_D (y : ST) : blkC (bl y 186 I1 nulR A1) 186 wmD shD := by
  refine blk_app (l1 := [nwAr 0 5, nwAr 0 12]) (blk_cons ?_ (blk_1 ?_)) (blk_app (l1 := toC 188) (blk_To (b := 188) (by decide) (fun k => if_neg (by omega))) (blk_app (l1 := [.inr (10, [.ref 1])]) (blk_1 rfl) (blk_app (l1 := [.inr (5, [.ref 1, .null])]) (blk_1 rfl) (blk_app (l1 := [nwR 4 6]) (blk_1 ?_) (blk_app (l1 := ruC 197) (blk_Ru (b := 197) (by decide) (fun k => if_neg (by omega))) (blk_app (l1 := [nwR 6 4]) (blk_1 ?_) (blk_app (l1 := olC 3 183 205) (blk_O y) (blk_H y))))))))
  · exact (cell_bl (by decide)).symm
  · exact (cell_bl (by decide)).symm
  · exact mo_cr (Or.inl rfl) (by rw [bl_AR (by decide)]; exact A1_n (by decide))
  · exact mo_cr (Or.inr (Or.inr rfl)) (by rw [bl_AR (by decide)]; exact A1_n (by decide))
