/-! Arrays.fill, neighbours, measure, follow, far -/
theorem sA_at (x : ST) (a : Nat) (g : Nat → Int32) : (sA x a g).2.2.2.1 a = g := by unfold sA up1; simp
theorem sA_ne (x : ST) {a b : Nat} (g : Nat → Int32) (h : b ≠ a) : (sA x a g).2.2.2.1 b = x.2.2.2.1 b := by unfold sA up1; simp [h]
theorem sA_sA (x : ST) (a : Nat) (f g : Nat → Int32) : sA (sA x a f) a g = sA x a g := by
  unfold sA up1
  simp only [Prod.mk.injEq, true_and, and_true]
  funext i
  by_cases h : i = a <;> simp [h]
theorem sA_self (x : ST) (a : Nat) : sA x a (x.2.2.2.1 a) = x := by
  unfold sA up1
  have : (fun i => if i = a then x.2.2.2.1 a else x.2.2.2.1 i) = x.2.2.2.1 := by
    funext i
    by_cases h : i = a
    · simp [h]
    · simp [h]
  rw [this]
section WAYS
variable {L : Nat} {xs : Nat → Int32} {sh : List Sh}
def flF (v : Int32) (n : Nat) (f : Nat → Int32) : Nat → Int32 := fun j => if j < n then v else f j
theorem flF_up (v : Int32) (i : Nat) (f : Nat → Int32) : upd (flF v i f) i v = flF v (i + 1) f := by
  funext j
  unfold upd flF
  by_cases h : j = i
  · subst h
    rw [if_pos rfl, if_pos (by omega)]
  · rw [if_neg h]
    by_cases h2 : j < i
    · rw [if_pos h2, if_pos (by omega)]
    · rw [if_neg h2, if_neg (by omega)]
theorem fill_loop (d : Nat) {a n : Nat} (v : Int32) (ha : sh[a]? = some (.inl (0, n))) (hn : n < 2 ^ 31) (x : ST) : ∀ (f i : Nat), f + i = n → RS (ZZ L xs) (d + 1) mJ7_fill_53178 5 [some (.ref a), some (.int v), some (.int (nI i)), some (.int (Int32.ofNat n))] [] (HP sh (sA x a (flF v i (x.2.2.2.1 a)))) = some (HP sh (sA x a (flF v n (x.2.2.2.1 a))), none) := by
  intro f
  induction f with
  | zero =>
    intro i hi
    have : i = n := by omega
    subst this
    rw [bJ7_fill_53178_5 (hv0 := rfl), if_pos (show Int32.ofNat i ≤ nI i from nI_le (Nat.le_refl _) hn)]
  | succ f ih =>
    intro i hi
    rw [bJ7_fill_53178_5 (hv0 := rfl), if_neg (show ¬ Int32.ofNat n ≤ nI i from nI_ge (by omega) hn), wA ha (by omega) hn, some_bind', sA_at, sA_sA, flF_up, nI_1]
    exact ih (i + 1) (by omega)
theorem v_fill (d : Nat) {a n : Nat} (v : Int32) (ha : sh[a]? = some (.inl (0, n))) (hn : n < 2 ^ 31) (x : ST) : cV (ZZ L xs) (d + 1) mJ7_fill_53178 [.ref a, .int v] (HP sh x) = some (HP sh (sA x a (flF v n (x.2.2.2.1 a)))) := by
  have h : CL (ZZ L xs) (d + 1) mJ7_fill_53178 [.ref a, .int v] (HP sh x) = some (HP sh (sA x a (flF v n (x.2.2.2.1 a))), none) := by
    show RS (ZZ L xs) (d + 1) mJ7_fill_53178 0 [some (.ref a), some (.int v), none, none] [] (HP sh x) = _
    rw [bJ7_fill_53178_0 (hv0 := rfl), lenA (by decide) ha, some_bind']
    have := fill_loop (L := L) (xs := xs) d v ha hn x n 0 rfl
    have e0 : flF v 0 (x.2.2.2.1 a) = x.2.2.2.1 a := by
      funext j
      unfold flF
      rw [if_neg (by omega)]
    rw [e0, sA_self] at this
    exact this
  unfold cV
  rw [h]
  rfl
def nb (l : Int64) (p : Int32) : Int32 := (lUshr l (p * 8)).toInt32 &&& 255
theorem i_nb (d : Nat) (l : Int64) (p : Int32) (ph : PH) : cI (ZZ L xs) (d + 1) mX11_neighbours [.long l, .int p] ph = some (ph, nb l p) := by
  have h : CL (ZZ L xs) (d + 1) mX11_neighbours [.long l, .int p] ph = some (ph, some (.int (nb l p))) := by
    show RS (ZZ L xs) (d + 1) mX11_neighbours 0 [some (.long l), none, some (.int p)] [] ph = _
    rw [bX11_neighbours_0]
    rfl
  unfold cI
  rw [h]
  rfl
/-- the places of an edge, one by one -/
def msIn (l : Int64) (e : Int32) (fr : Nat) (dd : Int32) : Nat → Nat → (Nat → Int32) × Int32 → (Nat → Int32) × Int32
  | 0, _, s => s
  | f + 1, p, s => msIn l e fr dd f (p + 1) (if iShr e (nI p) &&& 1 = 1 then (upd s.1 (fr * 8 + p) dd, s.2 ||| nb l (nI p)) else s)
def msD (l : Int64) (fr : Nat) : Nat → Nat → Int32 → Int32 → (Nat → Int32) → (Nat → Int32)
  | 0, _, _, _, A => A
  | f + 1, dd, seen, edge, A => if edge = 0 then A else msD l fr f (dd + 1) (seen ||| edge) ((msIn l edge fr (nI dd) 8 0 (A, 0)).2 &&& ((seen ||| edge) ^^^ (-1))) (msIn l edge fr (nI dd) 8 0 (A, 0)).1
def msF (l : Int64) : Nat → Nat → (Nat → Int32) → (Nat → Int32)
  | 0, _, A => A
  | f + 1, fr, A => msF l f (fr + 1) (msD l fr 8 0 0 (iShl 1 (nI fr)) A)
def measS (l : Int64) (A : Nat → Int32) : Nat → Int32 := msF l 8 0 (flF 99 64 A)
def isWays (sh : List Sh) (o : Nat) : Prop := sh[o]? = some (.inr (11, [(1, 0), (2, o + 1)])) ∧ sh[o + 1]? = some (.inl (0, 64))
variable {o : Nat}
theorem ms_in (d : Nat) (hW : isWays sh o) (x : ST) (l : Int64) (fr : Nat) (hfr : fr < 8) (se e : Int32) (dd : Nat) : ∀ (f p : Nat), f + p = 8 → ∀ (A : Nat → Int32) (nx : Int32), RS (ZZ L xs) (d + 2) mX11_measure 51 [some (.ref o), some (.long l), none, some (.int (nI fr)), some (.int se), some (.int e), some (.int (nI dd)), some (.int nx), some (.int (nI p))] [] (HP sh (sA x (o + 1) A)) =
    RS (ZZ L xs) (d + 2) mX11_measure 51 [some (.ref o), some (.long l), none, some (.int (nI fr)), some (.int se), some (.int e), some (.int (nI dd)), some (.int (msIn l e fr (nI dd) f p (A, nx)).2), some (.int (nI 8))] [] (HP sh (sA x (o + 1) (msIn l e fr (nI dd) f p (A, nx)).1)) := by
  intro f
  induction f with
  | zero =>
    intro p hp A nx
    have : p = 8 := by omega
    subst this
    rfl
  | succ f ih =>
    intro p hp A nx
    have hp8 : p < 8 := by omega
    rw [bX11_measure_51, if_neg (show ¬ (8 : Int32) ≤ nI p from nI_ge (b := 8) hp8 (by decide))]
    by_cases hb : iShr e (nI p) &&& 1 = 1
    · rw [if_neg (fun q => q hb), rF hW.1 rfl, some_bind']
      have hi : nI fr * 8 + nI p = nI (fr * 8 + p) := by
        rw [show (8 : Int32) = nI 8 from rfl, pk_mul, nI_add]
      rw [hi, wA hW.2 (by omega) (by decide), some_bind', sA_at, sA_sA, i_nb, some_bind']
      show RS (ZZ L xs) (d + 2) mX11_measure 94 _ _ _ = _
      rw [bX11_measure_94, nI_1, ih (p + 1) (by omega)]
      show _ = RS (ZZ L xs) (d + 2) mX11_measure 51 [some (.ref o), some (.long l), none, some (.int (nI fr)), some (.int se), some (.int e), some (.int (nI dd)), some (.int (msIn l e fr (nI dd) f (p + 1) (if iShr e (nI p) &&& 1 = 1 then (upd A (fr * 8 + p) (nI dd), nx ||| nb l (nI p)) else (A, nx))).2), some (.int (nI 8))] [] (HP sh (sA x (o + 1) (msIn l e fr (nI dd) f (p + 1) (if iShr e (nI p) &&& 1 = 1 then (upd A (fr * 8 + p) (nI dd), nx ||| nb l (nI p)) else (A, nx))).1))
      rw [if_pos hb]
    · rw [if_pos hb, bX11_measure_94, nI_1, ih (p + 1) (by omega)]
      show _ = RS (ZZ L xs) (d + 2) mX11_measure 51 [some (.ref o), some (.long l), none, some (.int (nI fr)), some (.int se), some (.int e), some (.int (nI dd)), some (.int (msIn l e fr (nI dd) f (p + 1) (if iShr e (nI p) &&& 1 = 1 then (upd A (fr * 8 + p) (nI dd), nx ||| nb l (nI p)) else (A, nx))).2), some (.int (nI 8))] [] (HP sh (sA x (o + 1) (msIn l e fr (nI dd) f (p + 1) (if iShr e (nI p) &&& 1 = 1 then (upd A (fr * 8 + p) (nI dd), nx ||| nb l (nI p)) else (A, nx))).1))
      rw [if_neg hb]
theorem ms_d (d : Nat) (hW : isWays sh o) (x : ST) (l : Int64) (fr : Nat) (hfr : fr < 8) : ∀ (f dd : Nat), f + dd = 8 → ∀ (se e : Int32) (A : Nat → Int32) (u7 u8 : Option Value), RS (ZZ L xs) (d + 2) mX11_measure 33 [some (.ref o), some (.long l), none, some (.int (nI fr)), some (.int se), some (.int e), some (.int (nI dd)), u7, u8] [] (HP sh (sA x (o + 1) A)) =
    RS (ZZ L xs) (d + 2) mX11_measure 16 [some (.ref o), some (.long l), none, some (.int (nI (fr + 1))), none, none, none, none, none] [] (HP sh (sA x (o + 1) (msD l fr f dd se e A))) := by
  intro f
  induction f with
  | zero =>
    intro dd hd se e A u7 u8
    have : dd = 8 := by omega
    subst this
    rw [bX11_measure_33, if_pos (show (8 : Int32) ≤ nI 8 from by decide), bX11_measure_122, nI_1]
    rfl
  | succ f ih =>
    intro dd hd se e A u7 u8
    rw [bX11_measure_33, if_neg (show ¬ (8 : Int32) ≤ nI dd from nI_ge (b := 8) (by omega) (by decide))]
    by_cases he : e = 0
    · rw [if_pos he, bX11_measure_122, nI_1]
      show _ = RS (ZZ L xs) (d + 2) mX11_measure 16 _ _ (HP sh (sA x (o + 1) (if e = 0 then A else _)))
      rw [if_pos he]
    · rw [if_neg he]
      have h1 := ms_in (L := L) (xs := xs) d hW x l fr hfr se e dd 8 0 rfl A 0
      refine Eq.trans h1 ?_
      rw [bX11_measure_51, if_pos (show (8 : Int32) ≤ nI 8 from by decide), nI_1, ih (dd + 1) (by omega)]
      show _ = RS (ZZ L xs) (d + 2) mX11_measure 16 _ _ (HP sh (sA x (o + 1) (if e = 0 then A else _)))
      rw [if_neg he]
theorem ms_f (d : Nat) (hW : isWays sh o) (x : ST) (l : Int64) : ∀ (f fr : Nat), f + fr = 8 → ∀ (A : Nat → Int32) (u4 u5 u6 u7 u8 : Option Value), RS (ZZ L xs) (d + 2) mX11_measure 16 [some (.ref o), some (.long l), none, some (.int (nI fr)), u4, u5, u6, u7, u8] [] (HP sh (sA x (o + 1) A)) = some (HP sh (sA x (o + 1) (msF l f fr A)), none) := by
  intro f
  induction f with
  | zero =>
    intro fr hf A u4 u5 u6 u7 u8
    have : fr = 8 := by omega
    subst this
    rw [bX11_measure_16, if_pos (show (8 : Int32) ≤ nI 8 from by decide)]
    rfl
  | succ f ih =>
    intro fr hf A u4 u5 u6 u7 u8
    rw [bX11_measure_16, if_neg (show ¬ (8 : Int32) ≤ nI fr from nI_ge (b := 8) (by omega) (by decide))]
    have h1 := ms_d (L := L) (xs := xs) d hW x l fr (by omega) 8 0 rfl 0 (iShl 1 (nI fr)) A none none
    refine Eq.trans h1 ?_
    exact ih (fr + 1) (by omega) _ _ _ _ _ _
theorem v_measure (d : Nat) (hW : isWays sh o) (x : ST) (l : Int64) : cV (ZZ L xs) (d + 2) mX11_measure [.ref o, .long l] (HP sh x) = some (HP sh (sA (sJL x o 0 l) (o + 1) (measS l (x.2.2.2.1 (o + 1))))) := by
  have h : CL (ZZ L xs) (d + 2) mX11_measure [.ref o, .long l] (HP sh x) = some (HP sh (sA (sJL x o 0 l) (o + 1) (measS l (x.2.2.2.1 (o + 1)))), none) := by
    show RS (ZZ L xs) (d + 2) mX11_measure 0 [some (.ref o), some (.long l), none, none, none, none, none, none, none] [] (HP sh x) = _
    rw [bX11_measure_0, wJ' hW.1 rfl, some_bind', rF hW.1 rfl, some_bind', v_fill d 99 hW.2 (by decide), some_bind']
    exact ms_f (L := L) (xs := xs) d hW (sJL x o 0 l) l 8 0 rfl _ _ _ _ _ _
  unfold cV
  rw [h]
  rfl
end WAYS
