/-! a town told: what it must be, and the class's reader -/
abbrev TB : Type := TW × Nat × Nat × Nat
def tF (w : TW) (k : Nat) (v : Int32) : TW := (upd w.1 k v, w.2)
def tA (w : TW) (j i : Nat) (v : Int32) : TW := (w.1, w.2.1, fun a => if a = j then upd (w.2.2 j) i v else w.2.2 a)
def tJ (w : TW) (l : Int64) : TW := (w.1, l, w.2.2)
def wTown : List Nat := [116, 111, 119, 110]
def wStreet : List Nat := [115, 116, 114, 101, 101, 116]
def wPerson : List Nat := [112, 101, 114, 115, 111, 110]
def wStranger : List Nat := [115, 116, 114, 97, 110, 103, 101, 114]
def kW (T : TP) (s : Nat) : Nat := if wdIs T s wTown = true then 0 else if wdIs T s wStreet = true then 1 else if wdIs T s wPerson = true then 2 else if wdIs T s wStranger = true then 3 else 4
def tSize (T : TP) (s : Nat) (b : TB) : Nat ⊕ (Nat × TB) :=
  if tkE T s 2 8 (-1) = 0 then
    if tkE T (nx' T s) 1 30 (-1) = 0 then .inr (nx' T (nx' T s), tF (tF b.1 0 (nI (nv T s))) 1 (nI (nv T (nx' T s))), nv T s, b.2.2)
    else .inl (tkE T (nx' T s) 1 30 (-1))
  else .inl (tkE T s 2 8 (-1))
def tStreet (T : TP) (s : Nat) (b : TB) : Nat ⊕ (Nat × TB) :=
  if tkE T s 0 (b.2.1 - 1) (-1) = 0 then
    if tkE T (nx' T s) 0 (b.2.1 - 1) (nI (nv T s)) = 0 then .inr (nx' T (nx' T s), tJ b.1 (b.1.2.1 ||| stS (nv T s) (nv T (nx' T s))), b.2)
    else .inl (tkE T (nx' T s) 0 (b.2.1 - 1) (nI (nv T s)))
  else .inl (tkE T s 0 (b.2.1 - 1) (-1))
def tPerson (T : TP) (s : Nat) (b : TB) : Nat ⊕ (Nat × TB) :=
  if tkE T s 0 (b.2.1 - 1) (-1) = 0 then
    if tkE T (nx' T s) 0 9 (-1) = 0 then
      if tkE T (nx' T (nx' T s)) 0 1 (-1) = 0 then .inr (nx' T (nx' T (nx' T s)), tF (tF (tA (tA b.1 0 b.2.2.1 (nI (nv T s))) 1 b.2.2.1 (nI (nv T (nx' T s)))) 5 (b.1.1 5 ||| iShl (nI (nv T (nx' T (nx' T s)))) (nI b.2.2.1))) 2 (nI (b.2.2.1 + 1)), b.2.1, b.2.2.1 + 1, b.2.2.2)
      else .inl (tkE T (nx' T (nx' T s)) 0 1 (-1))
    else .inl (tkE T (nx' T s) 0 9 (-1))
  else .inl (tkE T s 0 (b.2.1 - 1) (-1))
def tStranger (T : TP) (s : Nat) (b : TB) : Nat ⊕ (Nat × TB) :=
  if tkE T s 0 (b.2.1 - 1) (-1) = 0 then
    if tkE T (nx' T s) 0 (b.2.1 - 1) (nI (nv T s)) = 0 then
      if tkE T (nx' T (nx' T s)) 1 20 (-1) = 0 then .inr (nx' T (nx' T (nx' T s)), tF (tA (tA (tA b.1 2 b.2.2.2 (nI (nv T s))) 3 b.2.2.2 (nI (nv T (nx' T s)))) 4 b.2.2.2 (nI (nv T (nx' T (nx' T s))))) 3 (nI (b.2.2.2 + 1)), b.2.1, b.2.2.1, b.2.2.2 + 1)
      else .inl (tkE T (nx' T (nx' T s)) 1 20 (-1))
    else .inl (tkE T (nx' T s) 0 (b.2.1 - 1) (nI (nv T s)))
  else .inl (tkE T s 0 (b.2.1 - 1) (-1))
def tFull (T : TP) (n s : Nat) (b : TB) : Prop := n = 40 ∨ ¬ (n = 0 ↔ kW T s = 0) ∨ kW T s = 2 ∧ b.2.2.1 = 6 ∨ kW T s = 3 ∧ b.2.2.2 = 5
noncomputable def tCl (T : TP) (n s : Nat) (b : TB) : Nat ⊕ (Nat × TB) :=
  if kW T s = 4 then .inl (ft s 0) else
  if @Decidable.decide (tFull T n s b) (Classical.propDecidable _) = true then .inl (ft s 4) else
  if kW T s = 0 then tSize T (nx' T s) b else if kW T s = 1 then tStreet T (nx' T s) b else if kW T s = 2 then tPerson T (nx' T s) b else tStranger T (nx' T s) b
noncomputable def tRd (T : TP) : Nat → Nat → Nat → TB → Nat ⊕ TB
  | 0, _, s, _ => .inl (ft s 4)
  | f + 1, n, s, b => match tCl T n s b with
    | .inl e => .inl e
    | .inr (s', b') => if T.1 ≤ s' then .inr b' else if Bt T s' = 59 then tRd T f (n + 1) (nx' T s') b' else .inl (ft s' 0)
def tb0 : TB := (((fun _ => 0), 0, fun _ _ => 0), 0, 0, 0)
/-- numbers of the town as rows have them -/
def TBk (b : TB) : Prop := b.1.1 0 = nI b.2.1 ∧ b.1.1 2 = nI b.2.2.1 ∧ b.1.1 3 = nI b.2.2.2 ∧ b.2.1 ≤ 8 ∧ b.2.2.1 ≤ 6 ∧ b.2.2.2 ≤ 5
theorem tkE_lt {T : TP} {s lo M : Nat} {u : Int32} (hV : VTa T) (hs : s ≤ T.1) : tkE T s lo M u < 10000 := by
  have := hV.1
  unfold tkE ft
  split
  · split <;> omega
  · omega
theorem tkE_in {T : TP} {s lo M : Nat} {u : Int32} (h : tkE T s lo M u = 0) : kd T s = 2 ∧ rn isD T s - s ≤ 5 ∧ lo ≤ nv T s ∧ nv T s ≤ M ∧ ¬ nI (nv T s) = u := by
  unfold tkE ft at h
  by_cases h1 : kd T s = 2
  · rw [if_pos h1] at h
    by_cases h2 : rn isD T s - s ≤ 5 ∧ lo ≤ nv T s ∧ nv T s ≤ M ∧ ¬ nI (nv T s) = u
    · exact ⟨h1, h2⟩
    · rw [if_neg h2] at h
      omega
  · rw [if_neg h1] at h
    omega
section TOWNX
variable {L : Nat} {xs : Nat → Int32} {sh : List Sh} {y : ST} {T : TP}
theorem gTo_sI (y : ST) (t k : Nat) (v : Int32) : gTo (sI y t k v) t = tF (gTo y t) k v := by
  refine Prod.ext (funext fun j => ?_) rfl
  show (if t = t ∧ j = k then v else y.1 t j) = (if j = k then v else y.1 t j)
  by_cases h : j = k
  · rw [if_pos ⟨rfl, h⟩, if_pos h]
  · rw [if_neg (fun z => h z.2), if_neg h]
theorem gTo_sJ (y : ST) (t : Nat) (l : Int64) : gTo (sJL y t 4 l) t = tJ (gTo y t) l := by
  refine Prod.ext rfl (Prod.ext ?_ rfl)
  show (if t = t ∧ 4 = 4 then l else y.2.1 t 4) = l
  rw [if_pos ⟨rfl, rfl⟩]
theorem gTo_sA (y : ST) (t j i : Nat) (hj : j < 5) (v : Int32) : gTo (sA y (t + 1 + j) (upd (y.2.2.2.1 (t + 1 + j)) i v)) t = tA (gTo y t) j i v := by
  refine Prod.ext rfl (Prod.ext rfl (funext fun a => ?_))
  show (if a < 5 then (if t + 1 + a = t + 1 + j then upd (y.2.2.2.1 (t + 1 + j)) i v else y.2.2.2.1 (t + 1 + a)) else fun _ => 0) = (if a = j then upd (if j < 5 then y.2.2.2.1 (t + 1 + j) else fun _ => 0) i v else if a < 5 then y.2.2.2.1 (t + 1 + a) else fun _ => 0)
  by_cases h : a = j
  · rw [if_pos (by omega), if_pos (by omega), if_pos h, if_pos hj]
  · rw [if_neg h]
    by_cases h5 : a < 5
    · rw [if_pos h5, if_neg (by omega), if_pos h5]
    · rw [if_neg h5, if_neg h5]
/-- what a piece of the reader does -/
def TRs (T : TP) (t : Nat) (y y' : ST) (r : Int32) (R : Nat ⊕ (Nat × TB)) : Prop := Off (fun o => o = 1 ∨ t ≤ o ∧ o < t + 6) y y' ∧ ((∃ e, R = .inl e ∧ (0 < e ∧ e < 10000) ∧ r = 0 ∧ y'.1 1 4 = nI e) ∨ ∃ s b, R = .inr (s, b) ∧ r = 1 ∧ TSt y' T s 0 ∧ gTo y' t = b.1)
def Dt6 (t o : Nat) : Prop := o = 1 ∨ t ≤ o ∧ o < t + 6
theorem Off_1t {t : Nat} {x y : ST} (h : Off (fun o => o = 1) x y) : Off (Dt6 t) x y := Off_mono h (fun o q => Or.inl q)
theorem TSt_t {t s : Nat} {z : ST} (h3 : 307 ≤ t) (h : Off (fun o => t ≤ o ∧ o < t + 6) y z) (hx : TSt y T s 0) : TSt z T s 0 := TSt_off h (by omega) (by omega) hx
theorem i_tellSize (d : Nat) (hT : isTa sh 1) (hR : isTR sh 194) (hV : VTa T) {t s : Nat} (ht : isTo sh t) (h3 : 307 ≤ t) {b : TB} (hx : TSt y T s 0) (hg : gTo y t = b.1) : ∃ y' r, cI (ZZ L xs) (d + 4) mX10_tellSize [.ref 194, .ref t] (HP sh y) = some (HP sh y', r) ∧ TRs T t y y' r (tSize T s b) := by
  have hl1 := nx_le hx.2.1
  have hlt := fun (lo M : Nat) (u : Int32) => tkE_lt (lo := lo) (M := M) (u := u) hV hx.2.1
  have hlt1 := fun (lo M : Nat) (u : Int32) => tkE_lt (lo := lo) (M := M) (u := u) hV hl1.2
  obtain ⟨y1, a1, a2, a3, a4⟩ := i_take (L := L) (xs := xs) d hT hV (lo := 2) (M := 8) (by decide) (by decide) (-1) hx
  have a1 : cI (ZZ L xs) (d + 3) mX8_take [.ref 1, .int 2, .int 8, .int (-1)] (HP sh y) = some (HP sh y1, z01 (decide (tkE T s 2 8 (-1) = 0))) := a1
  unfold tSize
  by_cases e1 : tkE T s 2 8 (-1) = 0
  · obtain ⟨b1, b2⟩ := a3 e1
    have o1 : Off (fun o => t ≤ o ∧ o < t + 6) y1 (sI y1 t 0 (nI (nv T s))) := Off_sI (D := fun o => t ≤ o ∧ o < t + 6) (Off_refl _ _) (by omega) _ _
    obtain ⟨y2, c1, c2, c3, c4⟩ := i_take (L := L) (xs := xs) d hT hV (lo := 1) (M := 30) (by decide) (by decide) (-1) (TSt_t h3 o1 b1)
    have c1 : cI (ZZ L xs) (d + 3) mX8_take [.ref 1, .int 1, .int 30, .int (-1)] (HP sh (sI y1 t 0 (nI (nv T s)))) = some (HP sh y2, z01 (decide (tkE T (nx' T s) 1 30 (-1) = 0))) := c1
    have o2 : Off (Dt6 t) y y2 := Off_trans (Off_trans (Off_1t a2) (Off_mono o1 (fun o q => Or.inr q))) (Off_1t c2)
    rw [if_pos e1]
    by_cases e2 : tkE T (nx' T s) 1 30 (-1) = 0
    · obtain ⟨d1, d2⟩ := c3 e2
      have o3 : Off (fun o => t ≤ o ∧ o < t + 6) y2 (sI y2 t 1 (nI (nv T (nx' T s)))) := Off_sI (D := fun o => t ≤ o ∧ o < t + 6) (Off_refl _ _) (by omega) _ _
      rw [if_pos e2]
      refine ⟨sI y2 t 1 (nI (nv T (nx' T s))), 1, cI_of ?_, Off_trans o2 (Off_mono o3 (fun o q => Or.inr q)), Or.inr ⟨_, _, rfl, rfl, TSt_t h3 o3 d1, ?_⟩⟩
      · show RS (ZZ L xs) (d + 4) mX10_tellSize 0 [some (.ref 194), some (.ref t)] [] _ = _
        rw [bX10_tellSize_0 (hv1 := rfl), TR_tape hR, some_bind', Ta_is hT, some_bind', a1, some_bind', decide_eq_true e1, if_pos (z1 rfl), TR_tape hR, some_bind', Ta_taken hT, some_bind', b2, Tow_places ht, some_bind', TR_tape hR, some_bind', Ta_is hT, some_bind', c1, some_bind', decide_eq_true e2, if_pos (z1 rfl), TR_tape hR, some_bind', Ta_taken hT, some_bind', d2, Tow_term ht, some_bind', if_pos (Or.inr rfl)]
      · rw [gTo_sI, gTo_off c2 (fun o q1 q2 => by omega), gTo_sI, gTo_off a2 (fun o q1 q2 => by omega), hg]
    · rw [if_neg e2]
      refine ⟨y2, 0, cI_of ?_, o2, Or.inl ⟨_, rfl, ⟨Nat.pos_of_ne_zero e2, hlt1 _ _ _⟩, rfl, c4 e2⟩⟩
      show RS (ZZ L xs) (d + 4) mX10_tellSize 0 [some (.ref 194), some (.ref t)] [] _ = _
      rw [bX10_tellSize_0 (hv1 := rfl), TR_tape hR, some_bind', Ta_is hT, some_bind', a1, some_bind', decide_eq_true e1, if_pos (z1 rfl), TR_tape hR, some_bind', Ta_taken hT, some_bind', b2, Tow_places ht, some_bind', TR_tape hR, some_bind', Ta_is hT, some_bind', c1, some_bind', decide_eq_false e2, if_neg (fun z => z rfl), if_pos (Or.inl rfl)]
  · rw [if_neg e1]
    refine ⟨y1, 0, cI_of ?_, Off_1t a2, Or.inl ⟨_, rfl, ⟨Nat.pos_of_ne_zero e1, hlt _ _ _⟩, rfl, a4 e1⟩⟩
    show RS (ZZ L xs) (d + 4) mX10_tellSize 0 [some (.ref 194), some (.ref t)] [] _ = _
    rw [bX10_tellSize_0 (hv1 := rfl), TR_tape hR, some_bind', Ta_is hT, some_bind', a1, some_bind', decide_eq_false e1, if_neg (fun z => z rfl), if_pos (Or.inl rfl)]
theorem nI_m1 {n : Nat} (h : 1 ≤ n) : nI n - 1 = nI (n - 1) := by
  rw [show (1 : Int32) = nI 1 from rfl, nI_subN h]
theorem gTo_0 {t k : Nat} {w : TW} (hg : gTo y t = w) : y.1 t k = w.1 k := by rw [← hg]; rfl
theorem gTo_L {t : Nat} {w : TW} (hg : gTo y t = w) : y.2.1 t 4 = w.2.1 := by rw [← hg]; rfl
theorem i_tellStreet (d : Nat) (hT : isTa sh 1) (hR : isTR sh 194) (hV : VTa T) {t s : Nat} (ht : isTo sh t) (h3 : 307 ≤ t) {b : TB} (hx : TSt y T s 0) (hg : gTo y t = b.1) (hk : TBk b) (hp : 1 ≤ b.2.1) : ∃ y' r, cI (ZZ L xs) (d + 4) mX10_tellStreet [.ref 194, .ref t] (HP sh y) = some (HP sh y', r) ∧ TRs T t y y' r (tStreet T s b) := by
  have hl1 := nx_le hx.2.1
  have h8 := hk.2.2.2.1
  have hlt := fun (lo M : Nat) (u : Int32) => tkE_lt (lo := lo) (M := M) (u := u) hV hx.2.1
  have hlt1 := fun (lo M : Nat) (u : Int32) => tkE_lt (lo := lo) (M := M) (u := u) hV hl1.2
  obtain ⟨y1, a1, a2, a3, a4⟩ := i_take (L := L) (xs := xs) d hT hV (lo := 0) (M := b.2.1 - 1) (by decide) (by omega) (-1) hx
  have a1 : cI (ZZ L xs) (d + 3) mX8_take [.ref 1, .int 0, .int (nI (b.2.1 - 1)), .int (-1)] (HP sh y) = some (HP sh y1, z01 (decide (tkE T s 0 (b.2.1 - 1) (-1) = 0))) := a1
  have f0 : y.1 t 0 = nI b.2.1 := (gTo_0 hg).trans hk.1
  have hg1 : gTo y1 t = b.1 := by rw [gTo_off a2 (fun o q1 q2 => by omega), hg]
  have f1 : y1.1 t 0 = nI b.2.1 := (gTo_0 hg1).trans hk.1
  unfold tStreet
  by_cases e1 : tkE T s 0 (b.2.1 - 1) (-1) = 0
  · obtain ⟨b1, b2⟩ := a3 e1
    obtain ⟨y2, c1, c2, c3, c4⟩ := i_take (L := L) (xs := xs) d hT hV (lo := 0) (M := b.2.1 - 1) (by decide) (by omega) (nI (nv T s)) b1
    have c1 : cI (ZZ L xs) (d + 3) mX8_take [.ref 1, .int 0, .int (nI (b.2.1 - 1)), .int (nI (nv T s))] (HP sh y1) = some (HP sh y2, z01 (decide (tkE T (nx' T s) 0 (b.2.1 - 1) (nI (nv T s)) = 0))) := c1
    have o2 : Off (Dt6 t) y y2 := Off_trans (Off_1t a2) (Off_1t c2)
    have hg2 : gTo y2 t = b.1 := by rw [gTo_off c2 (fun o q1 q2 => by omega), hg1]
    rw [if_pos e1]
    have i1 := tkE_in e1
    by_cases e2 : tkE T (nx' T s) 0 (b.2.1 - 1) (nI (nv T s)) = 0
    · obtain ⟨d1, d2⟩ := c3 e2
      have i2 := tkE_in e2
      have o3 : Off (fun o => t ≤ o ∧ o < t + 6) y2 (sJL y2 t 4 (b.1.2.1 ||| stS (nv T s) (nv T (nx' T s)))) := Off_sJL (D := fun o => t ≤ o ∧ o < t + 6) (Off_refl _ _) (by omega) _ _
      rw [if_pos e2]
      refine ⟨sJL y2 t 4 (b.1.2.1 ||| stS (nv T s) (nv T (nx' T s))), 1, cI_of ?_, Off_trans o2 (Off_mono o3 (fun o q => Or.inr q)), Or.inr ⟨_, _, rfl, rfl, TSt_t h3 o3 d1, ?_⟩⟩
      · show RS (ZZ L xs) (d + 4) mX10_tellStreet 0 [some (.ref 194), some (.ref t), none] [] _ = _
        rw [bX10_tellStreet_0 (hv1 := rfl), TR_tape hR, some_bind', To_places ht, some_bind', f0, nI_m1 hp, Ta_is hT, some_bind', a1, some_bind', decide_eq_true e1, if_pos (z1 rfl), TR_tape hR, some_bind', Ta_taken hT, some_bind', b2, some_bind', To_places ht, some_bind', f1, nI_m1 hp, Ta_is hT, some_bind', c1, some_bind', decide_eq_true e2, if_pos (z1 rfl), To_streets ht, some_bind', gTo_L hg2, TR_tape hR, some_bind', Ta_taken hT, some_bind', d2, i_street _ (by omega) (by omega), some_bind', Tow_streets ht, some_bind', if_pos (Or.inr rfl)]
      · rw [gTo_sJ, hg2]
    · rw [if_neg e2]
      refine ⟨y2, 0, cI_of ?_, o2, Or.inl ⟨_, rfl, ⟨Nat.pos_of_ne_zero e2, hlt1 _ _ _⟩, rfl, c4 e2⟩⟩
      show RS (ZZ L xs) (d + 4) mX10_tellStreet 0 [some (.ref 194), some (.ref t), none] [] _ = _
      rw [bX10_tellStreet_0 (hv1 := rfl), TR_tape hR, some_bind', To_places ht, some_bind', f0, nI_m1 hp, Ta_is hT, some_bind', a1, some_bind', decide_eq_true e1, if_pos (z1 rfl), TR_tape hR, some_bind', Ta_taken hT, some_bind', b2, some_bind', To_places ht, some_bind', f1, nI_m1 hp, Ta_is hT, some_bind', c1, some_bind', decide_eq_false e2, if_neg (fun z => z rfl), if_pos (Or.inl rfl)]
  · rw [if_neg e1]
    refine ⟨y1, 0, cI_of ?_, Off_1t a2, Or.inl ⟨_, rfl, ⟨Nat.pos_of_ne_zero e1, hlt _ _ _⟩, rfl, a4 e1⟩⟩
    show RS (ZZ L xs) (d + 4) mX10_tellStreet 0 [some (.ref 194), some (.ref t), none] [] _ = _
    rw [bX10_tellStreet_0 (hv1 := rfl), TR_tape hR, some_bind', To_places ht, some_bind', f0, nI_m1 hp, Ta_is hT, some_bind', a1, some_bind', decide_eq_false e1, if_neg (fun z => z rfl), if_pos (Or.inl rfl)]
theorem i_tellPerson (d : Nat) (hT : isTa sh 1) (hR : isTR sh 194) (hV : VTa T) {t s : Nat} (ht : isTo sh t) (h3 : 307 ≤ t) {b : TB} (hx : TSt y T s 0) (hg : gTo y t = b.1) (hk : TBk b) (hp : 1 ≤ b.2.1) (hnp : b.2.2.1 < 6) : ∃ y' r, cI (ZZ L xs) (d + 4) mX10_tellPerson [.ref 194, .ref t] (HP sh y) = some (HP sh y', r) ∧ TRs T t y y' r (tPerson T s b) := by
  have hl1 := nx_le hx.2.1
  have hl2 := nx_le hl1.2
  have h8 := hk.2.2.2.1
  have hlt0 := fun (lo M : Nat) (u : Int32) => tkE_lt (lo := lo) (M := M) (u := u) hV hx.2.1
  have hlt1 := fun (lo M : Nat) (u : Int32) => tkE_lt (lo := lo) (M := M) (u := u) hV hl1.2
  have hlt2 := fun (lo M : Nat) (u : Int32) => tkE_lt (lo := lo) (M := M) (u := u) hV hl2.2
  obtain ⟨y1, a1, a2, a3, a4⟩ := i_take (L := L) (xs := xs) d hT hV (lo := 0) (M := (b.2.1 - 1)) (by decide) (by omega) (-1) hx
  have a1 : cI (ZZ L xs) (d + 3) mX8_take [.ref 1, .int 0, .int (nI (b.2.1 - 1)), .int (-1)] (HP sh y) = some (HP sh y1, z01 (decide (tkE T s 0 (b.2.1 - 1) (-1) = 0))) := a1
  have f0 : y.1 t 0 = nI b.2.1 := (gTo_0 hg).trans hk.1
  have f2 : y.1 t 2 = nI b.2.2.1 := (gTo_0 hg).trans hk.2.1
  have hg1 : gTo y1 t = b.1 := by rw [gTo_off a2 (fun o q1 q2 => by omega), hg]
  unfold tPerson
  by_cases e1 : tkE T s 0 (b.2.1 - 1) (-1) = 0
  · obtain ⟨b1, b2⟩ := a3 e1
    rw [if_pos e1]
    have o1 : Off (fun o => t ≤ o ∧ o < t + 6) y1 (sA y1 (t + 1 + 0) (upd (y1.2.2.2.1 (t + 1 + 0)) b.2.2.1 (nI (nv T s)))) := Off_sA (D := fun o => t ≤ o ∧ o < t + 6) (Off_refl _ _) (by omega) _
    have hg2 := (gTo_sA y1 t 0 b.2.2.1 (by decide) (nI (nv T s))).trans (by rw [hg1])
    have w1 : ∀ v, wI (HP sh y1) (.ref (t + 1 + 0)) (nI b.2.2.1) v = some (HP sh (sA y1 (t + 1 + 0) (upd (y1.2.2.2.1 (t + 1 + 0)) b.2.2.1 v))) := fun v => Tou_place ht _ hnp v
    obtain ⟨z1', hz1⟩ : ∃ z, z = sA y1 (t + 1 + 0) (upd (y1.2.2.2.1 (t + 1 + 0)) b.2.2.1 (nI (nv T s))) := ⟨_, rfl⟩
    have w1 := w1 (nI (nv T s))
    rw [← hz1] at o1 hg2 w1
    have f1 : z1'.1 t 0 = nI b.2.1 := (gTo_0 hg2).trans hk.1
    obtain ⟨y2, c1, c2, c3, c4⟩ := i_take (L := L) (xs := xs) d hT hV (lo := 0) (M := 9) (by decide) (by omega) (-1) (TSt_t h3 o1 b1)
    have c1 : cI (ZZ L xs) (d + 3) mX8_take [.ref 1, .int 0, .int 9, .int (-1)] (HP sh z1') = some (HP sh y2, z01 (decide (tkE T (nx' T s) 0 9 (-1) = 0))) := c1
    have o2 : Off (Dt6 t) y y2 := Off_trans (Off_trans (Off_1t a2) (Off_mono o1 (fun o q => Or.inr q))) (Off_1t c2)
    have hg3 := (gTo_off c2 (t := t) (fun o q1 q2 => by omega)).trans hg2
    by_cases e2 : tkE T (nx' T s) 0 9 (-1) = 0
    · obtain ⟨d1, d2⟩ := c3 e2
      rw [if_pos e2]
      have o3 : Off (fun o => t ≤ o ∧ o < t + 6) y2 (sA y2 (t + 1 + 1) (upd (y2.2.2.2.1 (t + 1 + 1)) b.2.2.1 (nI (nv T (nx' T s))))) := Off_sA (D := fun o => t ≤ o ∧ o < t + 6) (Off_refl _ _) (by omega) _
      have hg4 := (gTo_sA y2 t 1 b.2.2.1 (by decide) (nI (nv T (nx' T s)))).trans (by rw [hg3])
      have w2 : ∀ v, wI (HP sh y2) (.ref (t + 1 + 1)) (nI b.2.2.1) v = some (HP sh (sA y2 (t + 1 + 1) (upd (y2.2.2.2.1 (t + 1 + 1)) b.2.2.1 v))) := fun v => Tou_kind ht _ hnp v
      obtain ⟨z2', hz2⟩ : ∃ z, z = sA y2 (t + 1 + 1) (upd (y2.2.2.2.1 (t + 1 + 1)) b.2.2.1 (nI (nv T (nx' T s)))) := ⟨_, rfl⟩
      have w2 := w2 (nI (nv T (nx' T s)))
      rw [← hz2] at o3 hg4 w2
      obtain ⟨y3, g1, g2, g3, g4⟩ := i_take (L := L) (xs := xs) d hT hV (lo := 0) (M := 1) (by decide) (by omega) (-1) (TSt_t h3 o3 d1)
      have g1 : cI (ZZ L xs) (d + 3) mX8_take [.ref 1, .int 0, .int 1, .int (-1)] (HP sh z2') = some (HP sh y3, z01 (decide (tkE T (nx' T (nx' T s)) 0 1 (-1) = 0))) := g1
      have o4 : Off (Dt6 t) y y3 := Off_trans (Off_trans o2 (Off_mono o3 (fun o q => Or.inr q))) (Off_1t g2)
      have hg5 := (gTo_off g2 (t := t) (fun o q1 q2 => by omega)).trans hg4
      by_cases e3 : tkE T (nx' T (nx' T s)) 0 1 (-1) = 0
      · obtain ⟨k1, k2⟩ := g3 e3
        rw [if_pos e3]
        have k5 : y3.1 t 5 = b.1.1 5 := (gTo_0 hg5).trans rfl
        have o5 : Off (fun o => t ≤ o ∧ o < t + 6) y3 (sI (sI y3 t 5 (b.1.1 5 ||| iShl (nI (nv T (nx' T (nx' T s)))) (nI b.2.2.1))) t 2 (nI (b.2.2.1 + 1))) := Off_sI (D := fun o => t ≤ o ∧ o < t + 6) (Off_sI (D := fun o => t ≤ o ∧ o < t + 6) (Off_refl _ _) (by omega) _ _) (by omega) _ _
        have k6 : (sI y3 t 5 (b.1.1 5 ||| iShl (nI (nv T (nx' T (nx' T s)))) (nI b.2.2.1))).1 t 2 = nI b.2.2.1 := by
          show (if t = t ∧ 2 = 5 then _ else y3.1 t 2) = _
          rw [if_neg (by omega)]
          exact (gTo_0 hg5).trans hk.2.1
        refine ⟨sI (sI y3 t 5 (b.1.1 5 ||| iShl (nI (nv T (nx' T (nx' T s)))) (nI b.2.2.1))) t 2 (nI (b.2.2.1 + 1)), 1, cI_of ?_, Off_trans o4 (Off_mono o5 (fun o q => Or.inr q)), Or.inr ⟨_, _, rfl, rfl, TSt_t h3 o5 k1, ?_⟩⟩
        · show RS (ZZ L xs) (d + 4) mX10_tellPerson 0 [some (.ref 194), some (.ref t), none] [] _ = _
          rw [bX10_tellPerson_0 (hv1 := rfl), To_people ht, some_bind', f2, TR_tape hR, some_bind', To_places ht, some_bind', f0, nI_m1 hp, Ta_is hT, some_bind', a1, some_bind', decide_eq_true e1, if_pos (z1 rfl), To_place ht, some_bind', TR_tape hR, some_bind', Ta_taken hT, some_bind', b2, show wI (HP sh y1) (.ref (t + 1)) (nI b.2.2.1) (nI (nv T s)) = some (HP sh z1') from w1, some_bind', TR_tape hR, some_bind', Ta_is hT, some_bind', c1, some_bind', decide_eq_true e2, if_pos (z1 rfl), To_kind ht, some_bind', TR_tape hR, some_bind', Ta_taken hT, some_bind', d2, show wI (HP sh y2) (.ref (t + 2)) (nI b.2.2.1) (nI (nv T (nx' T s))) = some (HP sh z2') from w2, some_bind', TR_tape hR, some_bind', Ta_is hT, some_bind', g1, some_bind', decide_eq_true e3, if_pos (z1 rfl), To_wrong ht, some_bind', k5, TR_tape hR, some_bind', Ta_taken hT, some_bind', k2, Tow_wrong ht, some_bind', To_people ht, some_bind', k6, nI_1, Tow_people ht, some_bind', if_pos (Or.inr rfl)]
        · rw [gTo_sI, gTo_sI, hg5]
      · rw [if_neg e3]
        refine ⟨y3, 0, cI_of ?_, o4, Or.inl ⟨_, rfl, ⟨Nat.pos_of_ne_zero e3, hlt2 _ _ _⟩, rfl, g4 e3⟩⟩
        show RS (ZZ L xs) (d + 4) mX10_tellPerson 0 [some (.ref 194), some (.ref t), none] [] _ = _
        rw [bX10_tellPerson_0 (hv1 := rfl), To_people ht, some_bind', f2, TR_tape hR, some_bind', To_places ht, some_bind', f0, nI_m1 hp, Ta_is hT, some_bind', a1, some_bind', decide_eq_true e1, if_pos (z1 rfl), To_place ht, some_bind', TR_tape hR, some_bind', Ta_taken hT, some_bind', b2, show wI (HP sh y1) (.ref (t + 1)) (nI b.2.2.1) (nI (nv T s)) = some (HP sh z1') from w1, some_bind', TR_tape hR, some_bind', Ta_is hT, some_bind', c1, some_bind', decide_eq_true e2, if_pos (z1 rfl), To_kind ht, some_bind', TR_tape hR, some_bind', Ta_taken hT, some_bind', d2, show wI (HP sh y2) (.ref (t + 2)) (nI b.2.2.1) (nI (nv T (nx' T s))) = some (HP sh z2') from w2, some_bind', TR_tape hR, some_bind', Ta_is hT, some_bind', g1, some_bind', decide_eq_false e3, if_neg (fun z => z rfl), if_pos (Or.inl rfl)]
    · rw [if_neg e2]
      refine ⟨y2, 0, cI_of ?_, o2, Or.inl ⟨_, rfl, ⟨Nat.pos_of_ne_zero e2, hlt1 _ _ _⟩, rfl, c4 e2⟩⟩
      show RS (ZZ L xs) (d + 4) mX10_tellPerson 0 [some (.ref 194), some (.ref t), none] [] _ = _
      rw [bX10_tellPerson_0 (hv1 := rfl), To_people ht, some_bind', f2, TR_tape hR, some_bind', To_places ht, some_bind', f0, nI_m1 hp, Ta_is hT, some_bind', a1, some_bind', decide_eq_true e1, if_pos (z1 rfl), To_place ht, some_bind', TR_tape hR, some_bind', Ta_taken hT, some_bind', b2, show wI (HP sh y1) (.ref (t + 1)) (nI b.2.2.1) (nI (nv T s)) = some (HP sh z1') from w1, some_bind', TR_tape hR, some_bind', Ta_is hT, some_bind', c1, some_bind', decide_eq_false e2, if_neg (fun z => z rfl), if_pos (Or.inl rfl)]
  · rw [if_neg e1]
    refine ⟨y1, 0, cI_of ?_, Off_1t a2, Or.inl ⟨_, rfl, ⟨Nat.pos_of_ne_zero e1, hlt0 _ _ _⟩, rfl, a4 e1⟩⟩
    show RS (ZZ L xs) (d + 4) mX10_tellPerson 0 [some (.ref 194), some (.ref t), none] [] _ = _
    rw [bX10_tellPerson_0 (hv1 := rfl), To_people ht, some_bind', f2, TR_tape hR, some_bind', To_places ht, some_bind', f0, nI_m1 hp, Ta_is hT, some_bind', a1, some_bind', decide_eq_false e1, if_neg (fun z => z rfl), if_pos (Or.inl rfl)]
theorem i_tellStranger (d : Nat) (hT : isTa sh 1) (hR : isTR sh 194) (hV : VTa T) {t s : Nat} (ht : isTo sh t) (h3 : 307 ≤ t) {b : TB} (hx : TSt y T s 0) (hg : gTo y t = b.1) (hk : TBk b) (hp : 1 ≤ b.2.1) (hnp : b.2.2.2 < 5) : ∃ y' r, cI (ZZ L xs) (d + 4) mX10_tellStranger [.ref 194, .ref t] (HP sh y) = some (HP sh y', r) ∧ TRs T t y y' r (tStranger T s b) := by
  have hl1 := nx_le hx.2.1
  have hl2 := nx_le hl1.2
  have h8 := hk.2.2.2.1
  have hlt0 := fun (lo M : Nat) (u : Int32) => tkE_lt (lo := lo) (M := M) (u := u) hV hx.2.1
  have hlt1 := fun (lo M : Nat) (u : Int32) => tkE_lt (lo := lo) (M := M) (u := u) hV hl1.2
  have hlt2 := fun (lo M : Nat) (u : Int32) => tkE_lt (lo := lo) (M := M) (u := u) hV hl2.2
  obtain ⟨y1, a1, a2, a3, a4⟩ := i_take (L := L) (xs := xs) d hT hV (lo := 0) (M := (b.2.1 - 1)) (by decide) (by omega) (-1) hx
  have a1 : cI (ZZ L xs) (d + 3) mX8_take [.ref 1, .int 0, .int (nI (b.2.1 - 1)), .int (-1)] (HP sh y) = some (HP sh y1, z01 (decide (tkE T s 0 (b.2.1 - 1) (-1) = 0))) := a1
  have f0 : y.1 t 0 = nI b.2.1 := (gTo_0 hg).trans hk.1
  have f2 : y.1 t 3 = nI b.2.2.2 := (gTo_0 hg).trans hk.2.2.1
  have hg1 : gTo y1 t = b.1 := by rw [gTo_off a2 (fun o q1 q2 => by omega), hg]
  unfold tStranger
  by_cases e1 : tkE T s 0 (b.2.1 - 1) (-1) = 0
  · obtain ⟨b1, b2⟩ := a3 e1
    rw [if_pos e1]
    have o1 : Off (fun o => t ≤ o ∧ o < t + 6) y1 (sA y1 (t + 1 + 2) (upd (y1.2.2.2.1 (t + 1 + 2)) b.2.2.2 (nI (nv T s)))) := Off_sA (D := fun o => t ≤ o ∧ o < t + 6) (Off_refl _ _) (by omega) _
    have hg2 := (gTo_sA y1 t 2 b.2.2.2 (by decide) (nI (nv T s))).trans (by rw [hg1])
    have w1 : ∀ v, wI (HP sh y1) (.ref (t + 1 + 2)) (nI b.2.2.2) v = some (HP sh (sA y1 (t + 1 + 2) (upd (y1.2.2.2.1 (t + 1 + 2)) b.2.2.2 v))) := fun v => Tou_from ht _ hnp v
    obtain ⟨z1', hz1⟩ : ∃ z, z = sA y1 (t + 1 + 2) (upd (y1.2.2.2.1 (t + 1 + 2)) b.2.2.2 (nI (nv T s))) := ⟨_, rfl⟩
    have w1 := w1 (nI (nv T s))
    rw [← hz1] at o1 hg2 w1
    have f1 : z1'.1 t 0 = nI b.2.1 := (gTo_0 hg2).trans hk.1
    obtain ⟨y2, c1, c2, c3, c4⟩ := i_take (L := L) (xs := xs) d hT hV (lo := 0) (M := (b.2.1 - 1)) (by decide) (by omega) (nI (nv T s)) (TSt_t h3 o1 b1)
    have c1 : cI (ZZ L xs) (d + 3) mX8_take [.ref 1, .int 0, .int (nI (b.2.1 - 1)), .int (nI (nv T s))] (HP sh z1') = some (HP sh y2, z01 (decide (tkE T (nx' T s) 0 (b.2.1 - 1) (nI (nv T s)) = 0))) := c1
    have o2 : Off (Dt6 t) y y2 := Off_trans (Off_trans (Off_1t a2) (Off_mono o1 (fun o q => Or.inr q))) (Off_1t c2)
    have hg3 := (gTo_off c2 (t := t) (fun o q1 q2 => by omega)).trans hg2
    by_cases e2 : tkE T (nx' T s) 0 (b.2.1 - 1) (nI (nv T s)) = 0
    · obtain ⟨d1, d2⟩ := c3 e2
      rw [if_pos e2]
      have o3 : Off (fun o => t ≤ o ∧ o < t + 6) y2 (sA y2 (t + 1 + 3) (upd (y2.2.2.2.1 (t + 1 + 3)) b.2.2.2 (nI (nv T (nx' T s))))) := Off_sA (D := fun o => t ≤ o ∧ o < t + 6) (Off_refl _ _) (by omega) _
      have hg4 := (gTo_sA y2 t 3 b.2.2.2 (by decide) (nI (nv T (nx' T s)))).trans (by rw [hg3])
      have w2 : ∀ v, wI (HP sh y2) (.ref (t + 1 + 3)) (nI b.2.2.2) v = some (HP sh (sA y2 (t + 1 + 3) (upd (y2.2.2.2.1 (t + 1 + 3)) b.2.2.2 v))) := fun v => Tou_to ht _ hnp v
      obtain ⟨z2', hz2⟩ : ∃ z, z = sA y2 (t + 1 + 3) (upd (y2.2.2.2.1 (t + 1 + 3)) b.2.2.2 (nI (nv T (nx' T s)))) := ⟨_, rfl⟩
      have w2 := w2 (nI (nv T (nx' T s)))
      rw [← hz2] at o3 hg4 w2
      obtain ⟨y3, g1, g2, g3, g4⟩ := i_take (L := L) (xs := xs) d hT hV (lo := 1) (M := 20) (by decide) (by omega) (-1) (TSt_t h3 o3 d1)
      have g1 : cI (ZZ L xs) (d + 3) mX8_take [.ref 1, .int 1, .int 20, .int (-1)] (HP sh z2') = some (HP sh y3, z01 (decide (tkE T (nx' T (nx' T s)) 1 20 (-1) = 0))) := g1
      have o4 : Off (Dt6 t) y y3 := Off_trans (Off_trans o2 (Off_mono o3 (fun o q => Or.inr q))) (Off_1t g2)
      have hg5 := (gTo_off g2 (t := t) (fun o q1 q2 => by omega)).trans hg4
      by_cases e3 : tkE T (nx' T (nx' T s)) 1 20 (-1) = 0
      · obtain ⟨k1, k2⟩ := g3 e3
        rw [if_pos e3]
        have k5 : y3.1 t 5 = b.1.1 5 := (gTo_0 hg5).trans rfl
        have o5 : Off (fun o => t ≤ o ∧ o < t + 6) y3 (sI (sA y3 (t + 1 + 4) (upd (y3.2.2.2.1 (t + 1 + 4)) b.2.2.2 (nI (nv T (nx' T (nx' T s)))))) t 3 (nI (b.2.2.2 + 1))) := Off_sI (D := fun o => t ≤ o ∧ o < t + 6) (Off_sA (D := fun o => t ≤ o ∧ o < t + 6) (Off_refl _ _) (by omega) _) (by omega) _ _
        have k6 : (sA y3 (t + 1 + 4) (upd (y3.2.2.2.1 (t + 1 + 4)) b.2.2.2 (nI (nv T (nx' T (nx' T s)))))).1 t 3 = nI b.2.2.2 := (gTo_0 hg5).trans hk.2.2.1
        refine ⟨sI (sA y3 (t + 1 + 4) (upd (y3.2.2.2.1 (t + 1 + 4)) b.2.2.2 (nI (nv T (nx' T (nx' T s)))))) t 3 (nI (b.2.2.2 + 1)), 1, cI_of ?_, Off_trans o4 (Off_mono o5 (fun o q => Or.inr q)), Or.inr ⟨_, _, rfl, rfl, TSt_t h3 o5 k1, ?_⟩⟩
        · show RS (ZZ L xs) (d + 4) mX10_tellStranger 0 [some (.ref 194), some (.ref t), none, none] [] _ = _
          rw [bX10_tellStranger_0 (hv1 := rfl), To_strangers ht, some_bind', f2, TR_tape hR, some_bind', To_places ht, some_bind', f0, nI_m1 hp, Ta_is hT, some_bind', a1, some_bind', decide_eq_true e1, if_pos (z1 rfl), TR_tape hR, some_bind', Ta_taken hT, some_bind', b2, To_from ht, some_bind', show wI (HP sh y1) (.ref (t + 3)) (nI b.2.2.2) (nI (nv T s)) = some (HP sh z1') from w1, some_bind', TR_tape hR, some_bind', To_places ht, some_bind', f1, nI_m1 hp, Ta_is hT, some_bind', c1, some_bind', decide_eq_true e2, if_pos (z1 rfl), To_to ht, some_bind', TR_tape hR, some_bind', Ta_taken hT, some_bind', d2, show wI (HP sh y2) (.ref (t + 4)) (nI b.2.2.2) (nI (nv T (nx' T s))) = some (HP sh z2') from w2, some_bind', TR_tape hR, some_bind', Ta_is hT, some_bind', g1, some_bind', decide_eq_true e3, if_pos (z1 rfl), To_every ht, some_bind', TR_tape hR, some_bind', Ta_taken hT, some_bind', k2, show wI (HP sh y3) (.ref (t + 5)) (nI b.2.2.2) (nI (nv T (nx' T (nx' T s)))) = some (HP sh (sA y3 (t + 1 + 4) (upd (y3.2.2.2.1 (t + 1 + 4)) b.2.2.2 (nI (nv T (nx' T (nx' T s))))))) from Tou_every ht _ hnp _, some_bind', To_strangers ht, some_bind', k6, nI_1, Tow_strangers ht, some_bind', if_pos (Or.inr rfl)]
        · rw [gTo_sI, gTo_sA _ _ _ _ (by decide), hg5]
      · rw [if_neg e3]
        refine ⟨y3, 0, cI_of ?_, o4, Or.inl ⟨_, rfl, ⟨Nat.pos_of_ne_zero e3, hlt2 _ _ _⟩, rfl, g4 e3⟩⟩
        show RS (ZZ L xs) (d + 4) mX10_tellStranger 0 [some (.ref 194), some (.ref t), none, none] [] _ = _
        rw [bX10_tellStranger_0 (hv1 := rfl), To_strangers ht, some_bind', f2, TR_tape hR, some_bind', To_places ht, some_bind', f0, nI_m1 hp, Ta_is hT, some_bind', a1, some_bind', decide_eq_true e1, if_pos (z1 rfl), TR_tape hR, some_bind', Ta_taken hT, some_bind', b2, To_from ht, some_bind', show wI (HP sh y1) (.ref (t + 3)) (nI b.2.2.2) (nI (nv T s)) = some (HP sh z1') from w1, some_bind', TR_tape hR, some_bind', To_places ht, some_bind', f1, nI_m1 hp, Ta_is hT, some_bind', c1, some_bind', decide_eq_true e2, if_pos (z1 rfl), To_to ht, some_bind', TR_tape hR, some_bind', Ta_taken hT, some_bind', d2, show wI (HP sh y2) (.ref (t + 4)) (nI b.2.2.2) (nI (nv T (nx' T s))) = some (HP sh z2') from w2, some_bind', TR_tape hR, some_bind', Ta_is hT, some_bind', g1, some_bind', decide_eq_false e3, if_neg (fun z => z rfl), if_pos (Or.inl rfl)]
    · rw [if_neg e2]
      refine ⟨y2, 0, cI_of ?_, o2, Or.inl ⟨_, rfl, ⟨Nat.pos_of_ne_zero e2, hlt1 _ _ _⟩, rfl, c4 e2⟩⟩
      show RS (ZZ L xs) (d + 4) mX10_tellStranger 0 [some (.ref 194), some (.ref t), none, none] [] _ = _
      rw [bX10_tellStranger_0 (hv1 := rfl), To_strangers ht, some_bind', f2, TR_tape hR, some_bind', To_places ht, some_bind', f0, nI_m1 hp, Ta_is hT, some_bind', a1, some_bind', decide_eq_true e1, if_pos (z1 rfl), TR_tape hR, some_bind', Ta_taken hT, some_bind', b2, To_from ht, some_bind', show wI (HP sh y1) (.ref (t + 3)) (nI b.2.2.2) (nI (nv T s)) = some (HP sh z1') from w1, some_bind', TR_tape hR, some_bind', To_places ht, some_bind', f1, nI_m1 hp, Ta_is hT, some_bind', c1, some_bind', decide_eq_false e2, if_neg (fun z => z rfl), if_pos (Or.inl rfl)]
  · rw [if_neg e1]
    refine ⟨y1, 0, cI_of ?_, Off_1t a2, Or.inl ⟨_, rfl, ⟨Nat.pos_of_ne_zero e1, hlt0 _ _ _⟩, rfl, a4 e1⟩⟩
    show RS (ZZ L xs) (d + 4) mX10_tellStranger 0 [some (.ref 194), some (.ref t), none, none] [] _ = _
    rw [bX10_tellStranger_0 (hv1 := rfl), To_strangers ht, some_bind', f2, TR_tape hR, some_bind', To_places ht, some_bind', f0, nI_m1 hp, Ta_is hT, some_bind', a1, some_bind', decide_eq_false e1, if_neg (fun z => z rfl), if_pos (Or.inl rfl)]
end TOWNX
