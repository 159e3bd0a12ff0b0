/-! scenes copied; new cells -/
section COPY
variable {L : Nat} {xs : Nat → Int32} {sh : List Sh} {x : ST} {b e : Nat} {c c0 : SCN}
theorem va_cpy0 (f g : Nat → Int32) {n k : Nat} (h : k < n) : va_cpy f g 0 0 n k = f k := by
  unfold va_cpy
  rw [if_pos ⟨by omega, by omega⟩]
  simp
theorem v_copySc (d : Nat) (hb : XSc sh x b c0) (he : XSc sh x e c) (hd : b + 180 ≤ e ∨ e + 180 ≤ b) (hn : c.2.2.2.2.1 ≤ 10) (hto : ∀ t o, isTo sh t → (t = 4 ∨ 307 ≤ t) → t ≤ o → o < t + 6 → ¬ (o = b ∨ b + 7 ≤ o ∧ o < b + 180)) : ∃ y, cV (ZZ L xs) (d + 3) mX6_copyFrom [.ref b, .ref e] (HP sh x) = some (HP sh y) ∧ Off (fun o => o = b ∨ b + 7 ≤ o ∧ o < b + 180) x y ∧ XSc sh y b c := by
  have h1 : isSc sh b := hb.1
  have h2 : isSc sh e := he.1
  obtain ⟨-, ⟨t, t1, t2, t3, t4⟩, e3, e4, e5, e6, e7, e8⟩ := id he
  have ht : fR (HP sh x) (.ref e) 6 0 = some (.ref t) := by
    have := Sc_town h2 x (by rw [t1]; rfl)
    rw [this, t1]
  have o1 : Off (fun o => o = b ∨ b + 7 ≤ o ∧ o < b + 15) x (sR x b 0 (.ref t)) := Off_sR (Off_refl _ _) (by omega) _ _
  have o2 : Off (fun o => o = b ∨ b + 7 ≤ o ∧ o < b + 15) x (pSt (sR x b 0 (.ref t)) (b + 7) (gSt (sR x b 0 (.ref t)) (e + 7))) := Off_pSt o1 (by intro o q1 q2; omega) _
  have hcs := v_copyS (L := L) (xs := xs) (d + 1) h1.2.2.2.2.1 h2.2.2.2.2.1 (by omega) (sR x b 0 (.ref t))
  have s2 : SQ (gSt (pSt (sR x b 0 (.ref t)) (b + 7) (gSt (sR x b 0 (.ref t)) (e + 7))) (b + 7)) c.2.1 := SQ_trans (SQ_pSt _ _ _) (SQ_trans (gSt_off o1 (fun o q1 q2 => by omega)) e3)
  have r2 : (pSt (sR x b 0 (.ref t)) (b + 7) (gSt (sR x b 0 (.ref t)) (e + 7))).2.2.1 b 0 = .ref t := by
    show (if b = b ∧ 0 = 0 then Value.ref t else x.2.2.1 b 0) = _
    rw [if_pos ⟨rfl, rfl⟩]
  generalize pSt (sR x b 0 (.ref t)) (b + 7) (gSt (sR x b 0 (.ref t)) (e + 7)) = y2 at *
  obtain ⟨y3, p1, p2, p3⟩ := v_copyP (L := L) (xs := xs) d h1.2.2.2.2.2 (PaOK_off o2 (fun o q1 q2 => by omega) hb.2.2.2.1) h2.2.2.2.2.2 (PaOK_off o2 (fun o q1 q2 => by omega) e4) (by omega)
  have o3 : Off (fun o => o = b ∨ b + 7 ≤ o ∧ o < b + 180) x y3 := Off_trans (Off_mono o2 (fun o q => by omega)) (Off_mono p2 (fun o q => by omega))
  have s3 : SQ (gSt y3 (b + 7)) c.2.1 := SQ_trans (gSt_off p2 (fun o q1 q2 => by omega)) s2
  have r3 : y3.2.2.1 b 0 = .ref t := by rw [(p2 b (by omega)).2.2.1]; exact r2
  have i3 : ∀ k, y3.1 e k = x.1 e k := fun k => by rw [(o3 e (by omega)).1]
  have a3 : ∀ j, j < 3 → y3.2.2.2.1 (e + 177 + j) = x.2.2.2.1 (e + 177 + j) := fun j hj => (o3 _ (by omega)).2.2.2.1
  obtain ⟨y6, q1, q2, q3, q4, q5, q6⟩ : ∃ y6, y6 = sI (sI (sI y3 b 3 (x.1 e 3)) b 4 (x.1 e 4)) b 5 (x.1 e 5) ∧ Off (fun o => o = b) y3 y6 ∧ y6.1 b 3 = x.1 e 3 ∧ y6.1 b 4 = x.1 e 4 ∧ y6.1 b 5 = x.1 e 5 ∧ y6.2.2.1 b 0 = y3.2.2.1 b 0 := by
    refine ⟨_, rfl, Off_sI (Off_sI (Off_sI (Off_refl _ _) (by rfl) _ _) (by rfl) _ _) (by rfl) _ _, ?_, ?_, ?_, rfl⟩
    · show (if b = b ∧ 3 = 5 then _ else (if b = b ∧ 3 = 4 then _ else (if b = b ∧ 3 = 3 then x.1 e 3 else y3.1 b 3))) = _
      rw [if_neg (by omega), if_neg (by omega), if_pos ⟨rfl, rfl⟩]
    · show (if b = b ∧ 4 = 5 then _ else (if b = b ∧ 4 = 4 then x.1 e 4 else _)) = _
      rw [if_neg (by omega), if_pos ⟨rfl, rfl⟩]
    · show (if b = b ∧ 5 = 5 then x.1 e 5 else _) = _
      rw [if_pos ⟨rfl, rfl⟩]
  have a6 : ∀ j, j < 3 → y6.2.2.2.1 (e + 177 + j) = x.2.2.2.1 (e + 177 + j) := fun j hj => by rw [(q2 _ (by omega)).2.2.2.1, a3 j hj]
  obtain ⟨y7, y8, y9, c7, c8, c9, w2, w3⟩ : ∃ y7 y8 y9, cP (HP sh y6) (.ref (e + 177)) 0 (.ref (b + 177)) 0 10 = some (HP sh y7) ∧ cP (HP sh y7) (.ref (e + 178)) 0 (.ref (b + 178)) 0 10 = some (HP sh y8) ∧ cP (HP sh y8) (.ref (e + 179)) 0 (.ref (b + 179)) 0 10 = some (HP sh y9) ∧ Off (fun o => b + 177 ≤ o ∧ o < b + 180) y6 y9 ∧ ∀ j, j < 3 → ∀ i, i < 10 → y9.2.2.2.1 (b + 177 + j) i = x.2.2.2.1 (e + 177 + j) i := by
    refine ⟨_, _, sA (sA (sA y6 (b + 177) (va_cpy (y6.2.2.2.1 (e + 177)) (y6.2.2.2.1 (b + 177)) 0 0 10)) (b + 178) (va_cpy (y6.2.2.2.1 (e + 178)) (y6.2.2.2.1 (b + 178)) 0 0 10)) (b + 179) (va_cpy (y6.2.2.2.1 (e + 179)) (y6.2.2.2.1 (b + 179)) 0 0 10), cpA h2.2.1 h1.2.1 (c := 10) (by decide) (by decide) (by decide), cpA h2.2.2.1 h1.2.2.1 (c := 10) (by decide) (by decide) (by decide), ?_, Off_sA (Off_sA (Off_sA (Off_refl _ _) (by omega) _) (by omega) _) (by omega) _, fun j hj i hi => ?_⟩
    · have := cpA h2.2.2.2.1 h1.2.2.2.1 (c := 10) (by decide) (by decide) (by decide) (x := sA (sA y6 (b + 177) (va_cpy (y6.2.2.2.1 (e + 177)) (y6.2.2.2.1 (b + 177)) 0 0 10)) (b + 178) (va_cpy ((sA y6 (b + 177) (va_cpy (y6.2.2.2.1 (e + 177)) (y6.2.2.2.1 (b + 177)) 0 0 10)).2.2.2.1 (e + 178)) ((sA y6 (b + 177) (va_cpy (y6.2.2.2.1 (e + 177)) (y6.2.2.2.1 (b + 177)) 0 0 10)).2.2.2.1 (b + 178)) 0 0 10))
      refine Eq.trans this ?_
      rw [sA_ne _ _ (show e + 178 ≠ b + 177 by omega), sA_ne _ _ (show b + 178 ≠ b + 177 by omega), sA_ne _ _ (show e + 179 ≠ b + 178 by omega), sA_ne _ _ (show e + 179 ≠ b + 177 by omega), sA_ne _ _ (show b + 179 ≠ b + 178 by omega), sA_ne _ _ (show b + 179 ≠ b + 177 by omega)]
    · match j, hj with
      | 0, _ =>
        show (sA (sA (sA y6 (b + 177) _) (b + 178) _) (b + 179) _).2.2.2.1 (b + 177) i = _
        rw [sA_ne _ _ (by omega), sA_ne _ _ (by omega), sA_at, va_cpy0 _ _ hi]
        exact congrFun (a6 0 (by decide)) i
      | 1, _ =>
        show (sA (sA (sA y6 (b + 177) _) (b + 178) _) (b + 179) _).2.2.2.1 (b + 178) i = _
        rw [sA_ne _ _ (by omega), sA_at, va_cpy0 _ _ hi]
        exact congrFun (a6 1 (by decide)) i
      | 2, _ =>
        show (sA (sA (sA y6 (b + 177) _) (b + 178) _) (b + 179) _).2.2.2.1 (b + 179) i = _
        rw [sA_at, va_cpy0 _ _ hi]
        exact congrFun (a6 2 (by decide)) i
  have o6 : Off (fun o => o = b ∨ b + 7 ≤ o ∧ o < b + 180) x y9 := Off_trans (Off_trans o3 (Off_mono q2 (fun o q => by omega))) (Off_mono w2 (fun o q => by omega))
  have o7 : Off (fun o => o = b ∨ b + 177 ≤ o ∧ o < b + 180) y3 y9 := Off_trans (Off_mono q2 (fun o q => by omega)) (Off_mono w2 (fun o q => by omega))
  have ib : ∀ k, y9.1 b k = y6.1 b k := fun k => by rw [(w2 b (by omega)).1]
  refine ⟨y9, cV_of ?_, o6, h1, ⟨t, ?_, t2, t3, ?_⟩, SQ_trans (gSt_off o7 (fun o q1 q2 => by omega)) s3, PaOK_off o7 (fun o q1 q2 => by omega) p3, ?_, ?_, ?_, fun j hj i hi => ?_⟩
  · show RS (ZZ L xs) (d + 3) mX6_copyFrom 0 [some (.ref b), some (.ref e)] [] _ = _
    have f1 : ∀ k, (sI y3 b 3 (x.1 e 3)).1 e k = x.1 e k := fun k => by
      show (if e = b ∧ k = 3 then _ else y3.1 e k) = _
      rw [if_neg (by omega), i3]
    have f2 : ∀ k, (sI (sI y3 b 3 (x.1 e 3)) b 4 (x.1 e 4)).1 e k = x.1 e k := fun k => by
      show (if e = b ∧ k = 4 then _ else (sI y3 b 3 (x.1 e 3)).1 e k) = _
      rw [if_neg (by omega), f1]
    rw [bX6_copyFrom_0 (hv1 := rfl), ht, some_bind', Scw_town h1, some_bind']
    simp only [Sc_state h1, Sc_past h1, Sc_force h1, Sc_x h1, Sc_notes h1, Sc_noteHour h1, Sc_noteStranger h1, Sc_notePerson h1, Scw_town h1, Scw_force h1, Scw_x h1, Scw_notes h1, Sc_is h1, Sce_noteHour h1, Sce_noteStranger h1, Sce_notePerson h1, Scu_noteHour h1, Scu_noteStranger h1, Scu_notePerson h1, Sc_state h2, Sc_past h2, Sc_force h2, Sc_x h2, Sc_notes h2, Sc_noteHour h2, Sc_noteStranger h2, Sc_notePerson h2, Scw_town h2, Scw_force h2, Scw_x h2, Scw_notes h2, Sc_is h2, Sce_noteHour h2, Sce_noteStranger h2, Sce_notePerson h2, Scu_noteHour h2, Scu_noteStranger h2, Scu_notePerson h2, some_bind', St_is h1.2.2.2.2.1, hcs, Pa_is h1.2.2.2.2.2, p1, i3, f1, f2]
    rw [← q1]
    simp only [Sc_state h1, Sc_past h1, Sc_force h1, Sc_x h1, Sc_notes h1, Sc_noteHour h1, Sc_noteStranger h1, Sc_notePerson h1, Scw_town h1, Scw_force h1, Scw_x h1, Scw_notes h1, Sc_is h1, Sce_noteHour h1, Sce_noteStranger h1, Sce_notePerson h1, Scu_noteHour h1, Scu_noteStranger h1, Scu_notePerson h1, Sc_state h2, Sc_past h2, Sc_force h2, Sc_x h2, Sc_notes h2, Sc_noteHour h2, Sc_noteStranger h2, Sc_notePerson h2, Scw_town h2, Scw_force h2, Scw_x h2, Scw_notes h2, Sc_is h2, Sce_noteHour h2, Sce_noteStranger h2, Sce_notePerson h2, Scu_noteHour h2, Scu_noteStranger h2, Scu_notePerson h2, some_bind', c7, c8, c9]
  · rw [(w2 b (by omega)).2.2.1, q6]
    exact r3
  · rw [gTo_off o6 (t := t) (fun o u1 u2 => hto t o t2 t3 u1 u2)]
    exact t4
  · rw [ib, q3]; exact e5
  · rw [ib, q4]; exact e6
  · rw [ib, q5]; exact e7
  · rw [w3 j hj i (by omega)]
    exact e8 j hj i hi
end COPY
/-! new cells -/
def blkC (y : ST) (n : Nat) (l : PH) (e : List Sh) : Prop := l = e.mapIdx (fun i s => cell y (n + i) s)
theorem blk_len {y : ST} {n : Nat} {l : PH} {e : List Sh} (h : blkC y n l e) : l.length = e.length := by
  rw [h, List.length_mapIdx]
theorem blk_app {y : ST} {n : Nat} {l1 l2 : PH} {e1 e2 : List Sh} (h1 : blkC y n l1 e1) (h2 : blkC y (n + e1.length) l2 e2) : blkC y n (l1 ++ l2) (e1 ++ e2) := by
  unfold blkC at *
  rw [List.mapIdx_append, ← h1, h2]
  congr 1
  apply List.ext_getElem?
  intro i
  rw [List.getElem?_mapIdx, List.getElem?_mapIdx]
  cases e2[i]? with
  | none => rfl
  | some s =>
    show some (cell y (n + e1.length + i) s) = some (cell y (n + (i + e1.length)) s)
    rw [show n + e1.length + i = n + (i + e1.length) by omega]
theorem HP_blk {sh e : List Sh} {y y' : ST} {l : PH} (h1 : Off (fun o => sh.length ≤ o) y y') (h2 : blkC y' sh.length l e) : HP sh y ++ l = HP (sh ++ e) y' := by
  unfold HP
  rw [List.mapIdx_append]
  have e1 : sh.mapIdx (fun i s => cell y i s) = sh.mapIdx (fun i s => cell y' i s) := by
    apply List.ext_getElem?
    intro i
    rw [List.getElem?_mapIdx, List.getElem?_mapIdx]
    cases hs : sh[i]? with
    | none => rfl
    | some s =>
      have hl : i < sh.length := (List.getElem?_eq_some_iff.mp hs).1
      obtain ⟨a1, a2, a3, a4, a5, a6⟩ := h1 i (by omega)
      refine congrArg some ?_
      cases s with
      | inl q =>
        obtain ⟨t, n⟩ := q
        unfold cell
        rw [a4, a5, a6]
      | inr q =>
        obtain ⟨ci, fs⟩ := q
        show Sum.inr (ci, fs.mapIdx (fun k q => fV y i k q)) = Sum.inr (ci, fs.mapIdx (fun k q => fV y' i k q))
        have : (fun k q => fV y i k q) = (fun k q => fV y' i k q) := by
          funext k q
          unfold fV
          rw [a1, a2, a3]
        rw [this]
  rw [e1, h2]
  congr 1
  apply List.ext_getElem?
  intro i
  rw [List.getElem?_mapIdx, List.getElem?_mapIdx]
  cases e[i]? with
  | none => rfl
  | some s =>
    show some (cell y' (sh.length + i) s) = some (cell y' (i + sh.length) s)
    rw [Nat.add_comm]
/-- the store with blank cells from n on -/
def bl (y : ST) (n : Nat) (I : Nat → Nat → Int32) (R : Nat → Nat → Value) (A : Nat → Nat → Option Nat) : ST := ((fun o k => if o < n then y.1 o k else I o k), (fun o k => if o < n then y.2.1 o k else 0), (fun o k => if o < n then y.2.2.1 o k else R o k), (fun a => if a < n then y.2.2.2.1 a else fun _ => 0), (fun a => if a < n then y.2.2.2.2.1 a else fun _ => 0), fun a => if a < n then y.2.2.2.2.2 a else A a)
theorem Off_bl (y : ST) (n : Nat) (I : Nat → Nat → Int32) (R : Nat → Nat → Value) (A : Nat → Nat → Option Nat) : Off (fun o => n ≤ o) y (bl y n I R A) := fun o ho => by
  have ho : o < n := Nat.lt_of_not_le ho
  refine ⟨?_, ?_, ?_, ?_, ?_, ?_⟩
  · funext k
    exact if_pos ho
  · funext k
    exact if_pos ho
  · funext k
    exact if_pos ho
  · exact if_pos ho
  · exact if_pos ho
  · exact if_pos ho
section BL
variable {y : ST} {n : Nat} {I : Nat → Nat → Int32} {R : Nat → Nat → Value} {A : Nat → Nat → Option Nat}
theorem bl_I {o : Nat} (h : n ≤ o) (k : Nat) : (bl y n I R A).1 o k = I o k := if_neg (by omega)
theorem bl_J {o : Nat} (h : n ≤ o) (k : Nat) : (bl y n I R A).2.1 o k = 0 := if_neg (by omega)
theorem bl_R {o : Nat} (h : n ≤ o) (k : Nat) : (bl y n I R A).2.2.1 o k = R o k := if_neg (by omega)
theorem bl_A {o : Nat} (h : n ≤ o) : (bl y n I R A).2.2.2.1 o = fun _ => 0 := if_neg (by omega)
theorem bl_AR {o : Nat} (h : n ≤ o) : (bl y n I R A).2.2.2.2.2 o = A o := if_neg (by omega)
theorem trn_0 (n : Nat) : trn (0 : Int32) n (fun _ => 0) = fun _ => 0 := by
  funext k
  unfold trn
  split <;> rfl
theorem cell_bl {a m : Nat} (h : n ≤ a) : cell (bl y n I R A) a (.inl (0, m)) = nwAr 0 m := by
  rw [cell_int', bl_A h, trn_0]
  rfl
end BL
def shSt (b : Nat) : List Sh := [.inr (7, [(0, 0), (0, 0), (0, 0), (1, 0), (2, b + 1), (2, b + 2), (2, b + 3), (2, b + 4), (2, b + 5), (2, b + 6), (2, b + 7)]), .inl (0, 6), .inl (0, 6), .inl (0, 6), .inl (0, 6), .inl (0, 6), .inl (0, 5), .inl (0, 30)]
def shTo (b : Nat) : List Sh := [.inr (9, [(0, 0), (0, 0), (0, 0), (0, 0), (1, 0), (0, 0), (2, b + 1), (2, b + 2), (2, b + 3), (2, b + 4), (2, b + 5)]), .inl (0, 6), .inl (0, 6), .inl (0, 5), .inl (0, 5), .inl (0, 5)]
def shRu (b : Nat) : List Sh := [.inr (4, [(0, 0), (2, b + 1), (2, b + 2), (0, 0), (2, b + 3), (2, b + 4), (0, 0), (0, 0), (2, b + 5), (2, b + 6)]), .inl (0, 60), .inl (0, 60), .inl (0, 60), .inl (0, 60), .inl (0, 256), .inl (0, 256)]
def shPs (b : Nat) : Nat → List Sh
  | 0 => []
  | i + 1 => shPs b i ++ shSt (b + 2 + 8 * i)
theorem shPs_len (b i : Nat) : (shPs b i).length = 8 * i := by
  induction i with
  | zero => rfl
  | succ i ih =>
    show (shPs b i ++ shSt (b + 2 + 8 * i)).length = _
    rw [List.length_append, ih]
    show 8 * i + 8 = _
    omega
def shPa (b : Nat) : List Sh := [.inr (3, [(0, 0), (0, 0), (2, b + 1)]), .inl (5, 20)] ++ shPs b 20
def shSc (b : Nat) : List Sh := [.inr (6, [(3, 0), (2, b + 7), (2, b + 15), (0, 0), (0, 0), (0, 0), (2, b + 177), (2, b + 178), (2, b + 179)])] ++ (shTo (b + 1) ++ (shSt (b + 7) ++ (shPa (b + 15) ++ [.inl (0, 10), .inl (0, 10), .inl (0, 10)])))
section BLK
variable {y : ST} {n : Nat} {I : Nat → Nat → Int32} {R : Nat → Nat → Value} {A : Nat → Nat → Option Nat}
theorem blk_1 {y : ST} {b : Nat} {c : PE} {s : Sh} (h : c = cell y b s) : blkC y b [c] [s] := by
  unfold blkC
  rw [h]
  rfl
theorem blk_cons {y : ST} {b : Nat} {c : PE} {s : Sh} {l : PH} {e : List Sh} (h : c = cell y b s) (h2 : blkC y (b + 1) l e) : blkC y b (c :: l) (s :: e) := blk_app (l1 := [c]) (e1 := [s]) (blk_1 h) h2
theorem blk_nil (y : ST) (b : Nat) : blkC y b [] [] := rfl
theorem blk_St {b : Nat} (hb : n ≤ b) (h0 : I b 0 = 0) (h1 : I b 1 = -1) (h2 : I b 2 = 0) : blkC (bl y n I R A) b (stC b) (shSt b) := by
  refine blk_cons ?_ (blk_cons ?_ (blk_cons ?_ (blk_cons ?_ (blk_cons ?_ (blk_cons ?_ (blk_cons ?_ (blk_cons ?_ (blk_nil _ _))))))))
  · show _ = Sum.inr (7, [Value.int ((bl y n I R A).1 b 0), Value.int ((bl y n I R A).1 b 1), Value.int ((bl y n I R A).1 b 2), Value.long ((bl y n I R A).2.1 b 3), .ref (b + 1), .ref (b + 2), .ref (b + 3), .ref (b + 4), .ref (b + 5), .ref (b + 6), .ref (b + 7)])
    rw [bl_I hb, bl_I hb, bl_I hb, bl_J hb, h0, h1, h2]
  all_goals exact (cell_bl (by omega)).symm
theorem blk_To {b : Nat} (hb : n ≤ b) (h : ∀ k, I b k = 0) : blkC (bl y n I R A) b (toC b) (shTo b) := by
  refine blk_cons ?_ (blk_cons ?_ (blk_cons ?_ (blk_cons ?_ (blk_cons ?_ (blk_cons ?_ (blk_nil _ _))))))
  · show _ = Sum.inr (9, [Value.int ((bl y n I R A).1 b 0), Value.int ((bl y n I R A).1 b 1), Value.int ((bl y n I R A).1 b 2), Value.int ((bl y n I R A).1 b 3), Value.long ((bl y n I R A).2.1 b 4), Value.int ((bl y n I R A).1 b 5), .ref (b + 1), .ref (b + 2), .ref (b + 3), .ref (b + 4), .ref (b + 5)])
    rw [bl_I hb, bl_I hb, bl_I hb, bl_I hb, bl_J hb, bl_I hb, h, h, h, h, h]
  all_goals exact (cell_bl (by omega)).symm
theorem blk_Ru {b : Nat} (hb : n ≤ b) (h : ∀ k, I b k = 0) : blkC (bl y n I R A) b (ruC b) (shRu b) := by
  refine blk_cons ?_ (blk_cons ?_ (blk_cons ?_ (blk_cons ?_ (blk_cons ?_ (blk_cons ?_ (blk_cons ?_ (blk_nil _ _)))))))
  · show _ = Sum.inr (4, [Value.int ((bl y n I R A).1 b 0), .ref (b + 1), .ref (b + 2), Value.int ((bl y n I R A).1 b 3), .ref (b + 3), .ref (b + 4), Value.int ((bl y n I R A).1 b 6), Value.int ((bl y n I R A).1 b 7), .ref (b + 5), .ref (b + 6)])
    rw [bl_I hb, bl_I hb, bl_I hb, bl_I hb, h, h, h, h]
  all_goals exact (cell_bl (by omega)).symm
theorem blk_Ps {b : Nat} (hb : n ≤ b) (h : ∀ i, i < 20 → I (b + 2 + 8 * i) 0 = 0 ∧ I (b + 2 + 8 * i) 1 = -1 ∧ I (b + 2 + 8 * i) 2 = 0) : ∀ i, i ≤ 20 → blkC (bl y n I R A) (b + 2) (psC b i) (shPs b i)
  | 0, _ => blk_nil _ _
  | i + 1, hi => by
    refine blk_app (blk_Ps hb h i (by omega)) ?_
    rw [shPs_len]
    obtain ⟨h0, h1, h2⟩ := h i (by omega)
    exact blk_St (by omega) h0 h1 h2
theorem blk_Pa {b : Nat} (hb : n ≤ b) (h0 : I b 0 = 0) (h1 : I b 1 = 0) (hA : A (b + 1) = fun j => if j < 20 then some (b + 2 + 8 * j) else none) (h : ∀ i, i < 20 → I (b + 2 + 8 * i) 0 = 0 ∧ I (b + 2 + 8 * i) 1 = -1 ∧ I (b + 2 + 8 * i) 2 = 0) : blkC (bl y n I R A) b (paC b) (shPa b) := by
  have hps := blk_Ps (y := y) (R := R) (A := A) hb h 20 (Nat.le_refl _)
  unfold paC shPa
  rw [List.cons_append, List.cons_append, List.nil_append]
  generalize psC b 20 = P at *
  generalize shPs b 20 = S at *
  refine blk_cons ?_ (blk_cons ?_ hps)
  · show _ = Sum.inr (3, [Value.int ((bl y n I R A).1 b 0), Value.int ((bl y n I R A).1 b 1), .ref (b + 1)])
    rw [bl_I hb, bl_I hb, h0, h1]
  · show _ = cell (bl y n I R A) (b + 1) (.inl (5, 20))
    rw [cell_ref (by omega), bl_AR (by omega), hA]
    unfold kpA
    congr
    funext j
    unfold trn
    by_cases hj : j < 20
    · rw [if_pos hj, if_pos hj]
      exact (if_pos hj).symm
    · rw [if_neg hj, if_neg hj]
end BLK
def ISc (n : Nat) : Nat → Nat → Int32 := fun o k => if k = 1 ∧ (o = n + 7 ∨ n + 17 ≤ o) then -1 else if k = 3 ∧ o = n then -1 else 0
def RSc (n : Nat) : Nat → Nat → Value := fun o _ => if o = n then .ref (n + 1) else .null
def ASc (n : Nat) : Nat → Nat → Option Nat := fun o j => if o = n + 16 then (if j < 20 then some (n + 17 + 8 * j) else none) else none
theorem blk_Sc (y : ST) (n : Nat) : blkC (bl y n (ISc n) (RSc n) (ASc n)) n (scC n) (shSc n) := by
  have hst : ∀ b, (b = n + 7 ∨ n + 17 ≤ b) → ISc n b 0 = 0 ∧ ISc n b 1 = -1 ∧ ISc n b 2 = 0 := fun b hb => by
    unfold ISc
    refine ⟨?_, ?_, ?_⟩
    · rw [if_neg (by omega), if_neg (by omega)]
    · rw [if_pos ⟨rfl, hb⟩]
    · rw [if_neg (by omega), if_neg (by omega)]
  unfold shSc scC
  rw [List.cons_append, List.nil_append]
  refine blk_cons ?_ (blk_app (l1 := toC (n + 1)) (blk_To (n := n) (b := n + 1) (Nat.le_succ n) (fun k => ?_)) (blk_app (l1 := stC (n + 7)) ?_ (blk_app (l1 := paC (n + 15)) ?_ ?_)))
  · show scO n = Sum.inr (6, [(bl y n (ISc n) (RSc n) (ASc n)).2.2.1 n 0, .ref (n + 7), .ref (n + 15), Value.int ((bl y n (ISc n) (RSc n) (ASc n)).1 n 3), Value.int ((bl y n (ISc n) (RSc n) (ASc n)).1 n 4), Value.int ((bl y n (ISc n) (RSc n) (ASc n)).1 n 5), .ref (n + 177), .ref (n + 178), .ref (n + 179)])
    rw [bl_R (Nat.le_refl _), bl_I (Nat.le_refl _), bl_I (Nat.le_refl _), bl_I (Nat.le_refl _)]
    unfold RSc ISc scO
    rw [if_pos rfl, if_neg (by omega), if_pos ⟨rfl, rfl⟩, if_neg (by omega), if_neg (by omega), if_neg (by omega), if_neg (by omega)]
  · unfold ISc
    rw [if_neg (by omega), if_neg (by omega)]
  · obtain ⟨h0, h1, h2⟩ := hst (n + 7) (by omega)
    exact blk_St (by omega) h0 h1 h2
  · refine blk_Pa (b := n + 15) (by omega) ?_ ?_ ?_ (fun i hi => hst _ (by omega))
    · unfold ISc
      rw [if_neg (by omega), if_neg (by omega)]
    · unfold ISc
      rw [if_neg (by omega), if_neg (by omega)]
    · funext j
      unfold ASc
      rw [if_pos rfl]
  · have el : n + 1 + (shTo (n + 1)).length + (shSt (n + 7)).length + (shPa (n + 15)).length = n + 177 := by
      show n + 1 + 6 + 8 + ([Sum.inr (3, [(0, 0), (0, 0), (2, n + 15 + 1)]), Sum.inl (5, 20)] ++ shPs (n + 15) 20 : List Sh).length = n + 177
      rw [List.length_append, shPs_len]
      show n + 1 + 6 + 8 + (2 + 8 * 20) = n + 177
      omega
    rw [el]
    exact blk_cons (cell_bl (by omega)).symm (blk_cons (cell_bl (by omega)).symm (blk_cons (cell_bl (by omega)).symm (blk_nil _ _)))
