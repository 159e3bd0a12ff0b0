/-! THE PURE MACHINE TELLS OF THE REAL ONE: the judgement, and the steps that leave the cells as they are -/
def cn (k : Nat) : String := ([RX0, RX1, RX2, RX3, RX4, RX5, RX6, RX7, RX8, RX9, RX10, RX11, RX12, RX13, RL, "java/util/Arrays", "java/lang/Math"] : List String).getD k ""
def SE (B : WB) (U : State) (H : Heap) : Prop := (∀ (k : Nat) (q : String × Nat × String), strL[k]? = some q → vk_R q.1 q.2.1 q.2.2 (B.2.2.2.1 (k + 1)) U) ∧ vk_S 30 sLen sByt (fun k => B.2.2.2.1 (k + 1)) B.2.2.2.2 (AA B) U H ∧ va_Z "java/lang/String" "COMPACT_STRINGS" "Z" (.int 1) (AA B) U H ∧ va_Zq "jdk/internal/util/Preconditions" "SIOOBE_FORMATTER" "Ljava/util/function/BiFunction;" (AA B) U H
def ENV (B : WB) (L : Nat) (xs : Nat → Int32) (U : State) (H : Heap) : Prop :=
  va_K B.2.1 vwCl (tysOf B) U ∧ (∀ q ∈ nestL, va_Nw (.methodLinkNest q.1 q.2.1 q.2.2.1 q.2.2.2) U) ∧ (va_AO RX4 U ∧ va_AO RX7 U ∧ va_AO RX6 U) ∧ (va_X (B.2.2.2.1 0) L xs U H ∧ B.2.2.2.1 0 < B.1) ∧ SE B U H
def CX (p : Program) (s : State) (m : MethodId) (args : Array Value) (meth : Method) (c : Code) (M : MD) (B : WB) (L : Nat) (xs : Nat → Int32) : Prop :=
  p.tables.exec = Jvm.exec ∧ c.code = M.2.2.1 ∧ c.maxLocals = M.2.2.2.1 ∧ s.vm.findClass (cn M.1) = some m.cls ∧ (∀ w ∈ GW, w.before args s = true) ∧ ENV B L xs s s.heap ∧ meth.locks = false ∧ meth.sig.returnType = M.2.2.2.2.1 ∧ meth.name = M.2.1.name
def INV (s : State) (B : WB) (n0 z0 nL : Nat) (lv : LV) (ph : PH) (H : Heap) (locs : List Loc) (cells slots : Nat) (ls : Array Slot) : Prop :=
  va_P B.2.1 vwCl (cw B ph) H ∧ va_S (AA B) s.heap H locs ∧ LH B nL lv ls ∧ s.heap.size = B.1 + n0 ∧ n0 ≤ ph.length ∧ z0 ≤ sl ph ∧ cells = ph.length - n0 ∧ slots = sl ph - z0
def VV (p : Program) (l : Launch) (e : Env) (R : Room) (s : State) (m : MethodId) (args : Array Value) (below : List Frame) (meth : Method) (c : Code) (Q : State → Prop) (B : WB) (n0 z0 nL : Nat) (pc : Nat) (lv : LV) (st : List Value) (ph : PH) : Prop :=
  ∀ (H : Heap) (locs : List Loc) (cells slots : Nat) (ls : Array Slot), INV s B n0 z0 nL lv ph H locs cells slots ls → W p l e R s m args below meth c H locs cells slots Q (F0 m pc ls (st.map (rv B)))
theorem tg_eq {pc t : Nat} {off : Int} (h : tg pc off = some t) : (pc : Int) + off = (t : Int) := by
  unfold tg at h
  split at h
  · rename_i u hu
    cases h
    exact hu
  · cases h
section SND
variable {p : Program} {l : Launch} {e : Env} {R : Room} {s : State} {m : MethodId} {args : Array Value} {below : List Frame} {meth : Method} {c : Code} {Q : State → Prop}
variable {B : WB} {n0 z0 nL L : Nat} {xs : Nat → Int32} {M : MD} {pc : Nat} {lv : LV} {st : List Value} {ph : PH}
theorem W_sz {H : Heap} {locs : List Loc} {cells slots : Nat} {g : JFrame} (k : H.size ≤ s.heap.size + cells → W p l e R s m args below meth c H locs cells slots Q g) : W p l e R s m args below meth c H locs cells slots Q g := fun T hT X => k (by
  have h : T.heap.size ≤ s.heap.size + cells := X.same.2.2.1
  rw [← hT]
  exact h) T hT X
theorem sn_mask (k : VV p l e R s m args below meth c Q B n0 z0 nL pc (mK M pc lv) st ph) : VV p l e R s m args below meth c Q B n0 z0 nL pc lv st ph := fun H locs cells slots ls I => k H locs cells slots ls ⟨I.1, I.2.1, I.2.2.1.mask M pc, I.2.2.2⟩
theorem iLd_inv {i pc' : Nat} {y : CF} (h : iLd lv i pc' st ph = some (.inr y)) : ∃ x, gL lv i = some (.int x) ∧ y = (pc', lv, .int x :: st, ph) := by
  unfold iLd at h
  split at h
  · rename_i x hx
    exact ⟨x, hx, (Sum.inr.inj (Option.some.inj h)).symm⟩
  · cases h
theorem lLd_inv {i pc' : Nat} {y : CF} (h : lLd lv i pc' st ph = some (.inr y)) : ∃ x, gL lv i = some (.long x) ∧ y = (pc', lv, .long x :: st, ph) := by
  unfold lLd at h
  split at h
  · rename_i x hx
    exact ⟨x, hx, (Sum.inr.inj (Option.some.inj h)).symm⟩
  · cases h
theorem aLd_inv {i pc' : Nat} {y : CF} (h : aLd lv i pc' st ph = some (.inr y)) : ∃ v, gL lv i = some v ∧ y = (pc', lv, v :: st, ph) ∧ ((∃ q, rv B v = .ref q) ∨ rv B v = .null) := by
  unfold aLd at h
  split at h
  · rename_i x hx
    exact ⟨_, hx, (Sum.inr.inj (Option.some.inj h)).symm, Or.inl ⟨_, rfl⟩⟩
  · rename_i hx
    exact ⟨_, hx, (Sum.inr.inj (Option.some.inj h)).symm, Or.inr rfl⟩
  · rename_i x hx
    exact ⟨_, hx, (Sum.inr.inj (Option.some.inj h)).symm, Or.inl ⟨_, rfl⟩⟩
  · cases h
theorem iSt_inv {i pc' : Nat} {y : CF} (h : iSt lv i pc' st ph = some (.inr y)) : ∃ x st0, st = .int x :: st0 ∧ i < lv.length ∧ y = (pc', s1 lv i (.int x), st0, ph) := by
  unfold iSt at h
  split at h
  · rename_i x st0
    split at h
    · rename_i hi
      exact ⟨x, st0, rfl, hi, (Sum.inr.inj (Option.some.inj h)).symm⟩
    · cases h
  · cases h
theorem lSt_inv {i pc' : Nat} {y : CF} (h : lSt lv i pc' st ph = some (.inr y)) : ∃ x st0, st = .long x :: st0 ∧ i + 1 < lv.length ∧ y = (pc', s2 lv i (.long x), st0, ph) := by
  unfold lSt at h
  split at h
  · rename_i x st0
    split at h
    · rename_i hi
      exact ⟨x, st0, rfl, hi, (Sum.inr.inj (Option.some.inj h)).symm⟩
    · cases h
  · cases h
theorem aSt_inv {i pc' : Nat} {y : CF} (h : aSt lv i pc' st ph = some (.inr y)) : ∃ v st0, st = v :: st0 ∧ i < lv.length ∧ y = (pc', s1 lv i v, st0, ph) ∧ ((∃ q, rv B v = .ref q) ∨ rv B v = .null) := by
  unfold aSt at h
  split at h
  · split at h
    · rename_i x st0 hi
      exact ⟨_, st0, rfl, hi, (Sum.inr.inj (Option.some.inj h)).symm, Or.inl ⟨_, rfl⟩⟩
    · cases h
  · split at h
    · rename_i st0 hi
      exact ⟨_, st0, rfl, hi, (Sum.inr.inj (Option.some.inj h)).symm, Or.inr rfl⟩
    · cases h
  · split at h
    · rename_i x st0 hi
      exact ⟨_, st0, rfl, hi, (Sum.inr.inj (Option.some.inj h)).symm, Or.inl ⟨_, rfl⟩⟩
    · cases h
  · cases h
theorem bI_inv {f : Int32 → Int32 → Int32} {pc' : Nat} {y : CF} (h : bI f pc' lv st ph = some (.inr y)) : ∃ a b st0, st = .int b :: .int a :: st0 ∧ y = (pc', lv, .int (f a b) :: st0, ph) := by
  unfold bI at h
  split at h
  · exact ⟨_, _, _, rfl, (Sum.inr.inj (Option.some.inj h)).symm⟩
  · cases h
theorem bL_inv {f : Int64 → Int64 → Int64} {pc' : Nat} {y : CF} (h : bL f pc' lv st ph = some (.inr y)) : ∃ a b st0, st = .long b :: .long a :: st0 ∧ y = (pc', lv, .long (f a b) :: st0, ph) := by
  unfold bL at h
  split at h
  · exact ⟨_, _, _, rfl, (Sum.inr.inj (Option.some.inj h)).symm⟩
  · cases h
theorem bLI_inv {f : Int64 → Int32 → Int64} {pc' : Nat} {y : CF} (h : bLI f pc' lv st ph = some (.inr y)) : ∃ a b st0, st = .int b :: .long a :: st0 ∧ y = (pc', lv, .long (f a b) :: st0, ph) := by
  unfold bLI at h
  split at h
  · exact ⟨_, _, _, rfl, (Sum.inr.inj (Option.some.inj h)).symm⟩
  · cases h
theorem brI_inv {P : Int32 → Int32 → Bool} {off : Int} {y : CF} (h : brI P off pc lv st ph = some (.inr y)) : ∃ (a b : Int32) (st0 : List Value) (t : Nat), st = .int b :: .int a :: st0 ∧ (pc : Int) + off = (t : Int) ∧ y = (if P a b = true then t else pc + 3, lv, st0, ph) := by
  unfold brI at h
  split at h
  · rename_i b a st0
    split at h
    · rename_i t ht
      refine ⟨a, b, st0, t, rfl, tg_eq ht, ?_⟩
      cases hp : P a b with
      | true => rw [hp] at h; exact (Sum.inr.inj (Option.some.inj h)).symm
      | false => rw [hp] at h; exact (Sum.inr.inj (Option.some.inj h)).symm
    · cases h
  · cases h
theorem brZ_inv {P : Int32 → Bool} {off : Int} {y : CF} (h : brZ P off pc lv st ph = some (.inr y)) : ∃ (a : Int32) (st0 : List Value) (t : Nat), st = .int a :: st0 ∧ (pc : Int) + off = (t : Int) ∧ y = (if P a = true then t else pc + 3, lv, st0, ph) := by
  unfold brZ at h
  split at h
  · rename_i a st0
    split at h
    · rename_i t ht
      refine ⟨a, st0, t, rfl, tg_eq ht, ?_⟩
      cases hp : P a with
      | true => rw [hp] at h; exact (Sum.inr.inj (Option.some.inj h)).symm
      | false => rw [hp] at h; exact (Sum.inr.inj (Option.some.inj h)).symm
    · cases h
  · cases h
end SND
