/-! steps that make cells -/
section SND4
variable {p : Program} {l : Launch} {e : Env} {R : Room} {s : State} {m : MethodId} {args : Array Value} {below : List Frame} {meth : Method} {c : Code} {Q : State → Prop}
variable {B : WB} {n0 z0 nL L : Nat} {xs : Nat → Int32} {M : MD} {pc : Nat} {lv : LV} {st : List Value} {ph : PH}
/-- a new cell lies right behind ours -/
theorem INV.push {H H1 : Heap} {locs locs1 : List Loc} {cells slots q : Nat} {ls : Array Slot} {e1 : PE} {g : JFrame} (I : INV s B n0 z0 nL lv ph H locs cells slots ls) (hP : va_P B.2.1 vwCl (cw B ph ++ [(q, cv B e1)]) H1) (hD : va_D (AA B) (cw B ph ++ [(q, cv B e1)])) (hS : va_S (AA B) s.heap H1 locs1)
    (kk : q = B.1 + ph.length → INV s B n0 z0 nL lv (ph ++ [e1]) H1 locs1 (cells + 1) (slots + slE e1) ls → W p l e R s m args below meth c H1 locs1 (cells + 1) (slots + slE e1) Q g) : W p l e R s m args below meth c H1 locs1 (cells + 1) (slots + slE e1) Q g := by
  refine W_sz (fun hz => ?_)
  obtain ⟨i1, i2, i3, i4, i5, i6, i7, i8⟩ := I
  have hlast : (cw B ph ++ [(q, cv B e1)])[ph.length]? = some (q, cv B e1) := by
    rw [List.getElem?_append_right (by rw [cw_len]; exact Nat.le_refl _), cw_len, Nat.sub_self]
    rfl
  have hlt : q < H1.size := (hP ph.length _ hlast).lt
  have hge : B.1 ≤ q := hD.2 _ _ hlast
  have hq : q = B.1 + ph.length := by
    rcases Nat.lt_or_ge q (B.1 + ph.length) with h | h
    · exfalso
      obtain ⟨j, hj⟩ := Nat.exists_eq_add_of_le hge
      have hjl : j < ph.length := by omega
      have hg : (cw B ph ++ [(q, cv B e1)])[j]? = some (B.1 + j, cv B ph[j]) := by
        rw [List.getElem?_append_left (by rw [cw_len]; exact hjl)]
        exact cw_of (List.getElem?_eq_getElem hjl)
      have := hD.1 _ _ _ _ hg hlast (by rw [hj])
      omega
    · omega
  refine kk hq ⟨?_, hS, i3, i4, ?_, ?_, ?_, ?_⟩
  · rw [← cw_push, ← hq]; exact hP
  · rw [List.length_append]; exact Nat.le_trans i5 (Nat.le_add_right _ _)
  · rw [sl_push]; omega
  · rw [List.length_append, List.length_singleton]; omega
  · rw [sl_push]; omega
def ndOK (Z : PT) : Prop := ∀ (o i ci : Nat) (fs : List Value), Z.2.2.1 o i = some (ci, fs) → ∃ (C : String) (T : u_T) (N : Nat), vwCl[ci]? = some (C, T, N) ∧ Cond.classLink (cn o) i C ∈ GW ∧ Cond.instantiable C N ∈ GW ∧ Cond.initialized C ∈ GW ∧ fs.length = N ∧ ∃ ty0 : Nat → FieldType, (∀ k, k < N → parseFieldDescriptor (T k).2.2.1 = some (ty0 k)) ∧ ∀ j, j < N → defaultValue (ty0 j) = vp_V fs j
theorem rv_dflt {ty : FieldType} {v : Value} (h : defaultValue ty = v) : rv B v = v := by
  subst h
  cases ty <;> rfl
theorem sn_new {Z : PT} {ix ci : Nat} {fs : List Value} (C : CX p s m args meth c M B L xs) (hN : ndOK Z) (hC : clOK) (hdg : decode M.2.2.1 pc = .ok (.new ix, 3)) (h : Z.2.2.1 M.1 ix = some (ci, fs)) (hr1 : (ph ++ [(.inr (ci, fs) : PE)]).length - n0 ≤ R.cells) (hr2 : sl (ph ++ [(.inr (ci, fs) : PE)]) - z0 ≤ R.slots)
    (k : VV p l e R s m args below meth c Q B n0 z0 nL (pc + 3) lv (.ref ph.length :: st) (ph ++ [.inr (ci, fs)])) : VV p l e R s m args below meth c Q B n0 z0 nL pc lv st ph := by
  obtain ⟨hx, hb, hml, hown, hts, hE, -⟩ := C
  obtain ⟨Cn, T, N, h1, h2, h3, h4, h5, ty0, h6, h7⟩ := hN _ _ _ _ h
  obtain ⟨g1, -, -⟩ := hC _ _ _ _ h1
  intro H locs cells slots ls I
  have hfs : fs.map (rv B) = fs := by
    apply List.ext_getElem?
    intro j
    rw [List.getElem?_map]
    cases hj : fs[j]? with
    | none => rfl
    | some v =>
      have hl : j < fs.length := (List.getElem?_eq_some_iff.mp hj).1
      have := h7 j (by omega)
      unfold vp_V at this
      rw [List.getD_eq_getElem?_getD, hj] at this
      have this : defaultValue (ty0 j) = v := this
      show some (rv B v) = some v
      rw [rv_dflt this]
  have i5 := I.2.2.2.2.1
  have i6 := I.2.2.2.2.2.1
  have i7 := I.2.2.2.2.2.2.1
  have i8 := I.2.2.2.2.2.2.2
  rw [List.length_append, List.length_singleton] at hr1
  rw [sl_push] at hr2
  have hsl : slE (.inr (ci, fs)) = N := h5
  rw [hsl] at hr2
  refine va_new (D := B.2.1) (cl := vwCl) (ws := cw B ph) (tys := tysOf B) (A := AA B) (H0 := s.heap) (own := cn M.1) (C := Cn) (T := T) (N := N) (ci := ci) (fs := fs) hx hb hts g1 ty0 h6 hown (hts _ h2) (hts _ h3) (hts _ h4) hE.1 I.1 (cw_D B ph) I.2.1 (fun q h => ?_) h1 h7 (by omega) (by omega) hdg (fun q H1 hP hD hS => ?_)
  · rw [I.2.2.2.1] at h
    exact Nat.le_trans (Nat.le_add_right _ _) h
  · have hcv : cv B (.inr (ci, fs)) = .inr (ci, fs) := by
      show Sum.inr (ci, fs.map (rv B)) = _
      rw [hfs]
    rw [← hcv] at hP hD
    rw [← hsl]
    refine I.push hP hD hS (fun hq I2 => ?_)
    rw [hq]
    exact k H1 locs _ _ ls I2
theorem sn_newa {t bs : Nat} {at_ : ArrayType} {y : CF} (C : CX p s m args meth c M B L xs) (hdg : decode M.2.2.1 pc = .ok (.newarray at_, 2)) (hw : Cond.arrayClass (newarray.typeOf at_) ∈ GW) (hbs : componentBytes (newarray.typeOf at_) = bs) (ht : (tysOf B)[t]? = some (B.2.2.1 t, newarray.typeOf at_)) (ha : ∀ (n : Nat) (e1 : PE), nwA t n = some e1 → slE e1 = n ∧ ∃ a0 : vp_A, e1 = .inl (t, a0) ∧ cvA B a0 = a0 ∧ ∀ cA : ClassId, vp_cell cA a0 = arrV cA n (fun _ => defaultValue (newarray.typeOf at_)))
    (hnm : ∀ (U : State) (cA : ClassId), va_RA U cA (newarray.typeOf at_) → U.vm.findClass ("[" ++ (newarray.typeOf at_).toString) = some cA)
    (h : oNewA t bs pc lv st ph = some (.inr y)) (hr1 : y.2.2.2.length - n0 ≤ R.cells) (hr2 : sl y.2.2.2 - z0 ≤ R.slots)
    (k : VV p l e R s m args below meth c Q B n0 z0 nL y.1 y.2.1 y.2.2.1 y.2.2.2) : VV p l e R s m args below meth c Q B n0 z0 nL pc lv st ph := by
  obtain ⟨hx, hb, hml, hown, hts, hE, -⟩ := C
  unfold oNewA at h
  split at h
  · rename_i n st0
    split at h
    · rename_i hn
      split at h
      · rename_i e1 he1
        have hy : (pc + 2, lv, Value.ref ph.length :: st0, ph ++ [e1]) = y := Sum.inr.inj (Option.some.inj h)
        subst hy
        obtain ⟨hsl, a0, rfl, hcv, hcell⟩ := ha _ _ he1
        intro H locs cells slots ls I
        have i5 := I.2.2.2.2.1
        have i6 := I.2.2.2.2.2.1
        have i7 := I.2.2.2.2.2.2.1
        have i8 := I.2.2.2.2.2.2.2
        have hr1 : (ph ++ [(.inl (t, a0) : PE)]).length - n0 ≤ R.cells := hr1
        have hr2 : sl (ph ++ [(.inl (t, a0) : PE)]) - z0 ≤ R.slots := hr2
        rw [List.length_append, List.length_singleton] at hr1
        rw [sl_push, hsl] at hr2
        refine va_newa (D := B.2.1) (cl := vwCl) (ws := cw B ph) (tys := tysOf B) (A := AA B) (H0 := s.heap) (a0 := a0) (N' := n.toNatClampNeg) hx hb (hts _ hw) rfl hE.1 I.1 (cw_D B ph) I.2.1 (fun q h => ?_) hcell hn.1 rfl (by rw [hbs]; exact hn.2) (by omega) (by omega) hdg (fun q cA H1 hK1 hP hD hS => ?_)
        · rw [I.2.2.2.1] at h
          exact Nat.le_trans (Nat.le_add_right _ _) h
        · have e1 := (hK1.2 (tysOf B).length (cA, newarray.typeOf at_) (by simp)).2
          have e2 := (hE.1.2 t _ ht).2
          have hcA : cA = B.2.2.1 t := Option.some.inj ((hnm _ _ e1).symm.trans (hnm _ _ e2))
          subst hcA
          have hce : cv B (.inl (t, a0)) = .inl (B.2.2.1 t, a0) := by
            show Sum.inl (B.2.2.1 t, cvA B a0) = _
            rw [hcv]
          rw [← hce] at hP hD
          have hn1 : slE (.inl (t, a0)) = n.toNatClampNeg := hsl
          rw [← hn1]
          refine I.push hP hD hS (fun hq I2 => ?_)
          rw [hq]
          exact k H1 locs _ _ ls I2
      · cases h
    · cases h
  · cases h
def adOK (Z : PT) : Prop := ∀ (o i t : Nat), Z.2.2.2.1 o i = some t → (t = 4 ∧ Cond.classLink (cn o) i RX4 ∈ GW) ∨ (t = 5 ∧ Cond.classLink (cn o) i RX7 ∈ GW) ∨ (t = 6 ∧ Cond.classLink (cn o) i RX6 ∈ GW)
theorem sn_newq1 {t ix : Nat} {n : Int32} {Cn : String} (C : CX p s m args meth c M B L xs) (hdg : decode M.2.2.1 pc = .ok (.anewarray ix, 3)) (hw : Cond.classLink (cn M.1) ix Cn ∈ GW) (ht : (tysOf B)[t]? = some (B.2.2.1 t, .object Cn)) (hAO : va_AO Cn s)
    (hn : ¬ n < 0) (hbs : n.toNatClampNeg * 4 ≤ 536870912) (hr1 : (ph ++ [nwR t n.toNatClampNeg]).length - n0 ≤ R.cells) (hr2 : sl (ph ++ [nwR t n.toNatClampNeg]) - z0 ≤ R.slots)
    (k : VV p l e R s m args below meth c Q B n0 z0 nL (pc + 3) lv (.ref ph.length :: st) (ph ++ [nwR t n.toNatClampNeg])) : VV p l e R s m args below meth c Q B n0 z0 nL pc lv (.int n :: st) ph := by
  obtain ⟨hx, hb, hml, hown, hts, hE, -⟩ := C
  intro H locs cells slots ls I
  have i5 := I.2.2.2.2.1
  have i6 := I.2.2.2.2.2.1
  have i7 := I.2.2.2.2.2.2.1
  have i8 := I.2.2.2.2.2.2.2
  have hsl : slE (nwR t n.toNatClampNeg) = n.toNatClampNeg := rfl
  rw [List.length_append, List.length_singleton] at hr1
  rw [sl_push, hsl] at hr2
  refine va_newq (D := B.2.1) (cl := vwCl) (ws := cw B ph) (tys := tysOf B) (A := AA B) (H0 := s.heap) (own := cn M.1) (C := Cn) (N' := n.toNatClampNeg) hx hb hown (hts _ hw) hAO hE.1 I.1 (cw_D B ph) I.2.1 (fun q h => ?_) hn rfl hbs (by omega) (by omega) hdg (fun q cA H1 hK1 hP hD hS => ?_)
  · rw [I.2.2.2.1] at h
    exact Nat.le_trans (Nat.le_add_right _ _) h
  · obtain ⟨_, _, -, -, -, e1⟩ := (hK1.2 (tysOf B).length (cA, .object Cn) (by simp)).2
    obtain ⟨_, _, -, -, -, e2⟩ := (hE.1.2 t _ ht).2
    have hcA : cA = B.2.2.1 t := Option.some.inj (e1.symm.trans e2)
    subst hcA
    have hce : cv B (nwR t n.toNatClampNeg) = .inl (B.2.2.1 t, n.toNatClampNeg, .inr (.inr (.inr (.inr (fun _ => none))))) := rfl
    rw [← hce] at hP hD
    rw [← hsl]
    refine I.push hP hD hS (fun hq I2 => ?_)
    rw [hq]
    exact k H1 locs _ _ ls I2
theorem sn_copy {ix : Nat} {n dp sp : Int32} {d o : Nat} {ph' : PH} (C : CX p s m args meth c M B L xs) (hdg : decode M.2.2.1 pc = .ok (.invokestatic ix, 3)) (hw : Cond.methodLink (cn M.1) ix arraycopyName ∈ GW ∧ Cond.native arraycopyName ∈ GW ∧ Cond.static arraycopyName ∈ GW ∧ Cond.initialized "java/lang/System" ∈ GW)
    (hnL : M.2.2.2.1 = nL) (hR : 1 ≤ R.frames ∧ 40 ≤ R.locals) (hcat : catS st ≤ 8) (h : cpy ph o sp d dp n = some ph')
    (k : VV p l e R s m args below meth c Q B n0 z0 nL (pc + 3) lv st ph') : VV p l e R s m args below meth c Q B n0 z0 nL pc lv (.int n :: .int dp :: .ref d :: .int sp :: .ref o :: st) ph := by
  obtain ⟨hx, hb, hml, hown, hts, hE, -⟩ := C
  unfold cpy at h
  split at h
  · rename_i n0' f n1 g hc0 hc1
    split at h
    · rename_i hcc
      obtain ⟨q1, q2, q3, q4, q5⟩ := hcc
      cases h
      intro H locs cells slots ls I
      refine va_copyi (D := B.2.1) (cl := vwCl) (ws := cw B ph) (tys := tysOf B) (A := AA B) (H0 := s.heap) (own := cn M.1) (ty := .int) hx hb (by rw [hml, hnL, I.2.2.1.2.1]) hown (hts _ hw.1) (hts _ hw.2.1) (hts _ hw.2.2.1) (hts _ hw.2.2.2) hE.1 I.1 (cw_D B ph) I.2.1 o d 0 0 (cw_of hc0) (cw_of hc1) rfl rfl rfl q1 q2 q3 q4 q5 (fun _ _ => rfl) hR.1 ?_ hdg (fun H1 locs1 hP _ hS => k H1 locs1 cells slots ls (I.set hc1 rfl hP hS))
      rw [catS_rv]
      have : nativeFrameWords "java/lang/System" "arraycopy" 5 = 7 := by decide
      rw [this]
      omega
    · cases h
  · cases h
theorem sn_obj {ix : Nat} {b : Nat} (C : CX p s m args meth c M B L xs) (hdg : decode M.2.2.1 pc = .ok (.invokespecial ix, 3)) (hw : Cond.methodLink (cn M.1) ix objectInit ∈ GW ∧ Cond.instanceMethod objectInit ∈ GW ∧ Cond.code objectInit ⟨#[0xb1]⟩ 1 none ∈ GW)
    (hnL : M.2.2.2.1 = nL) (hR : 1 ≤ R.frames ∧ 40 ≤ R.locals) (hcat : catS st ≤ 8)
    (k : VV p l e R s m args below meth c Q B n0 z0 nL (pc + 3) lv st ph) : VV p l e R s m args below meth c Q B n0 z0 nL pc lv (.ref b :: st) ph := by
  obtain ⟨hx, hb, hml, hown, hts, hE, -⟩ := C
  intro H locs cells slots ls I
  refine W.objInit hx hb hown (hts _ hw.1) (hts _ hw.2.1) (hts _ hw.2.2) rfl (by rw [hml, hnL]; exact I.2.2.1.2.1) rfl hdg hR.1 ?_ ?_
  · show 2 * 0 + _ + 12 ≤ _
    rw [catS_rv]
    omega
  · exact W.eq (g2 := F0 m (pc + 3) ls (st.map (rv B))) rfl (k H locs cells slots ls I)
end SND4
