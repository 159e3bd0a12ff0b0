/-! calls and ends -/
theorem ENV.warm {B : WB} {L : Nat} {xs : Nat → Int32} {s U : State} {H : Heap} (h : ENV B L xs s H) (hW : s.WarmedH U.vm) : ENV B L xs U H :=
  ⟨va_K.moved hW.alike h.1, fun q hq => va_Nw.warmM hW (h.2.1 q hq), ⟨va_AO.moved hW.alike h.2.2.1.1, va_AO.moved hW.alike h.2.2.1.2.1, va_AO.moved hW.alike h.2.2.1.2.2⟩, ⟨va_X.moved hW.alike h.2.2.2.1.1, h.2.2.2.1.2⟩, fun k q hq => vk_R.warm hW (h.2.2.2.2.1 k q hq), vk_S.moved hW.alike h.2.2.2.2.2.1, va_Z.moved hW.alike h.2.2.2.2.2.2.1, va_Zq.moved hW.alike h.2.2.2.2.2.2.2⟩
theorem ENV.call {B : WB} {L : Nat} {xs : Nat → Int32} {U : State} {H : Heap} (h : ENV B L xs U H) (g : JFrame) (mk : MethodId) (a : Array Value) : ENV B L xs (U.calling g mk a) H :=
  have hA : U.vm.Alike (U.calling g mk a).vm := Vm.Alike.refl U.vm
  ⟨va_K.moved (u := U) (U := U.calling g mk a) hA h.1, fun q hq => va_Nw.same (u := U) (U := U.calling g mk a) rfl rfl (h.2.1 q hq), ⟨va_AO.moved (u := U) (U := U.calling g mk a) hA h.2.2.1.1, va_AO.moved (u := U) (U := U.calling g mk a) hA h.2.2.1.2.1, va_AO.moved (u := U) (U := U.calling g mk a) hA h.2.2.1.2.2⟩, ⟨va_X.moved (u := U) (U := U.calling g mk a) hA h.2.2.2.1.1, h.2.2.2.1.2⟩, fun k q hq => vk_R.same (u := U) (U := U.calling g mk a) rfl (h.2.2.2.2.1 k q hq), vk_S.moved (u := U) (U := U.calling g mk a) hA h.2.2.2.2.2.1, va_Z.moved (u := U) (U := U.calling g mk a) hA h.2.2.2.2.2.2.1, va_Zq.moved (u := U) (U := U.calling g mk a) hA h.2.2.2.2.2.2.2⟩
theorem ENV.keep {B : WB} {L : Nat} {xs : Nat → Int32} {U : State} {H H1 : Heap} (h : ENV B L xs U H) (hq : ∀ q : Nat, q < H.size → ¬ AA B q → H1[q]? = H[q]?) : ENV B L xs U H1 := by
  obtain ⟨h1, h2, h3, ⟨h4, h5⟩, h6, h7, h8, h9⟩ := h
  refine ⟨h1, h2, h3, ⟨h4.kept (hq _ ?_ (Nat.not_le.mpr h5)), h5⟩, h6, h7.kept hq, h8.kept hq, h9.kept hq⟩
  obtain ⟨scr, hs, -⟩ := h4
  exact (Array.getElem?_eq_some_iff.mp hs).1
def rmD (d mc ms : Nat) : Room := { frames := d + 10, cells := mc, slots := ms, locals := d * 48 + 480 }
def mws (M : MD) : List Cond := Cond.code M.2.1 M.2.2.1 M.2.2.2.1 M.2.2.2.2.1 :: GW
def PcD (B : WB) (L : Nat) (xs : Nat → Int32) (as : List Value) (ph : PH) : Array Value → State → Prop := fun a U => a = (as.map (rv B)).toArray ∧ va_P B.2.1 vwCl (cw B ph) U.heap ∧ U.heap.size = B.1 + ph.length ∧ ENV B L xs U U.heap
def QcD (B : WB) (phE : PH) (r : Option Value) : Array Value → State → Outcome → State → Prop := fun _ st o t => o = .returned (r.map (rv B)) ∧ va_P B.2.1 vwCl (cw B phE) t.heap ∧ t.heap.size = B.1 + phE.length ∧ va_F (AA B) st t
def CT (l : Launch) (B : WB) (L : Nat) (xs : Nat → Int32) (d : Nat) (M : MD) (as : List Value) (ph phE : PH) (r : Option Value) : Prop :=
  Met l M.2.1 (mws M) (rmD d (phE.length - ph.length) (sl phE - sl ph)) (PcD B L xs as ph) (QcD B phE r) (phE.length - ph.length) (sl phE - sl ph) (AA B)
theorem PcD_blind (B : WB) (L : Nat) (xs : Nat → Int32) (as : List Value) (ph : PH) : FrameBlind (PcD B L xs as ph) := fun a U g mk h => ⟨h.1, h.2.1, h.2.2.1, h.2.2.2.call g mk a⟩
def MOK (M : MD) : Prop := Cond.code M.2.1 M.2.2.1 M.2.2.2.1 M.2.2.2.2.1 ∈ GW ∧ plainName M.2.1.cls = true ∧ M.2.1.cls = cn M.1 ∧ M.2.2.2.1 ≤ 29 ∧ (M.2.1.cls ≠ "java/lang/invoke/MethodHandle" ∧ M.2.1.cls ≠ "java/lang/invoke/VarHandle") ∧ Cond.initialized M.2.1.cls ∈ GW
def cOK (Z : PT) : Prop := ∀ (o i kd n : Nat) (M' : MD), Z.2.1 o i = some (kd, n, M') →
  (kd = 8 → Cond.methodLink (cn o) i arraycopyName ∈ GW ∧ Cond.native arraycopyName ∈ GW ∧ Cond.static arraycopyName ∈ GW ∧ Cond.initialized "java/lang/System" ∈ GW) ∧
  (kd = 9 → Cond.methodLink (cn o) i objectInit ∈ GW ∧ Cond.instanceMethod objectInit ∈ GW ∧ Cond.code objectInit ⟨#[0xb1]⟩ 1 none ∈ GW) ∧
  (kd < 5 → MOK M' ∧ (parseMethodDescriptor M'.2.1.desc).map (fun d => d.parameters.length) = some n) ∧
  (kd = 0 → Cond.methodLink (cn o) i M'.2.1 ∈ GW ∧ Cond.instanceMethod M'.2.1 ∈ GW ∧ Cond.selects M'.2.1.cls M'.2.1 M'.2.1 ∈ GW ∧ ∃ (T : u_T) (N : Nat), vwCl[M'.1]? = some (M'.2.1.cls, T, N)) ∧
  (kd = 1 → Cond.methodLink (cn o) i M'.2.1 ∈ GW ∧ Cond.instanceMethod M'.2.1 ∈ GW ∧ M'.2.1.name = "<init>" ∧ M'.2.2.2.2.1 = none) ∧
  (kd = 2 → (∃ host, (cn o, i, M'.2.1, host) ∈ nestL) ∧ Cond.instanceMethod M'.2.1 ∈ GW ∧ M'.2.1.name = "<init>" ∧ M'.2.2.2.2.1 = none) ∧
  (kd = 3 ∨ kd = 4 → Cond.methodLink (cn o) i M'.2.1 ∈ GW ∧ Cond.static M'.2.1 ∈ GW) ∧
  (kd = 13 → Cond.methodLink (cn o) i Lib.Math.max.name ∈ GW ∧ Cond.static Lib.Math.max.name ∈ GW ∧ Cond.initialized "java/lang/Math" ∈ GW ∧ Cond.code Lib.Math.max.name Lib.Math.max.code 2 (some .int) ∈ GW) ∧
  (kd = 14 → Cond.methodLink (cn o) i Lib.Math.min.name ∈ GW ∧ Cond.static Lib.Math.min.name ∈ GW ∧ Cond.initialized "java/lang/Math" ∈ GW ∧ Cond.code Lib.Math.min.name Lib.Math.min.code 2 (some .int) ∈ GW)
theorem GW_good {w : Cond} (h : w ∈ GW) : w ∈ GW ∧ ((w.onTables && w.keeps) = true ∨ ∃ ty, w = .arrayClass ty) := ⟨h, good_of_word (List.mem_filter.mp h).2⟩
theorem mws_good {M : MD} (h : MOK M) : GoodIn GW (mws M) := fun w hw => by
  rcases List.mem_cons.mp hw with rfl | hw
  · exact GW_good h.1
  · exact GW_good hw
theorem rv_toList (B : WB) (r : Option Value) (rest : List Value) : (r.map (rv B)).toList ++ rest.map (rv B) = (r.toList ++ rest).map (rv B) := by cases r <;> rfl
section SND5
variable {p : Program} {l : Launch} {e : Env} {R : Room} {s : State} {m : MethodId} {args : Array Value} {below : List Frame} {meth : Method} {c : Code} {Q : State → Prop}
variable {B : WB} {n0 z0 nL L : Nat} {xs : Nat → Int32} {M : MD} {pc : Nat} {lv : LV} {st : List Value} {ph : PH}
theorem INV.size {H : Heap} {locs : List Loc} {cells slots : Nat} {ls : Array Slot} (I : INV s B n0 z0 nL lv ph H locs cells slots ls) (hz : H.size ≤ s.heap.size + cells) : H.size = B.1 + ph.length := by
  obtain ⟨i1, i2, i3, i4, i5, i6, i7, i8⟩ := I
  have h1 : H.size ≤ B.1 + ph.length := by omega
  have h2 : B.1 + ph.length ≤ H.size := by
    rcases Nat.eq_zero_or_pos ph.length with h0 | h0
    · have := i2.1; omega
    · have hl : ph.length - 1 < ph.length := by omega
      have := (i1 _ _ (cw_of (List.getElem?_eq_getElem hl))).lt
      have : B.1 + (ph.length - 1) < H.size := this
      omega
  omega
theorem sn_run {H : Heap} {locs : List Loc} {cells slots : Nat} {ls : Array Slot} {phE : PH} {r : Option Value} {rest st0 : List Value} {a : Array Value} (I : INV s B n0 z0 nL lv ph H locs cells slots ls) (hm : ph.length ≤ phE.length ∧ sl ph ≤ sl phE)
    (hr : va_Run p l e R s m args below meth c H locs cells slots (phE.length - ph.length) (sl phE - sl ph) (F0 m pc ls st0) (rest.map (rv B)) (QcD B phE r a) (AA B))
    (k : VV p l e R s m args below meth c Q B n0 z0 nL (pc + 3) lv (r.toList ++ rest) phE) : W p l e R s m args below meth c H locs cells slots Q (F0 m pc ls st0) := by
  obtain ⟨i1, i2, i3, i4, i5, i6, i7, i8⟩ := I
  intro T hT X
  obtain ⟨v, st₀, t, T', LL, h0, X', hL, e1, e2, ⟨hv, hp, hs, hz, hk⟩, stp⟩ := hr T hT X
  have hv : v = r.map (rv B) := by cases hv; rfl
  subst hv
  rw [h0] at hz hk
  obtain ⟨t2, a1, b1⟩ := k T'.heap (locs ++ LL) (cells + (phE.length - ph.length)) (slots + (sl phE - sl ph)) ls ⟨by rw [e1]; exact hp, ⟨Nat.le_trans i2.1 (by rw [e1]; exact hz), fun q g1 g2 => by rw [e1, hk q (Nat.lt_of_lt_of_le g1 i2.1) g2]; exact i2.2.1 q g1 g2, fun q hq => by
      rcases List.mem_append.mp hq with h | h
      · exact i2.2.2 q h
      · exact hL q h⟩, i3, i4, by omega, by omega, by omega, by omega⟩ T' rfl X'
  have hst := stp t2
  rw [rv_toList] at hst
  exact ⟨t2, hst a1, b1⟩
/-- what a callee is met with -/
theorem INV.pre {H : Heap} {locs : List Loc} {cells slots : Nat} {ls : Array Slot} {as : List Value} (C : CX p s m args meth c M B L xs) (I : INV s B n0 z0 nL lv ph H locs cells slots ls) (hz : H.size ≤ s.heap.size + cells) : ∀ U : State, U.heap = H → s.WarmedH U.vm → PcD B L xs as ph (as.map (rv B)).toArray U := by
  intro U hU hW
  have hE := C.2.2.2.2.2.1
  refine ⟨rfl, by rw [hU]; exact I.1, by rw [hU]; exact I.size hz, ?_⟩
  rw [hU]
  exact (hE.keep I.2.1.2.1).warm hW
/-- what is known of the callees -/
def HC (l : Launch) (Z : PT) (B : WB) (L : Nat) (xs : Nat → Int32) (d : Nat) : Prop := ∀ (M' : MD) (as : List Value) (ph phE : PH) (r : Option Value), MOK M' → (eA as).length ≤ M'.2.2.2.1 → CL Z d M' as ph = some (phE, r) → (ph.length ≤ phE.length ∧ sl ph ≤ sl phE) ∧ CT l B L xs d M' as ph phE r
theorem sn_call {Z : PT} {d ix : Nat} {stat : Bool} {ks : List Nat} {y : CF} (C : CX p s m args meth c M B L xs) (hZ : cOK Z) (hH : HC l Z B L xs d) (hR : d + 11 ≤ R.frames ∧ (d + 1) * 48 + 480 ≤ R.locals) (hnL : M.2.2.2.1 = nL)
    (hks : (stat = true ∧ ks = [3, 4] ∧ decode M.2.2.1 pc = .ok (.invokestatic ix, 3)) ∨ (stat = false ∧ ks = [0] ∧ decode M.2.2.1 pc = .ok (.invokevirtual ix, 3)) ∨ (stat = false ∧ ks = [1, 2] ∧ decode M.2.2.1 pc = .ok (.invokespecial ix, 3)))
    (h : oCall Z (CL Z d) M ix stat pc lv st ph ks = some (.inr y)) : (ph.length ≤ y.2.2.2.length ∧ sl ph ≤ sl y.2.2.2) ∧ (y.2.2.2.length - n0 ≤ R.cells → sl y.2.2.2 - z0 ≤ R.slots →
    VV p l e R s m args below meth c Q B n0 z0 nL y.1 y.2.1 y.2.2.1 y.2.2.2 → VV p l e R s m args below meth c Q B n0 z0 nL pc lv st ph) := by
  have C0 := C
  obtain ⟨hx, hb, hml, hown, hts, hE, -⟩ := C
  unfold oCall at h
  split at h
  · rename_i kd n M' hz
    split at h
    · rename_i hkd
      obtain ⟨-, -, z3, z4, z5, z6, z7, -⟩ := hZ _ _ _ _ _ hz
      rcases hks with ⟨rfl, rfl, hdg⟩ | ⟨rfl, rfl, hdg⟩ | ⟨rfl, rfl, hdg⟩
      · rw [if_pos rfl] at h
        split at h
        · rename_i hn
          split at h
          · rename_i ph' r hr
            have hy : (pc + 3, lv, r.toList ++ st.drop n, ph') = y := Sum.inr.inj (Option.some.inj h)
            subst hy
            have hkd4 : kd = 3 ∨ kd = 4 := by simpa using hkd
            obtain ⟨mok, hpar⟩ := z3 (by omega)
            obtain ⟨w1, w2⟩ := z7 hkd4
            obtain ⟨hm, ct⟩ := hH M' _ _ _ _ mok hn.2.2 hr
            refine ⟨hm, fun hr1 hr2 k => ?_⟩
            intro H locs cells slots ls I
            refine W_sz (fun hsz => ?_)
            refine sn_run I hm (rest := st.drop n) (a := (((st.take n).reverse).map (rv B)).toArray) ?_ k
            refine va_runS (As := ((st.take n).reverse).map (rv B)) ⟨hx, hb, hml, hown, hts⟩ ct ⟨callB_of n hts (mws_good mok) rfl rfl rfl (hts _ mok.2.2.2.2.2) (hts _ w1) ⟨mok.2.2.2.2.1.1, mok.2.2.2.2.1.2, hpar⟩ ⟨hR.1, ?_⟩, hts _ w2⟩ ⟨PcD_blind _ _ _ _ _, I.pre C0 hsz⟩ rfl ?_ ?_ ?_ ?_ hdg ?_
            · have := mok.2.2.2.1
              show 8 + (M'.2.2.2.1 + 11) + (d * 48 + 480) ≤ R.locals
              omega
            · rw [List.length_map, List.length_reverse, List.length_take]; omega
            · rw [I.2.2.1.2.1, hnL]
            · show st.map (rv B) = _
              rw [← List.map_reverse, List.reverse_reverse, ← List.map_append, List.take_append_drop]
            · exact lv_room (by rw [catS_rv]; exact hn.2.1)
            · have i7 := I.2.2.2.2.2.2.1
              have i8 := I.2.2.2.2.2.2.2
              have i5 := I.2.2.2.2.1
              have i6 := I.2.2.2.2.2.1
              have hr1 : ph'.length - n0 ≤ R.cells := hr1
              have hr2 : sl ph' - z0 ≤ R.slots := hr2
              exact ⟨by omega, by omega⟩
          · cases h
        · cases h
      · rw [if_neg (by decide)] at h
        split at h
        · rename_i b rest hdrop
          split at h
          · rename_i hn
            split at h
            · rename_i ph' r hr
              have hy : (pc + 3, lv, r.toList ++ rest, ph') = y := Sum.inr.inj (Option.some.inj h)
              subst hy
              have hkd0 : kd = 0 := by simpa using hkd
              obtain ⟨mok, hpar⟩ := z3 (by omega)
              obtain ⟨w1, w2, w3, TT, NN, w4⟩ := z4 hkd0
              obtain ⟨hm, ct⟩ := hH M' _ _ _ _ mok hn.2.2.2 hr
              obtain ⟨fs, hfs⟩ := isO_of (hn.2.2.1 hkd0)
              refine ⟨hm, fun hr1 hr2 k => ?_⟩
              intro H locs cells slots ls I
              refine W_sz (fun hsz => ?_)
              refine sn_run I hm (rest := rest) (a := (Value.ref (B.1 + b) :: ((st.take n).reverse).map (rv B)).toArray) ?_ k
              refine va_runV (C := M'.2.1.cls) (b := B.1 + b) (As := ((st.take n).reverse).map (rv B)) ⟨hx, hb, hml, hown, hts⟩ ct ⟨callB_of n hts (mws_good mok) rfl rfl rfl (hts _ mok.2.2.2.2.2) (hts _ w1) ⟨mok.2.2.2.2.1.1, mok.2.2.2.2.1.2, hpar⟩ ⟨hR.1, ?_⟩, hts _ w2, hts _ w3⟩ ⟨PcD_blind _ _ _ _ _, va_recv hE.1 I.1 w4 (cw_of hfs), I.pre C0 hsz⟩ rfl ?_ ?_ ?_ ?_ hdg ?_
              · have := mok.2.2.2.1
                show 8 + (M'.2.2.2.1 + 11) + (d * 48 + 480) ≤ R.locals
                omega
              · rw [List.length_map, List.length_reverse, List.length_take]; omega
              · rw [I.2.2.1.2.1, hnL]
              · show st.map (rv B) = _
                rw [← List.map_reverse, List.reverse_reverse]
                have : Value.ref (B.1 + b) :: rest.map (rv B) = (st.drop n).map (rv B) := by rw [hdrop]; rfl
                rw [this, ← List.map_append, List.take_append_drop]
              · exact lv_room (by rw [catS_rv]; exact hn.2.1)
              · have i7 := I.2.2.2.2.2.2.1
                have i8 := I.2.2.2.2.2.2.2
                have i5 := I.2.2.2.2.1
                have i6 := I.2.2.2.2.2.1
                have hr1 : ph'.length - n0 ≤ R.cells := hr1
                have hr2 : sl ph' - z0 ≤ R.slots := hr2
                exact ⟨by omega, by omega⟩
            · cases h
          · cases h
        · cases h
      · rw [if_neg (by decide)] at h
        split at h
        · rename_i b rest hdrop
          split at h
          · rename_i hn
            split at h
            · rename_i ph' r hr
              have hy : (pc + 3, lv, r.toList ++ rest, ph') = y := Sum.inr.inj (Option.some.inj h)
              subst hy
              have hkd12 : kd = 1 ∨ kd = 2 := by simpa using hkd
              obtain ⟨mok, hpar⟩ := z3 (by omega)
              obtain ⟨hm, ct⟩ := hH M' _ _ _ _ mok hn.2.2.2 hr
              refine ⟨hm, fun hr1 hr2 k => ?_⟩
              intro H locs cells slots ls I
              refine W_sz (fun hsz => ?_)
              refine sn_run I hm (rest := rest) (a := (Value.ref (B.1 + b) :: ((st.take n).reverse).map (rv B)).toArray) ?_ k
              have hloc : 8 + (M'.2.2.2.1 + 11) + (d * 48 + 480) ≤ R.locals := by
                have := mok.2.2.2.1
                omega
              have hlen : (((st.take n).reverse).map (rv B)).length = n := by rw [List.length_map, List.length_reverse, List.length_take]; omega
              have hsta : (F0 m pc ls (st.map (rv B))).stack = (((st.take n).reverse).map (rv B)).reverse ++ Value.ref (B.1 + b) :: rest.map (rv B) := by
                show st.map (rv B) = _
                rw [← List.map_reverse, List.reverse_reverse]
                have : Value.ref (B.1 + b) :: rest.map (rv B) = (st.drop n).map (rv B) := by rw [hdrop]; rfl
                rw [this, ← List.map_append, List.take_append_drop]
              have hroom : cells + (ph'.length - ph.length) ≤ R.cells ∧ slots + (sl ph' - sl ph) ≤ R.slots := by
                have i7 := I.2.2.2.2.2.2.1
                have i8 := I.2.2.2.2.2.2.2
                have i5 := I.2.2.2.2.1
                have i6 := I.2.2.2.2.2.1
                have hr1 : ph'.length - n0 ≤ R.cells := hr1
                have hr2 : sl ph' - z0 ≤ R.slots := hr2
                exact ⟨by omega, by omega⟩
              rcases hkd12 with hk1 | hk2
              · obtain ⟨w1, w2, w3, w4⟩ := z5 hk1
                exact va_runI (b := B.1 + b) (As := ((st.take n).reverse).map (rv B)) ⟨hx, hb, hml, hown, hts⟩ ct ⟨callB_of n hts (mws_good mok) (by unfold mws; rw [w4]) rfl rfl (hts _ mok.2.2.2.2.2) (hts _ w1) ⟨mok.2.2.2.2.1.1, mok.2.2.2.2.1.2, hpar⟩ ⟨hR.1, hloc⟩, w3, hts _ w2⟩ ⟨PcD_blind _ _ _ _ _, I.pre C0 hsz⟩ rfl hlen (by rw [I.2.2.1.2.1, hnL]) hsta (lv_room (by rw [catS_rv]; exact hn.2.1)) hdg hroom
              · obtain ⟨⟨host, w1⟩, w2, w3, w4⟩ := z6 hk2
                exact va_runIN (host := host) (b := B.1 + b) (As := ((st.take n).reverse).map (rv B)) ⟨hx, hb, hml, hown, hts⟩ ct ⟨va_cnB n hts (mws_good mok) (by unfold mws; rw [w4]) rfl rfl (hE.2.1 _ w1) (hts _ mok.2.2.2.2.2) ⟨mok.2.2.2.2.1.1, mok.2.2.2.2.1.2, hpar⟩ ⟨hR.1, hloc⟩, w3, hts _ w2⟩ ⟨PcD_blind _ _ _ _ _, I.pre C0 hsz⟩ rfl hlen (by rw [I.2.2.1.2.1, hnL]) hsta (lv_room (by rw [catS_rv]; exact hn.2.1)) hdg hroom
            · cases h
          · cases h
        · cases h
    · cases h
  · cases h
end SND5
