set_option maxRecDepth 100000 in
theorem gw_642 : Cond.code yJ0_coder_7d493 cJ0_coder_7d493 1 (some .byte) ∈ GW := gw 642 rfl rfl
theorem gw_639 : Cond.methodLink "java/lang/String" 335 yJ0_coder_7d493 ∈ GW := gw 639 (by decide +kernel) (by decide +kernel)
theorem gw_640 : Cond.instanceMethod yJ0_coder_7d493 ∈ GW := gw 640 (by decide +kernel) (by decide +kernel)
theorem gw_641 : Cond.selects "java/lang/String" yJ0_coder_7d493 yJ0_coder_7d493 ∈ GW := gw 641 (by decide +kernel) (by decide +kernel)
theorem gw_119 : Cond.initialized "java/lang/String" ∈ GW := gw 119 (by decide +kernel) (by decide +kernel)
set_option maxRecDepth 100000 in
theorem gw_663 : Cond.code yJ3_checkIndex_8e157 cJ3_checkIndex_8e157 3 (some .int) ∈ GW := gw 663 rfl rfl
theorem gw_661 : Cond.methodLink "java/lang/String" 1059 yJ3_checkIndex_8e157 ∈ GW := gw 661 (by decide +kernel) (by decide +kernel)
theorem gw_662 : Cond.static yJ3_checkIndex_8e157 ∈ GW := gw 662 (by decide +kernel) (by decide +kernel)
theorem gw_121 : Cond.initialized "jdk/internal/util/Preconditions" ∈ GW := gw 121 (by decide +kernel) (by decide +kernel)
set_option maxRecDepth 100000 in
theorem gw_658 : Cond.code yJ0_checkIndex_df160 cJ0_checkIndex_df160 2 (none) ∈ GW := gw 658 rfl rfl
theorem gw_656 : Cond.methodLink "java/lang/StringLatin1" 9 yJ0_checkIndex_df160 ∈ GW := gw 656 (by decide +kernel) (by decide +kernel)
theorem gw_657 : Cond.static yJ0_checkIndex_df160 ∈ GW := gw 657 (by decide +kernel) (by decide +kernel)
set_option maxRecDepth 100000 in
theorem gw_652 : Cond.code yJ0_isLatin1_aae02 cJ0_isLatin1_aae02 1 (some .boolean) ∈ GW := gw 652 rfl rfl
theorem gw_649 : Cond.methodLink "java/lang/String" 492 yJ0_isLatin1_aae02 ∈ GW := gw 649 (by decide +kernel) (by decide +kernel)
theorem gw_650 : Cond.instanceMethod yJ0_isLatin1_aae02 ∈ GW := gw 650 (by decide +kernel) (by decide +kernel)
theorem gw_651 : Cond.selects "java/lang/String" yJ0_isLatin1_aae02 yJ0_isLatin1_aae02 ∈ GW := gw 651 (by decide +kernel) (by decide +kernel)
set_option maxRecDepth 100000 in
theorem gw_655 : Cond.code yJ1_charAt_3b067 cJ1_charAt_3b067 2 (some .char) ∈ GW := gw 655 rfl rfl
theorem gw_653 : Cond.methodLink "java/lang/String" 495 yJ1_charAt_3b067 ∈ GW := gw 653 (by decide +kernel) (by decide +kernel)
theorem gw_654 : Cond.static yJ1_charAt_3b067 ∈ GW := gw 654 (by decide +kernel) (by decide +kernel)
theorem gw_120 : Cond.initialized "java/lang/StringLatin1" ∈ GW := gw 120 (by decide +kernel) (by decide +kernel)
set_option maxRecDepth 100000 in
theorem gw_742 : Cond.code yJ1_canEncode_9a6ad cJ1_canEncode_9a6ad 1 (some .boolean) ∈ GW := gw 742 rfl rfl
theorem gw_740 : Cond.methodLink "java/lang/StringLatin1" 88 yJ1_canEncode_9a6ad ∈ GW := gw 740 (by decide +kernel) (by decide +kernel)
theorem gw_741 : Cond.static yJ1_canEncode_9a6ad ∈ GW := gw 741 (by decide +kernel) (by decide +kernel)
theorem gw_743 : Cond.methodLink "java/lang/StringLatin1" 92 Lib.Math.max.name ∈ GW := gw 743 (by decide +kernel) (by decide +kernel)
theorem gw_746 : Cond.methodLink "java/lang/StringLatin1" 38 Lib.Math.min.name ∈ GW := gw 746 (by decide +kernel) (by decide +kernel)
set_option maxRecDepth 100000 in
theorem gw_751 : Cond.code yJ1_indexOfChar_4cfef cJ1_indexOfChar_4cfef 6 (some .int) ∈ GW := gw 751 rfl rfl
theorem gw_749 : Cond.methodLink "java/lang/StringLatin1" 95 yJ1_indexOfChar_4cfef ∈ GW := gw 749 (by decide +kernel) (by decide +kernel)
theorem gw_750 : Cond.static yJ1_indexOfChar_4cfef ∈ GW := gw 750 (by decide +kernel) (by decide +kernel)
set_option maxRecDepth 100000 in
theorem gw_638 : Cond.code yJ0_length_8abf5 cJ0_length_8abf5 1 (some .int) ∈ GW := gw 638 rfl rfl
theorem gw_736 : Cond.methodLink "java/lang/String" 505 yJ0_length_8abf5 ∈ GW := gw 736 (by decide +kernel) (by decide +kernel)
theorem gw_636 : Cond.instanceMethod yJ0_length_8abf5 ∈ GW := gw 636 (by decide +kernel) (by decide +kernel)
theorem gw_637 : Cond.selects "java/lang/String" yJ0_length_8abf5 yJ0_length_8abf5 ∈ GW := gw 637 (by decide +kernel) (by decide +kernel)
set_option maxRecDepth 100000 in
theorem gw_739 : Cond.code yJ1_indexOf_4cfef cJ1_indexOf_4cfef 4 (some .int) ∈ GW := gw 739 rfl rfl
theorem gw_737 : Cond.methodLink "java/lang/String" 637 yJ1_indexOf_4cfef ∈ GW := gw 737 (by decide +kernel) (by decide +kernel)
theorem gw_738 : Cond.static yJ1_indexOf_4cfef ∈ GW := gw 738 (by decide +kernel) (by decide +kernel)
set_option maxRecDepth 100000 in
theorem gw_735 : Cond.code yJ0_indexOf_7cf53 cJ0_indexOf_7cf53 3 (some .int) ∈ GW := gw 735 rfl rfl
theorem gw_732 : Cond.methodLink "java/lang/String" 633 yJ0_indexOf_7cf53 ∈ GW := gw 732 (by decide +kernel) (by decide +kernel)
theorem gw_733 : Cond.instanceMethod yJ0_indexOf_7cf53 ∈ GW := gw 733 (by decide +kernel) (by decide +kernel)
theorem gw_734 : Cond.selects "java/lang/String" yJ0_indexOf_7cf53 yJ0_indexOf_7cf53 ∈ GW := gw 734 (by decide +kernel) (by decide +kernel)
theorem gw_643 : Cond.fieldLink "java/lang/String" 38 "java/lang/String" "COMPACT_STRINGS" "Z" ∈ GW := gw 643 (by decide +kernel) (by decide +kernel)
theorem gw_659 : Cond.fieldLink "java/lang/String" 1053 "jdk/internal/util/Preconditions" "SIOOBE_FORMATTER" "Ljava/util/function/BiFunction;" ∈ GW := gw 659 (by decide +kernel) (by decide +kernel)
theorem gw_1901 : Cond.fieldLink "java/lang/String" 9 "java/lang/String" "value" "[B" ∈ GW := gw 1901 (by decide +kernel) (by decide +kernel)
theorem gw_1902 : Cond.fieldLink "java/lang/String" 15 "java/lang/String" "coder" "B" ∈ GW := gw 1902 (by decide +kernel) (by decide +kernel)
theorem gw_728 : Cond.methodLink "WayMayor$Tape" 42 yJ0_indexOf_0f7a4 ∈ GW := gw 728 (by decide +kernel) (by decide +kernel)
theorem gw_635 : Cond.methodLink "WayMayor$Tape" 47 yJ0_length_8abf5 ∈ GW := gw 635 (by decide +kernel) (by decide +kernel)
theorem gw_645 : Cond.methodLink "WayMayor$Tape" 50 yJ0_charAt_5068e ∈ GW := gw 645 (by decide +kernel) (by decide +kernel)
theorem gw_1488 : Cond.methodLink "WayMayorModel" 208 yJ0_length_8abf5 ∈ GW := gw 1488 (by decide +kernel) (by decide +kernel)
theorem gw_1489 : Cond.methodLink "WayMayorModel" 213 yJ0_charAt_5068e ∈ GW := gw 1489 (by decide +kernel) (by decide +kernel)
set_option maxRecDepth 100000 in
theorem gw_648 : Cond.code yJ0_charAt_5068e cJ0_charAt_5068e 2 (some .char) ∈ GW := gw 648 rfl rfl
theorem gw_646 : Cond.instanceMethod yJ0_charAt_5068e ∈ GW := gw 646 (by decide +kernel) (by decide +kernel)
theorem gw_647 : Cond.selects "java/lang/String" yJ0_charAt_5068e yJ0_charAt_5068e ∈ GW := gw 647 (by decide +kernel) (by decide +kernel)
set_option maxRecDepth 100000 in
theorem gw_731 : Cond.code yJ0_indexOf_0f7a4 cJ0_indexOf_0f7a4 2 (some .int) ∈ GW := gw 731 rfl rfl
theorem gw_729 : Cond.instanceMethod yJ0_indexOf_0f7a4 ∈ GW := gw 729 (by decide +kernel) (by decide +kernel)
theorem gw_730 : Cond.selects "java/lang/String" yJ0_indexOf_0f7a4 yJ0_indexOf_0f7a4 ∈ GW := gw 730 (by decide +kernel) (by decide +kernel)
/-! String.length, charAt, indexOf of a String constant -/
def JC (l : Launch) (B : WB) (L : Nat) (xs : Nat → Int32) (y : MethodName) (cc : ByteArray) (nL : Nat) (ret : Option FieldType) (d : Nat) (as : List Value) (r : Option Value) : Prop :=
  Met l y (Cond.code y cc nL ret :: GW) { frames := d, cells := 0, slots := 0, locals := d * 40 } (fun a U => a = as.toArray ∧ ENV B L xs U U.heap) (fun _ st o t => o = .returned r ∧ t.heap = st.heap) 0 0 (fun _ => False)
def JQ (below : List Frame) (as : List Value) (r : Option Value) (s : State) : State → Prop := MQ below (fun _ st o t => o = .returned r ∧ t.heap = st.heap) as.toArray s 0 0 (fun _ => False)
def JX (p : Program) (s : State) (m : MethodId) (args : Array Value) (meth : Method) (c : Code) (own : String) (cc : ByteArray) (nL : Nat) (ret : Option FieldType) (B : WB) (L : Nat) (xs : Nat → Int32) : Prop :=
  p.tables.exec = Jvm.exec ∧ c.code = cc ∧ c.maxLocals = nL ∧ s.vm.findClass own = some m.cls ∧ (∀ w ∈ GW, w.before args s = true) ∧ ENV B L xs s s.heap ∧ meth.locks = false ∧ meth.sig.returnType = ret
theorem JC.of {l : Launch} {B : WB} {L : Nat} {xs : Nat → Int32} {y : MethodName} {cc : ByteArray} {nL : Nat} {ret : Option FieldType} {d : Nat} {as : List Value} {r : Option Value} (hy : plainName y.cls = true) (hlen : (lg_sl as).length ≤ nL)
    (body : ∀ (p : Program) (e : Env) (s : State) (m : MethodId) (below : List Frame) (meth : Method) (c : Code) (ls : Array Slot), JX p s m as.toArray meth c y.cls cc nL ret B L xs → lv_has ls nL (lv_args 0 as) → W p l e { frames := d, cells := 0, slots := 0, locals := d * 40 } s m as.toArray below meth c s.heap [] 0 0 (JQ below as r s) (F0 m 0 ls [])) : JC l B L xs y cc nL ret d as r := by
  refine Met.ofW (cc := cc) (maxL := nL) (ret := ret) hy rfl ?_
  intro p e s m args below meth c s₁ Bd hml hv
  obtain ⟨rfl, hE⟩ := hv
  have hts : ∀ w ∈ GW, w.before as.toArray s = true := fun w hw => atoms_spec (ws := Cond.code y cc nL ret :: GW) Bd.pre w (List.mem_cons_of_mem _ hw)
  have hl := lv_entry as (n := nL) hlen
  rw [lg_entry_eq]
  generalize (lg_sl as ++ List.replicate (nL - (lg_sl as).length) Slot.unset).toArray = ls at hl ⊢
  exact body p e s m below meth c ls ⟨Bd.exec, Bd.bytes, hml, findClass_of_methodNamed Bd.named, hts, hE, Bd.notSynchronized, Bd.returns⟩ hl
section JJ
variable {p : Program} {l : Launch} {e : Env} {R : Room} {s : State} {m : MethodId} {args : Array Value} {below : List Frame} {meth : Method} {c : Code} {Q : State → Prop} {H : Heap} {locs : List Loc} {cells slots : Nat}
variable {B : WB} {L : Nat} {xs : Nat → Int32} {own : String} {cc cc' : ByteArray} {nL nL' d n pc index : Nat} {ret' : Option FieldType} {y : MethodName} {as rest : List Value} {r : Option Value} {ls : Array Slot}
theorem jc_run {st0 : List Value} {a : Array Value} (hr : va_Run p l e R s m args below meth c H locs cells slots 0 0 (F0 m pc ls st0) rest ((fun (_ : Array Value) (st : State) (o : Outcome) (t : State) => o = .returned r ∧ t.heap = st.heap) a) (fun _ => False)) (k : W p l e R s m args below meth c H locs cells slots Q (F0 m (pc + 3) ls (r.toList ++ rest))) : W p l e R s m args below meth c H locs cells slots Q (F0 m pc ls st0) := by
  intro T hT X
  obtain ⟨v, st₀, t, T', LL, h0, X', hL, e1, e2, ⟨hv, hh⟩, stp⟩ := hr T hT X
  have hv : v = r := by cases hv; rfl
  subst hv
  have hLL : LL = [] := by
    cases LL with
    | nil => rfl
    | cons q qs => exact (hL q List.mem_cons_self).elim
  subst hLL
  rw [List.append_nil] at X'
  obtain ⟨t2, a1, b1⟩ := k T' (by rw [e1, hh, h0]) X'
  exact ⟨t2, stp t2 a1, b1⟩
theorem jc_blind : FrameBlind (fun (a : Array Value) (U : State) => a = as.toArray ∧ ENV B L xs U U.heap) := fun a U g mk h => ⟨h.1, h.2.call g mk a⟩
theorem jc_good (h : Cond.code y cc' nL' ret' ∈ GW) : GoodIn GW (Cond.code y cc' nL' ret' :: GW) := fun w hw => by
  rcases List.mem_cons.mp hw with rfl | hw
  · exact GW_good h
  · exact GW_good hw
theorem jc_callS (hx : p.tables.exec = Jvm.exec) (hb : c.code = cc) (hml : c.maxLocals = ls.size) (hown : s.vm.findClass own = some m.cls) (hts : ∀ w ∈ GW, w.before args s = true) (hE : ENV B L xs s H) (hM : JC l B L xs y cc' nL' ret' d as r)
    (hw : Cond.code y cc' nL' ret' ∈ GW ∧ Cond.methodLink own index y ∈ GW ∧ Cond.static y ∈ GW ∧ Cond.initialized y.cls ∈ GW) (hd : y.cls ≠ "java/lang/invoke/MethodHandle" ∧ y.cls ≠ "java/lang/invoke/VarHandle" ∧ (parseMethodDescriptor y.desc).map (fun d => d.parameters.length) = some n) (hR : d + 1 ≤ R.frames ∧ 8 + (nL' + 11) + d * 40 ≤ R.locals) (hn : as.length = n) (hc : (rest.map fun v => v.category).sum ≤ 8) (hf : cells ≤ R.cells ∧ slots ≤ R.slots) (hdg : decode cc pc = .ok (.invokestatic index, 3))
    (k : W p l e R s m args below meth c H locs cells slots Q (F0 m (pc + 3) ls (r.toList ++ rest))) : W p l e R s m args below meth c H locs cells slots Q (F0 m pc ls (as.reverse ++ rest)) :=
  jc_run (a := as.toArray) (va_runS (As := as) (rest := rest) ⟨hx, hb, hml, hown, hts⟩ hM ⟨callB_of n hts (jc_good hw.1) rfl rfl rfl (hts _ hw.2.2.2) (hts _ hw.2.1) hd hR, hts _ hw.2.2.1⟩ ⟨jc_blind, fun U hU hW => ⟨rfl, by rw [hU]; exact hE.warm hW⟩⟩ rfl hn rfl rfl (lv_room hc) hdg hf) k
theorem jc_callV {b : Nat} (hx : p.tables.exec = Jvm.exec) (hb : c.code = cc) (hml : c.maxLocals = ls.size) (hown : s.vm.findClass own = some m.cls) (hts : ∀ w ∈ GW, w.before args s = true) (hE : ENV B L xs s H) (hM : JC l B L xs y cc' nL' ret' d (.ref b :: as) r)
    (hw : Cond.code y cc' nL' ret' ∈ GW ∧ Cond.methodLink own index y ∈ GW ∧ Cond.instanceMethod y ∈ GW ∧ Cond.selects y.cls y y ∈ GW ∧ Cond.initialized y.cls ∈ GW) (hrecv : ∃ cellB : Cell, H[b]? = some cellB ∧ cellB.vm.isStatics = false ∧ s.vm.findClass y.cls = some cellB.cls) (hd : y.cls ≠ "java/lang/invoke/MethodHandle" ∧ y.cls ≠ "java/lang/invoke/VarHandle" ∧ (parseMethodDescriptor y.desc).map (fun d => d.parameters.length) = some n) (hR : d + 1 ≤ R.frames ∧ 8 + (nL' + 11) + d * 40 ≤ R.locals) (hn : as.length = n) (hc : (rest.map fun v => v.category).sum ≤ 8) (hf : cells ≤ R.cells ∧ slots ≤ R.slots) (hdg : decode cc pc = .ok (.invokevirtual index, 3))
    (k : W p l e R s m args below meth c H locs cells slots Q (F0 m (pc + 3) ls (r.toList ++ rest))) : W p l e R s m args below meth c H locs cells slots Q (F0 m pc ls (as.reverse ++ .ref b :: rest)) :=
  jc_run (a := (Value.ref b :: as).toArray) (va_runV (C := y.cls) (b := b) (As := as) (rest := rest) ⟨hx, hb, hml, hown, hts⟩ hM ⟨callB_of n hts (jc_good hw.1) rfl rfl rfl (hts _ hw.2.2.2.2) (hts _ hw.2.1) hd hR, hts _ hw.2.2.1, hts _ hw.2.2.2.1⟩ ⟨jc_blind, hrecv, fun U hU hW => ⟨rfl, by rw [hU]; exact hE.warm hW⟩⟩ rfl hn rfl rfl (lv_room hc) hdg hf) k
end JJ
theorem SE_recv {B : WB} {L : Nat} {xs : Nat → Int32} {s : State} {H : Heap} {k : Nat} (hE : ENV B L xs s H) (hk : k < 30) : ∃ cellB : Cell, H[B.2.2.2.1 (k + 1)]? = some cellB ∧ cellB.vm.isStatics = false ∧ s.vm.findClass "java/lang/String" = some cellB.cls := by
  obtain ⟨cell, h1, h2, h3, -⟩ := (hE.2.2.2.2.2.1.1 k hk).1
  exact ⟨cell, h1, h2, h3⟩
abbrev aK (B : WB) (k : Nat) : Value := .ref (B.2.2.2.1 (k + 1))
abbrev aV (B : WB) (k : Nat) : Value := .ref (B.2.2.2.2 k)
theorem c_coder (l : Launch) (B : WB) (L : Nat) (xs : Nat → Int32) (k : Nat) (hk : k < 30) : JC l B L xs yJ0_coder_7d493 cJ0_coder_7d493 1 (some .byte) 0 [aK B k] (some (.int 0)) := by
  refine JC.of (by decide +kernel) (Nat.le_of_ble_eq_true rfl) ?_
  intro p e s m below meth c ls X hl
  obtain ⟨hx, hb, hml, hown, hts, hE, hlk, hr⟩ := X
  obtain ⟨-, eCo, eVa, eT⟩ := hE.2.2.2.2.2.1.1 k hk
  refine va_gets hx hb hE.2.2.2.2.2.2.1 va_S.rf hown (hts _ gw_643) (fun _ h => h) dJ0_coder_7d493_0 ?_
  refine lv_if_eq (tgt := 13) hx hb dJ0_coder_7d493_3 (by decide) (fun h => absurd h (by decide)) (fun _ => ?_)
  refine lv_aload_n hx hb dJ0_coder_7d493_6 rfl (lv_at hl 0 rfl) ?_
  refine vk_getf hx hb eCo va_S.rf hown (hts _ gw_1902) (fun _ h => h) dJ0_coder_7d493_7 ?_
  refine lv_goto (tgt := 14) hx hb dJ0_coder_7d493_10 (by decide) ?_
  exact W.zret hx hb hr (by decide) (fun t ht _ => ⟨rfl, ht⟩) (fun q h => by cases h) dJ0_coder_7d493_14 hlk
theorem c_isLatin1 (l : Launch) (B : WB) (L : Nat) (xs : Nat → Int32) (k : Nat) (hk : k < 30) : JC l B L xs yJ0_isLatin1_aae02 cJ0_isLatin1_aae02 1 (some .boolean) 0 [aK B k] (some (.int 1)) := by
  refine JC.of (by decide +kernel) (Nat.le_of_ble_eq_true rfl) ?_
  intro p e s m below meth c ls X hl
  obtain ⟨hx, hb, hml, hown, hts, hE, hlk, hr⟩ := X
  obtain ⟨-, eCo, eVa, eT⟩ := hE.2.2.2.2.2.1.1 k hk
  refine va_gets hx hb hE.2.2.2.2.2.2.1 va_S.rf hown (hts _ gw_643) (fun _ h => h) dJ0_isLatin1_aae02_0 ?_
  refine lv_if_eq (tgt := 17) hx hb dJ0_isLatin1_aae02_3 (by decide) (fun h => absurd h (by decide)) (fun _ => ?_)
  refine lv_aload_n hx hb dJ0_isLatin1_aae02_6 rfl (lv_at hl 0 rfl) ?_
  refine vk_getf hx hb eCo va_S.rf hown (hts _ gw_1902) (fun _ h => h) dJ0_isLatin1_aae02_7 ?_
  refine lv_if_ne (tgt := 17) hx hb dJ0_isLatin1_aae02_10 (by decide) (fun h => absurd rfl h) (fun _ => ?_)
  refine lv_iconst (v := 1) hx hb dJ0_isLatin1_aae02_13 rfl ?_
  refine lv_goto (tgt := 18) hx hb dJ0_isLatin1_aae02_14 (by decide) ?_
  exact W.zret hx hb hr (by decide) (fun t ht _ => ⟨rfl, ht⟩) (fun q h => by cases h) dJ0_isLatin1_aae02_18 hlk
theorem c_length (l : Launch) (B : WB) (L : Nat) (xs : Nat → Int32) (k : Nat) (hk : k < 30) : JC l B L xs yJ0_length_8abf5 cJ0_length_8abf5 1 (some .int) 1 [aK B k] (some (.int (Int32.ofNat (sLen.getD k 0)))) := by
  refine JC.of (by decide +kernel) (Nat.le_of_ble_eq_true rfl) ?_
  intro p e s m below meth c ls X hl
  obtain ⟨hx, hb, hml, hown, hts, hE, hlk, hr⟩ := X
  obtain ⟨-, eCo, eVa, eT⟩ := hE.2.2.2.2.2.1.1 k hk
  refine lv_aload_n hx hb dJ0_length_8abf5_0 rfl (lv_at hl 0 rfl) ?_
  refine vk_getf hx hb eVa va_S.rf hown (hts _ gw_1901) (fun _ h => h) dJ0_length_8abf5_1 ?_
  refine va_tlen hx hb eT va_S.rf rfl dJ0_length_8abf5_4 ?_
  refine lv_aload_n hx hb dJ0_length_8abf5_5 rfl (lv_at hl 0 rfl) ?_
  refine jc_callV (as := []) (n := 0) hx hb (by rw [hml]; exact hl.1.symm) hown hts hE (c_coder l B L xs k hk) ⟨gw_642, gw_639, gw_640, gw_641, gw_119⟩ (SE_recv hE hk) (by decide +kernel) ⟨Nat.le_refl _, Nat.le_of_ble_eq_true rfl⟩ rfl (Nat.le_of_ble_eq_true rfl) ⟨Nat.le_refl _, Nat.le_refl _⟩ dJ0_length_8abf5_6 ?_
  refine lv_ishr hx hb dJ0_length_8abf5_9 ?_
  rw [sb_shr0]
  exact W.iret hx hb hr (fun t ht _ => ⟨rfl, ht⟩) (fun q h => by cases h) dJ0_length_8abf5_10 hlk
theorem c_chkP (l : Launch) (B : WB) (L : Nat) (xs : Nat → Int32) (i n : Int32) (v : Value) (hv : v.category = 1) (h0 : ¬ i < 0) (h1 : i < n) : JC l B L xs yJ3_checkIndex_8e157 cJ3_checkIndex_8e157 3 (some .int) 0 [.int i, .int n, v] (some (.int i)) := by
  refine JC.of (by decide +kernel) (by simp [lg_sl, hv, ct_i]) ?_
  intro p e s m below meth c ls X hl
  obtain ⟨hx, hb, hml, hown, hts, hE, hlk, hr⟩ := X
  have l0 : ls[0]? = some (.val (.int i)) := hl.2.2 (0, .int i) (by simp [lv_args])
  have l1 : ls[1]? = some (.val (.int n)) := hl.2.2 (1, .int n) (by simp [lv_args, ct_i])
  refine lv_iload_n hx hb dJ3_checkIndex_8e157_0 rfl l0 ?_
  refine lv_if_lt (tgt := 9) hx hb dJ3_checkIndex_8e157_1 (by decide) (fun h => absurd h h0) (fun _ => ?_)
  refine lv_iload_n hx hb dJ3_checkIndex_8e157_4 rfl l0 ?_
  refine lv_iload_n hx hb dJ3_checkIndex_8e157_5 rfl l1 ?_
  refine lv_icmp_lt (tgt := 16) hx hb dJ3_checkIndex_8e157_6 (by decide) (fun _ => ?_) (fun h => absurd h1 h)
  refine lv_iload_n hx hb dJ3_checkIndex_8e157_16 rfl l0 ?_
  exact W.iret hx hb hr (fun t ht _ => ⟨rfl, ht⟩) (fun q h => by cases h) dJ3_checkIndex_8e157_17 hlk
theorem c_chkS (l : Launch) (B : WB) (L : Nat) (xs : Nat → Int32) (i n : Int32) (h0 : ¬ i < 0) (h1 : i < n) : JC l B L xs yJ0_checkIndex_df160 cJ0_checkIndex_df160 2 none 1 [.int i, .int n] none := by
  refine JC.of (by decide +kernel) (Nat.le_of_ble_eq_true rfl) ?_
  intro p e s m below meth c ls X hl
  obtain ⟨hx, hb, hml, hown, hts, hE, hlk, hr⟩ := X
  refine lv_iload_n hx hb dJ0_checkIndex_df160_0 rfl (lv_at hl 0 rfl) ?_
  refine lv_iload_n hx hb dJ0_checkIndex_df160_1 rfl (lv_at hl 1 rfl) ?_
  have fin : ∀ v : Value, v.category = 1 → W p l e { frames := 1, cells := 0, slots := 0, locals := 1 * 40 } s m [Value.int i, Value.int n].toArray below meth c s.heap [] 0 0 (JQ below [.int i, .int n] none s) (F0 m 5 ls ([.int i, .int n, v].reverse ++ [])) := by
    intro v hv
    refine jc_callS (as := [.int i, .int n, v]) (rest := []) (n := 3) hx hb (by rw [hml]; exact hl.1.symm) hown hts hE (c_chkP l B L xs i n v hv h0 h1) ⟨gw_663, gw_661, gw_662, gw_121⟩ (by decide +kernel) ⟨Nat.le_refl _, Nat.le_of_ble_eq_true rfl⟩ rfl (Nat.le_of_ble_eq_true rfl) ⟨Nat.le_refl _, Nat.le_refl _⟩ dJ0_checkIndex_df160_5 ?_
    refine lv_pop hx hb dJ0_checkIndex_df160_8 rfl ?_
    exact W.vret hx hb hr (fun t ht _ => ⟨rfl, ht⟩) (fun q h => by cases h) dJ0_checkIndex_df160_9 hlk
  rcases hE.2.2.2.2.2.2.2 with hz | ⟨t, hz⟩
  · exact va_gets hx hb hz va_S.rf hown (hts _ gw_659) (fun _ h => h) dJ0_checkIndex_df160_2 (fin .null rfl)
  · exact va_gets hx hb hz va_S.rf hown (hts _ gw_659) (fun _ h => h) dJ0_checkIndex_df160_2 (fin (.ref t) rfl)
theorem s_ascii : ∀ k, k < 30 → ∀ j, j < sLen.getD k 0 → (((sByt.getD k []).getD j 0 &&& 255).toUInt32 % 65536).toInt32 = (sByt.getD k []).getD j 0 ∧ narrow .char (.int ((sByt.getD k []).getD j 0)) = .int ((sByt.getD k []).getD j 0) ∧ (sByt.getD k []).getD j 0 &&& 255 = (sByt.getD k []).getD j 0 ∧ ((sByt.getD k []).getD j 0).toInt8.toInt32 = (sByt.getD k []).getD j 0 := by decide +kernel
theorem c_charL (l : Launch) (B : WB) (L : Nat) (xs : Nat → Int32) (k : Nat) (hk : k < 30) (j : Nat) (hj : j < sLen.getD k 0) : JC l B L xs yJ1_charAt_3b067 cJ1_charAt_3b067 2 (some .char) 2 [aV B k, .int (nI j)] (some (.int ((sByt.getD k []).getD j 0))) := by
  refine JC.of (by decide +kernel) (Nat.le_of_ble_eq_true rfl) ?_
  intro p e s m below meth c ls X hl
  obtain ⟨hx, hb, hml, hown, hts, hE, hlk, hr⟩ := X
  obtain ⟨-, eCo, eVa, eT⟩ := hE.2.2.2.2.2.1.1 k hk
  have hlt := sLen_lt k hk
  obtain ⟨q1, q2, q3, q4⟩ := s_ascii k hk j hj
  refine lv_iload_n hx hb dJ1_charAt_3b067_0 rfl (lv_at hl 1 rfl) ?_
  refine lv_aload_n hx hb dJ1_charAt_3b067_1 rfl (lv_at hl 0 rfl) ?_
  refine va_tlen hx hb eT va_S.rf rfl dJ1_charAt_3b067_2 ?_
  refine jc_callS (as := [.int (nI j), .int (Int32.ofNat (sLen.getD k 0))]) (rest := []) (n := 2) hx hb (by rw [hml]; exact hl.1.symm) hown hts hE (c_chkS l B L xs _ _ (nI_pos (by omega)) (nI_lt hj hlt)) ⟨gw_658, gw_656, gw_657, gw_119⟩ (by decide +kernel) ⟨Nat.le_refl _, Nat.le_of_ble_eq_true rfl⟩ rfl (Nat.le_of_ble_eq_true rfl) ⟨Nat.le_refl _, Nat.le_refl _⟩ dJ1_charAt_3b067_3 ?_
  refine lv_aload_n hx hb dJ1_charAt_3b067_6 rfl (lv_at hl 0 rfl) ?_
  refine lv_iload_n hx hb dJ1_charAt_3b067_7 rfl (lv_at hl 1 rfl) ?_
  refine va_tb hx hb eT va_S.rf (vp_in_nI hj hlt) (by rw [nI_clamp (by omega)]) dJ1_charAt_3b067_8 ?_
  refine lv_sipush (v := 255) hx hb dJ1_charAt_3b067_9 rfl ?_
  refine lv_iand hx hb dJ1_charAt_3b067_12 ?_
  refine lv_i2c hx hb dJ1_charAt_3b067_13 q1 ?_
  exact W.zret hx hb hr q2 (fun t ht _ => ⟨rfl, ht⟩) (fun q h => by cases h) dJ1_charAt_3b067_14 hlk
theorem c_charAt (l : Launch) (B : WB) (L : Nat) (xs : Nat → Int32) (k : Nat) (hk : k < 30) (j : Nat) (hj : j < sLen.getD k 0) : JC l B L xs yJ0_charAt_5068e cJ0_charAt_5068e 2 (some .char) 3 [aK B k, .int (nI j)] (some (.int ((sByt.getD k []).getD j 0))) := by
  refine JC.of (by decide +kernel) (Nat.le_of_ble_eq_true rfl) ?_
  intro p e s m below meth c ls X hl
  obtain ⟨hx, hb, hml, hown, hts, hE, hlk, hr⟩ := X
  obtain ⟨-, eCo, eVa, eT⟩ := hE.2.2.2.2.2.1.1 k hk
  obtain ⟨q1, q2, q3, q4⟩ := s_ascii k hk j hj
  refine lv_aload_n hx hb dJ0_charAt_5068e_0 rfl (lv_at hl 0 rfl) ?_
  refine jc_callV (as := []) (rest := []) (n := 0) hx hb (by rw [hml]; exact hl.1.symm) hown hts hE (c_isLatin1 l B L xs k hk) ⟨gw_652, gw_649, gw_650, gw_651, gw_119⟩ (SE_recv hE hk) (by decide +kernel) ⟨Nat.le_of_ble_eq_true rfl, Nat.le_of_ble_eq_true rfl⟩ rfl (Nat.le_of_ble_eq_true rfl) ⟨Nat.le_refl _, Nat.le_refl _⟩ dJ0_charAt_5068e_1 ?_
  refine lv_if_eq (tgt := 16) hx hb dJ0_charAt_5068e_4 (by decide) (fun h => absurd h (by decide)) (fun _ => ?_)
  refine lv_aload_n hx hb dJ0_charAt_5068e_7 rfl (lv_at hl 0 rfl) ?_
  refine vk_getf hx hb eVa va_S.rf hown (hts _ gw_1901) (fun _ h => h) dJ0_charAt_5068e_8 ?_
  refine lv_iload_n hx hb dJ0_charAt_5068e_11 rfl (lv_at hl 1 rfl) ?_
  refine jc_callS (as := [aV B k, .int (nI j)]) (rest := []) (n := 2) hx hb (by rw [hml]; exact hl.1.symm) hown hts hE (c_charL l B L xs k hk j hj) ⟨gw_655, gw_653, gw_654, gw_120⟩ (by decide +kernel) ⟨Nat.le_refl _, Nat.le_of_ble_eq_true rfl⟩ rfl (Nat.le_of_ble_eq_true rfl) ⟨Nat.le_refl _, Nat.le_refl _⟩ dJ0_charAt_5068e_12 ?_
  exact W.zret hx hb hr q2 (fun t ht _ => ⟨rfl, ht⟩) (fun q h => by cases h) dJ0_charAt_5068e_15 hlk
theorem c_canEnc (l : Launch) (B : WB) (L : Nat) (xs : Nat → Int32) (n : Nat) (hn : n < 256) : JC l B L xs yJ1_canEncode_9a6ad cJ1_canEncode_9a6ad 1 (some .boolean) 0 [.int (nI n)] (some (.int 1)) := by
  refine JC.of (by decide +kernel) (Nat.le_of_ble_eq_true rfl) ?_
  intro p e s m below meth c ls X hl
  obtain ⟨hx, hb, hml, hown, hts, hE, hlk, hr⟩ := X
  refine lv_iload_n hx hb dJ1_canEncode_9a6ad_0 rfl (lv_at hl 0 rfl) ?_
  refine lv_if_lt (tgt := 15) hx hb dJ1_canEncode_9a6ad_1 (by decide) (fun h => absurd h (nI_pos (by omega))) (fun _ => ?_)
  refine lv_iload_n hx hb dJ1_canEncode_9a6ad_4 rfl (lv_at hl 0 rfl) ?_
  refine lv_sipush (v := nI 255) hx hb dJ1_canEncode_9a6ad_5 rfl ?_
  refine lv_icmp_gt (tgt := 15) hx hb dJ1_canEncode_9a6ad_8 (by decide) (fun h => absurd h (nI_nlt (by omega) (by omega))) (fun _ => ?_)
  refine lv_iconst (v := 1) hx hb dJ1_canEncode_9a6ad_11 rfl ?_
  refine lv_goto (tgt := 16) hx hb dJ1_canEncode_9a6ad_12 (by decide) ?_
  exact W.zret hx hb hr (by decide) (fun t ht _ => ⟨rfl, ht⟩) (fun q h => by cases h) dJ1_canEncode_9a6ad_16 hlk
theorem c_ixChar (l : Launch) (B : WB) (L : Nat) (xs : Nat → Int32) (k : Nat) (hk : k < 30) (n : Nat) (hn : n < 256) : JC l B L xs yJ1_indexOfChar_4cfef cJ1_indexOfChar_4cfef 6 (some .int) 0 [aV B k, .int (nI n), .int 0, .int (Int32.ofNat (sLen.getD k 0))] (some (.int (sIx (sLen.getD k 0) (fun j => (sByt.getD k []).getD j 0) (nI n) (sLen.getD k 0) 0))) := by
  refine JC.of (by decide +kernel) (Nat.le_of_ble_eq_true rfl) ?_
  intro p e s m below meth c ls X hl
  obtain ⟨hx, hb, hml, hown, hts, hE, hlk, hr⟩ := X
  obtain ⟨-, eCo, eVa, eT⟩ := hE.2.2.2.2.2.1.1 k hk
  have hlt := sLen_lt k hk
  refine lv_iload_n hx hb dJ1_indexOfChar_4cfef_0 rfl (lv_at hl 1 rfl) ?_
  refine lv_i2b hx hb dJ1_indexOfChar_4cfef_1 rfl ?_
  refine lv_istore (lv' := [(4, .int (nI n).toInt8.toInt32), (0, aV B k), (1, .int (nI n)), (2, .int 0), (3, .int (Int32.ofNat (sLen.getD k 0)))]) hx hb dJ1_indexOfChar_4cfef_2 hl (by decide) rfl (fun ls hl => ?_)
  refine lv_iload_n hx hb dJ1_indexOfChar_4cfef_4 rfl (lv_at hl 3 rfl) ?_
  refine lv_istore (lv' := [(5, .int 0), (4, .int (nI n).toInt8.toInt32), (0, aV B k), (1, .int (nI n)), (2, .int 0), (3, .int (Int32.ofNat (sLen.getD k 0)))]) hx hb dJ1_indexOfChar_4cfef_5 hl (by decide) rfl (fun ls hl => ?_)
  have loop : ∀ (f j : Nat), f + j = sLen.getD k 0 → sIx (sLen.getD k 0) (fun j => (sByt.getD k []).getD j 0) (nI n) (sLen.getD k 0) 0 = sIx (sLen.getD k 0) (fun j => (sByt.getD k []).getD j 0) (nI n) f j → ∀ ls, lv_has ls 6 [(5, .int (nI j)), (4, .int (nI n).toInt8.toInt32), (0, aV B k), (1, .int (nI n)), (2, .int 0), (3, .int (Int32.ofNat (sLen.getD k 0)))] → W p l e { frames := 0, cells := 0, slots := 0, locals := 0 * 40 } s m [aV B k, .int (nI n), .int 0, .int (Int32.ofNat (sLen.getD k 0))].toArray below meth c s.heap [] 0 0 (JQ below [aV B k, .int (nI n), .int 0, .int (Int32.ofNat (sLen.getD k 0))] (some (.int (sIx (sLen.getD k 0) (fun j => (sByt.getD k []).getD j 0) (nI n) (sLen.getD k 0) 0))) s) (F0 m 7 ls []) := by
    intro f
    induction f with
    | zero =>
      intro j hj he ls hl
      refine lv_iload hx hb dJ1_indexOfChar_4cfef_7 (lv_at hl 0 rfl) ?_
      refine lv_iload_n hx hb dJ1_indexOfChar_4cfef_9 rfl (lv_at hl 5 rfl) ?_
      refine lv_icmp_ge (tgt := 31) hx hb dJ1_indexOfChar_4cfef_10 (by decide) (fun _ => ?_) (fun h => absurd (nI_le (by omega) (by omega)) h)
      refine lv_iconst (v := -1) hx hb dJ1_indexOfChar_4cfef_31 rfl ?_
      have he : sIx (sLen.getD k 0) (fun j => (sByt.getD k []).getD j 0) (nI n) (sLen.getD k 0) 0 = -1 := he
      exact W.iret hx hb hr (fun t ht _ => ⟨by rw [he], ht⟩) (fun q h => by cases h) dJ1_indexOfChar_4cfef_32 hlk
    | succ f ih =>
      intro j hj he ls hl
      have hjl : j < sLen.getD k 0 := by omega
      obtain ⟨q1, q2, q3, q4⟩ := s_ascii k hk j hjl
      have heq : (sByt.getD k []).getD j 0 = (nI n).toInt8.toInt32 ↔ (sByt.getD k []).getD j 0 = nI n := by
        rw [sc_eq q4 hn, q3]
      refine lv_iload hx hb dJ1_indexOfChar_4cfef_7 (lv_at hl 0 rfl) ?_
      refine lv_iload_n hx hb dJ1_indexOfChar_4cfef_9 rfl (lv_at hl 5 rfl) ?_
      refine lv_icmp_ge (tgt := 31) hx hb dJ1_indexOfChar_4cfef_10 (by decide) (fun h => absurd h (nI_ge hjl hlt)) (fun _ => ?_)
      refine lv_aload_n hx hb dJ1_indexOfChar_4cfef_13 rfl (lv_at hl 2 rfl) ?_
      refine lv_iload hx hb dJ1_indexOfChar_4cfef_14 (lv_at hl 0 rfl) ?_
      refine va_tb hx hb eT va_S.rf (vp_in_nI hjl hlt) (by rw [nI_clamp (by omega)]) dJ1_indexOfChar_4cfef_16 ?_
      refine lv_iload hx hb dJ1_indexOfChar_4cfef_17 (lv_at hl 1 rfl) ?_
      have hstep : sIx (sLen.getD k 0) (fun j => (sByt.getD k []).getD j 0) (nI n) (f + 1) j = if (sByt.getD k []).getD j 0 = nI n then Int32.ofNat j else sIx (sLen.getD k 0) (fun j => (sByt.getD k []).getD j 0) (nI n) f (j + 1) := rfl
      rw [hstep] at he
      refine lv_icmp_ne (tgt := 25) hx hb dJ1_indexOfChar_4cfef_19 (by decide) (fun h => ?_) (fun h => ?_)
      · rw [if_neg (fun q => h (heq.mpr q))] at he
        refine lv_iinc (v := nI (j + 1)) (lv' := [(5, .int (nI (j + 1))), (4, .int (nI n).toInt8.toInt32), (0, aV B k), (1, .int (nI n)), (2, .int 0), (3, .int (Int32.ofNat (sLen.getD k 0)))]) hx hb dJ1_indexOfChar_4cfef_25 hl (k := 0) rfl (nI_1 j) (by decide) rfl (fun ls hl => ?_)
        refine lv_goto (tgt := 7) hx hb dJ1_indexOfChar_4cfef_28 (by decide) ?_
        exact ih (j + 1) (by omega) he ls hl
      · rw [if_pos (heq.mp h)] at he
        refine lv_iload hx hb dJ1_indexOfChar_4cfef_22 (lv_at hl 0 rfl) ?_
        exact W.iret hx hb hr (fun t ht _ => ⟨by rw [he]; rfl, ht⟩) (fun q h => by cases h) dJ1_indexOfChar_4cfef_24 hlk
  exact loop (sLen.getD k 0) 0 rfl rfl ls hl
theorem sLen_pos : ∀ k, k < 30 → 0 < sLen.getD k 0 := by decide +kernel
theorem c_ixL (l : Launch) (B : WB) (L : Nat) (xs : Nat → Int32) (k : Nat) (hk : k < 30) (n : Nat) (hn : n < 256) : JC l B L xs yJ1_indexOf_4cfef cJ1_indexOf_4cfef 4 (some .int) 1 [aV B k, .int (nI n), .int 0, .int (Int32.ofNat (sLen.getD k 0))] (some (.int (sIx (sLen.getD k 0) (fun j => (sByt.getD k []).getD j 0) (nI n) (sLen.getD k 0) 0))) := by
  refine JC.of (by decide +kernel) (Nat.le_of_ble_eq_true rfl) ?_
  intro p e s m below meth c ls X hl
  obtain ⟨hx, hb, hml, hown, hts, hE, hlk, hr⟩ := X
  obtain ⟨-, eCo, eVa, eT⟩ := hE.2.2.2.2.2.1.1 k hk
  have hlt := sLen_lt k hk
  have hpos := sLen_pos k hk
  refine lv_iload_n hx hb dJ1_indexOf_4cfef_0 rfl (lv_at hl 1 rfl) ?_
  refine jc_callS (as := [.int (nI n)]) (rest := []) (n := 1) hx hb (by rw [hml]; exact hl.1.symm) hown hts hE (c_canEnc l B L xs n hn) ⟨gw_742, gw_740, gw_741, gw_120⟩ (by decide +kernel) ⟨Nat.le_refl _, Nat.le_of_ble_eq_true rfl⟩ rfl (Nat.le_of_ble_eq_true rfl) ⟨Nat.le_refl _, Nat.le_refl _⟩ dJ1_indexOf_4cfef_1 ?_
  refine lv_if_ne (tgt := 9) hx hb dJ1_indexOf_4cfef_4 (by decide) (fun _ => ?_) (fun h => absurd h (by decide))
  refine lv_iload_n hx hb dJ1_indexOf_4cfef_9 rfl (lv_at hl 2 rfl) ?_
  refine lv_iconst (v := 0) hx hb dJ1_indexOf_4cfef_10 rfl ?_
  refine va_mmax hx hb (by rw [hml]; exact hl.1.symm) hown (hts _ gw_743) (hts _ gw_744) (hts _ gw_123) (hts _ gw_745) (Nat.le_refl _) (Nat.le_of_ble_eq_true rfl) (Nat.le_refl _) (Nat.le_refl _) dJ1_indexOf_4cfef_11 ?_
  rw [if_neg (by decide)]
  refine lv_istore_n (lv' := [(2, .int 0), (0, aV B k), (1, .int (nI n)), (3, .int (Int32.ofNat (sLen.getD k 0)))]) hx hb dJ1_indexOf_4cfef_14 rfl hl (by decide) rfl (fun ls hl => ?_)
  refine lv_iload_n hx hb dJ1_indexOf_4cfef_15 rfl (lv_at hl 3 rfl) ?_
  refine lv_aload_n hx hb dJ1_indexOf_4cfef_16 rfl (lv_at hl 1 rfl) ?_
  refine va_tlen hx hb eT va_S.rf rfl dJ1_indexOf_4cfef_17 ?_
  refine va_mmin hx hb (by rw [hml]; exact hl.1.symm) hown (hts _ gw_746) (hts _ gw_747) (hts _ gw_123) (hts _ gw_748) (Nat.le_refl _) (Nat.le_of_ble_eq_true rfl) (Nat.le_refl _) (Nat.le_refl _) dJ1_indexOf_4cfef_18 ?_
  rw [show (if Int32.ofNat (sLen.getD k 0) < Int32.ofNat (sLen.getD k 0) then Int32.ofNat (sLen.getD k 0) else Int32.ofNat (sLen.getD k 0)) = Int32.ofNat (sLen.getD k 0) by split <;> rfl]
  refine lv_istore_n (lv' := [(3, .int (Int32.ofNat (sLen.getD k 0))), (2, .int 0), (0, aV B k), (1, .int (nI n))]) hx hb dJ1_indexOf_4cfef_21 rfl hl (by decide) rfl (fun ls hl => ?_)
  refine lv_iload_n hx hb dJ1_indexOf_4cfef_22 rfl (lv_at hl 1 rfl) ?_
  refine lv_iload_n hx hb dJ1_indexOf_4cfef_23 rfl (lv_at hl 0 rfl) ?_
  refine lv_icmp_lt (tgt := 29) hx hb dJ1_indexOf_4cfef_24 (by decide) (fun _ => ?_) (fun h => absurd (show (0 : Int32) < Int32.ofNat (sLen.getD k 0) from nI_lt hpos hlt) h)
  refine lv_aload_n hx hb dJ1_indexOf_4cfef_29 rfl (lv_at hl 2 rfl) ?_
  refine lv_iload_n hx hb dJ1_indexOf_4cfef_30 rfl (lv_at hl 3 rfl) ?_
  refine lv_iload_n hx hb dJ1_indexOf_4cfef_31 rfl (lv_at hl 1 rfl) ?_
  refine lv_iload_n hx hb dJ1_indexOf_4cfef_32 rfl (lv_at hl 0 rfl) ?_
  refine jc_callS (as := [aV B k, .int (nI n), .int 0, .int (Int32.ofNat (sLen.getD k 0))]) (rest := []) (n := 4) hx hb (by rw [hml]; exact hl.1.symm) hown hts hE (c_ixChar l B L xs k hk n hn) ⟨gw_751, gw_749, gw_750, gw_120⟩ (by decide +kernel) ⟨Nat.le_refl _, Nat.le_of_ble_eq_true rfl⟩ rfl (Nat.le_of_ble_eq_true rfl) ⟨Nat.le_refl _, Nat.le_refl _⟩ dJ1_indexOf_4cfef_33 ?_
  exact W.iret hx hb hr (fun t ht _ => ⟨rfl, ht⟩) (fun q h => by cases h) dJ1_indexOf_4cfef_36 hlk
theorem c_ix2 (l : Launch) (B : WB) (L : Nat) (xs : Nat → Int32) (k : Nat) (hk : k < 30) (n : Nat) (hn : n < 256) : JC l B L xs yJ0_indexOf_7cf53 cJ0_indexOf_7cf53 3 (some .int) 2 [aK B k, .int (nI n), .int 0] (some (.int (sIx (sLen.getD k 0) (fun j => (sByt.getD k []).getD j 0) (nI n) (sLen.getD k 0) 0))) := by
  refine JC.of (by decide +kernel) (Nat.le_of_ble_eq_true rfl) ?_
  intro p e s m below meth c ls X hl
  obtain ⟨hx, hb, hml, hown, hts, hE, hlk, hr⟩ := X
  obtain ⟨-, eCo, eVa, eT⟩ := hE.2.2.2.2.2.1.1 k hk
  refine lv_aload_n hx hb dJ0_indexOf_7cf53_0 rfl (lv_at hl 0 rfl) ?_
  refine jc_callV (as := []) (rest := []) (n := 0) hx hb (by rw [hml]; exact hl.1.symm) hown hts hE (c_isLatin1 l B L xs k hk) ⟨gw_652, gw_649, gw_650, gw_651, gw_119⟩ (SE_recv hE hk) (by decide +kernel) ⟨Nat.le_of_ble_eq_true rfl, Nat.le_of_ble_eq_true rfl⟩ rfl (Nat.le_of_ble_eq_true rfl) ⟨Nat.le_refl _, Nat.le_refl _⟩ dJ0_indexOf_7cf53_1 ?_
  refine lv_if_eq (tgt := 23) hx hb dJ0_indexOf_7cf53_4 (by decide) (fun h => absurd h (by decide)) (fun _ => ?_)
  refine lv_aload_n hx hb dJ0_indexOf_7cf53_7 rfl (lv_at hl 0 rfl) ?_
  refine vk_getf hx hb eVa va_S.rf hown (hts _ gw_1901) (fun _ h => h) dJ0_indexOf_7cf53_8 ?_
  refine lv_iload_n hx hb dJ0_indexOf_7cf53_11 rfl (lv_at hl 1 rfl) ?_
  refine lv_iload_n hx hb dJ0_indexOf_7cf53_12 rfl (lv_at hl 2 rfl) ?_
  refine lv_aload_n hx hb dJ0_indexOf_7cf53_13 rfl (lv_at hl 0 rfl) ?_
  refine jc_callV (as := []) (n := 0) hx hb (by rw [hml]; exact hl.1.symm) hown hts hE (c_length l B L xs k hk) ⟨gw_638, gw_736, gw_636, gw_637, gw_119⟩ (SE_recv hE hk) (by decide +kernel) ⟨Nat.le_of_ble_eq_true rfl, Nat.le_of_ble_eq_true rfl⟩ rfl (Nat.le_of_ble_eq_true rfl) ⟨Nat.le_refl _, Nat.le_refl _⟩ dJ0_indexOf_7cf53_14 ?_
  refine jc_callS (as := [aV B k, .int (nI n), .int 0, .int (Int32.ofNat (sLen.getD k 0))]) (rest := []) (n := 4) hx hb (by rw [hml]; exact hl.1.symm) hown hts hE (c_ixL l B L xs k hk n hn) ⟨gw_739, gw_737, gw_738, gw_120⟩ (by decide +kernel) ⟨Nat.le_refl _, Nat.le_of_ble_eq_true rfl⟩ rfl (Nat.le_of_ble_eq_true rfl) ⟨Nat.le_refl _, Nat.le_refl _⟩ dJ0_indexOf_7cf53_17 ?_
  refine lv_goto (tgt := 36) hx hb dJ0_indexOf_7cf53_20 (by decide) ?_
  exact W.iret hx hb hr (fun t ht _ => ⟨rfl, ht⟩) (fun q h => by cases h) dJ0_indexOf_7cf53_36 hlk
theorem c_ix1 (l : Launch) (B : WB) (L : Nat) (xs : Nat → Int32) (k : Nat) (hk : k < 30) (n : Nat) (hn : n < 256) : JC l B L xs yJ0_indexOf_0f7a4 cJ0_indexOf_0f7a4 2 (some .int) 3 [aK B k, .int (nI n)] (some (.int (sIx (sLen.getD k 0) (fun j => (sByt.getD k []).getD j 0) (nI n) (sLen.getD k 0) 0))) := by
  refine JC.of (by decide +kernel) (Nat.le_of_ble_eq_true rfl) ?_
  intro p e s m below meth c ls X hl
  obtain ⟨hx, hb, hml, hown, hts, hE, hlk, hr⟩ := X
  refine lv_aload_n hx hb dJ0_indexOf_0f7a4_0 rfl (lv_at hl 0 rfl) ?_
  refine lv_iload_n hx hb dJ0_indexOf_0f7a4_1 rfl (lv_at hl 1 rfl) ?_
  refine lv_iconst (v := 0) hx hb dJ0_indexOf_0f7a4_2 rfl ?_
  refine jc_callV (as := [.int (nI n), .int 0]) (rest := []) (n := 2) hx hb (by rw [hml]; exact hl.1.symm) hown hts hE (c_ix2 l B L xs k hk n hn) ⟨gw_735, gw_732, gw_733, gw_734, gw_119⟩ (SE_recv hE hk) (by decide +kernel) ⟨Nat.le_refl _, Nat.le_of_ble_eq_true rfl⟩ rfl (Nat.le_of_ble_eq_true rfl) ⟨Nat.le_refl _, Nat.le_refl _⟩ dJ0_indexOf_0f7a4_3 ?_
  exact W.iret hx hb hr (fun t ht _ => ⟨rfl, ht⟩) (fun q h => by cases h) dJ0_indexOf_0f7a4_6 hlk
def sEnt (o : Nat) (e : Nat × Nat × Nat × MD) : Prop := (e.2.1 = 10 → Cond.methodLink (cn o) e.1 yJ0_length_8abf5 ∈ GW) ∧ (e.2.1 = 11 → Cond.methodLink (cn o) e.1 yJ0_charAt_5068e ∈ GW) ∧ (e.2.1 = 12 → Cond.methodLink (cn o) e.1 yJ0_indexOf_0f7a4 ∈ GW)
theorem sEnt_no {o : Nat} {e : Nat × Nat × Nat × MD} (h : (decide (e.2.1 = 10) || decide (e.2.1 = 11) || decide (e.2.1 = 12)) = false) : sEnt o e := by
  simp only [Bool.or_eq_false_iff, decide_eq_false_iff_not] at h
  exact ⟨fun q => absurd q h.1.1, fun q => absurd q h.1.2, fun q => absurd q h.2⟩
set_option maxRecDepth 20000 in
theorem ss_0 : ∀ e ∈ cd0, sEnt 0 e := List.forall_mem_cons.mpr ⟨sEnt_no rfl, List.forall_mem_cons.mpr ⟨sEnt_no rfl, List.forall_mem_cons.mpr ⟨sEnt_no rfl, List.forall_mem_cons.mpr ⟨sEnt_no rfl, List.forall_mem_cons.mpr ⟨sEnt_no rfl, List.forall_mem_cons.mpr ⟨sEnt_no rfl, List.forall_mem_cons.mpr ⟨sEnt_no rfl, List.forall_mem_cons.mpr ⟨sEnt_no rfl, List.forall_mem_cons.mpr ⟨sEnt_no rfl, List.forall_mem_cons.mpr ⟨sEnt_no rfl, List.forall_mem_cons.mpr ⟨sEnt_no rfl, List.forall_mem_cons.mpr ⟨sEnt_no rfl, List.forall_mem_cons.mpr ⟨sEnt_no rfl, List.forall_mem_cons.mpr ⟨sEnt_no rfl, List.forall_mem_cons.mpr ⟨sEnt_no rfl, List.forall_mem_cons.mpr ⟨sEnt_no rfl, List.forall_mem_cons.mpr ⟨sEnt_no rfl, List.forall_mem_cons.mpr ⟨sEnt_no rfl, List.forall_mem_cons.mpr ⟨sEnt_no rfl, fun _ h => absurd h List.not_mem_nil⟩⟩⟩⟩⟩⟩⟩⟩⟩⟩⟩⟩⟩⟩⟩⟩⟩⟩⟩
set_option maxRecDepth 20000 in
theorem ss_1 : ∀ e ∈ cd1, sEnt 1 e := List.forall_mem_cons.mpr ⟨sEnt_no rfl, List.forall_mem_cons.mpr ⟨sEnt_no rfl, List.forall_mem_cons.mpr ⟨sEnt_no rfl, List.forall_mem_cons.mpr ⟨sEnt_no rfl, List.forall_mem_cons.mpr ⟨sEnt_no rfl, List.forall_mem_cons.mpr ⟨sEnt_no rfl, List.forall_mem_cons.mpr ⟨sEnt_no rfl, List.forall_mem_cons.mpr ⟨sEnt_no rfl, List.forall_mem_cons.mpr ⟨sEnt_no rfl, fun _ h => absurd h List.not_mem_nil⟩⟩⟩⟩⟩⟩⟩⟩⟩
set_option maxRecDepth 20000 in
theorem ss_2 : ∀ e ∈ cd2, sEnt 2 e := List.forall_mem_cons.mpr ⟨sEnt_no rfl, List.forall_mem_cons.mpr ⟨sEnt_no rfl, List.forall_mem_cons.mpr ⟨sEnt_no rfl, List.forall_mem_cons.mpr ⟨sEnt_no rfl, List.forall_mem_cons.mpr ⟨sEnt_no rfl, List.forall_mem_cons.mpr ⟨sEnt_no rfl, List.forall_mem_cons.mpr ⟨sEnt_no rfl, List.forall_mem_cons.mpr ⟨sEnt_no rfl, List.forall_mem_cons.mpr ⟨sEnt_no rfl, List.forall_mem_cons.mpr ⟨sEnt_no rfl, List.forall_mem_cons.mpr ⟨sEnt_no rfl, List.forall_mem_cons.mpr ⟨sEnt_no rfl, List.forall_mem_cons.mpr ⟨sEnt_no rfl, List.forall_mem_cons.mpr ⟨sEnt_no rfl, fun _ h => absurd h List.not_mem_nil⟩⟩⟩⟩⟩⟩⟩⟩⟩⟩⟩⟩⟩⟩
set_option maxRecDepth 20000 in
theorem ss_3 : ∀ e ∈ cd3, sEnt 3 e := List.forall_mem_cons.mpr ⟨sEnt_no rfl, List.forall_mem_cons.mpr ⟨sEnt_no rfl, List.forall_mem_cons.mpr ⟨sEnt_no rfl, List.forall_mem_cons.mpr ⟨sEnt_no rfl, fun _ h => absurd h List.not_mem_nil⟩⟩⟩⟩
set_option maxRecDepth 20000 in
theorem ss_4 : ∀ e ∈ cd4, sEnt 4 e := List.forall_mem_cons.mpr ⟨sEnt_no rfl, List.forall_mem_cons.mpr ⟨sEnt_no rfl, List.forall_mem_cons.mpr ⟨sEnt_no rfl, List.forall_mem_cons.mpr ⟨sEnt_no rfl, fun _ h => absurd h List.not_mem_nil⟩⟩⟩⟩
set_option maxRecDepth 20000 in
theorem ss_5 : ∀ e ∈ cd5, sEnt 5 e := List.forall_mem_cons.mpr ⟨sEnt_no rfl, List.forall_mem_cons.mpr ⟨sEnt_no rfl, List.forall_mem_cons.mpr ⟨sEnt_no rfl, List.forall_mem_cons.mpr ⟨sEnt_no rfl, List.forall_mem_cons.mpr ⟨sEnt_no rfl, List.forall_mem_cons.mpr ⟨sEnt_no rfl, List.forall_mem_cons.mpr ⟨sEnt_no rfl, List.forall_mem_cons.mpr ⟨sEnt_no rfl, List.forall_mem_cons.mpr ⟨sEnt_no rfl, List.forall_mem_cons.mpr ⟨sEnt_no rfl, List.forall_mem_cons.mpr ⟨sEnt_no rfl, List.forall_mem_cons.mpr ⟨sEnt_no rfl, List.forall_mem_cons.mpr ⟨sEnt_no rfl, List.forall_mem_cons.mpr ⟨sEnt_no rfl, List.forall_mem_cons.mpr ⟨sEnt_no rfl, List.forall_mem_cons.mpr ⟨sEnt_no rfl, List.forall_mem_cons.mpr ⟨sEnt_no rfl, List.forall_mem_cons.mpr ⟨sEnt_no rfl, List.forall_mem_cons.mpr ⟨sEnt_no rfl, List.forall_mem_cons.mpr ⟨sEnt_no rfl, List.forall_mem_cons.mpr ⟨sEnt_no rfl, List.forall_mem_cons.mpr ⟨sEnt_no rfl, fun _ h => absurd h List.not_mem_nil⟩⟩⟩⟩⟩⟩⟩⟩⟩⟩⟩⟩⟩⟩⟩⟩⟩⟩⟩⟩⟩⟩
set_option maxRecDepth 20000 in
theorem ss_6 : ∀ e ∈ cd6, sEnt 6 e := List.forall_mem_cons.mpr ⟨sEnt_no rfl, List.forall_mem_cons.mpr ⟨sEnt_no rfl, List.forall_mem_cons.mpr ⟨sEnt_no rfl, List.forall_mem_cons.mpr ⟨sEnt_no rfl, List.forall_mem_cons.mpr ⟨sEnt_no rfl, List.forall_mem_cons.mpr ⟨sEnt_no rfl, List.forall_mem_cons.mpr ⟨sEnt_no rfl, List.forall_mem_cons.mpr ⟨sEnt_no rfl, List.forall_mem_cons.mpr ⟨sEnt_no rfl, List.forall_mem_cons.mpr ⟨sEnt_no rfl, fun _ h => absurd h List.not_mem_nil⟩⟩⟩⟩⟩⟩⟩⟩⟩⟩
set_option maxRecDepth 20000 in
theorem ss_7 : ∀ e ∈ cd7, sEnt 7 e := List.forall_mem_cons.mpr ⟨sEnt_no rfl, List.forall_mem_cons.mpr ⟨sEnt_no rfl, List.forall_mem_cons.mpr ⟨sEnt_no rfl, fun _ h => absurd h List.not_mem_nil⟩⟩⟩
set_option maxRecDepth 20000 in
theorem ss_8 : ∀ e ∈ cd8, sEnt 8 e := List.forall_mem_cons.mpr ⟨sEnt_no rfl, List.forall_mem_cons.mpr ⟨sEnt_no rfl, List.forall_mem_cons.mpr ⟨sEnt_no rfl, List.forall_mem_cons.mpr ⟨sEnt_no rfl, List.forall_mem_cons.mpr ⟨⟨fun h => absurd h (by decide), fun h => absurd h (by decide), fun _ => gw_728⟩, List.forall_mem_cons.mpr ⟨⟨fun _ => gw_635, fun h => absurd h (by decide), fun h => absurd h (by decide)⟩, List.forall_mem_cons.mpr ⟨⟨fun h => absurd h (by decide), fun _ => gw_645, fun h => absurd h (by decide)⟩, List.forall_mem_cons.mpr ⟨sEnt_no rfl, List.forall_mem_cons.mpr ⟨sEnt_no rfl, List.forall_mem_cons.mpr ⟨sEnt_no rfl, fun _ h => absurd h List.not_mem_nil⟩⟩⟩⟩⟩⟩⟩⟩⟩⟩
set_option maxRecDepth 20000 in
theorem ss_9 : ∀ e ∈ cd9, sEnt 9 e := List.forall_mem_cons.mpr ⟨sEnt_no rfl, fun _ h => absurd h List.not_mem_nil⟩
set_option maxRecDepth 20000 in
theorem ss_10 : ∀ e ∈ cd10, sEnt 10 e := List.forall_mem_cons.mpr ⟨sEnt_no rfl, List.forall_mem_cons.mpr ⟨sEnt_no rfl, List.forall_mem_cons.mpr ⟨sEnt_no rfl, List.forall_mem_cons.mpr ⟨sEnt_no rfl, List.forall_mem_cons.mpr ⟨sEnt_no rfl, List.forall_mem_cons.mpr ⟨sEnt_no rfl, List.forall_mem_cons.mpr ⟨sEnt_no rfl, List.forall_mem_cons.mpr ⟨sEnt_no rfl, List.forall_mem_cons.mpr ⟨sEnt_no rfl, List.forall_mem_cons.mpr ⟨sEnt_no rfl, List.forall_mem_cons.mpr ⟨sEnt_no rfl, List.forall_mem_cons.mpr ⟨sEnt_no rfl, List.forall_mem_cons.mpr ⟨sEnt_no rfl, List.forall_mem_cons.mpr ⟨sEnt_no rfl, List.forall_mem_cons.mpr ⟨sEnt_no rfl, fun _ h => absurd h List.not_mem_nil⟩⟩⟩⟩⟩⟩⟩⟩⟩⟩⟩⟩⟩⟩⟩
set_option maxRecDepth 20000 in
theorem ss_11 : ∀ e ∈ cd11, sEnt 11 e := List.forall_mem_cons.mpr ⟨sEnt_no rfl, List.forall_mem_cons.mpr ⟨sEnt_no rfl, List.forall_mem_cons.mpr ⟨sEnt_no rfl, List.forall_mem_cons.mpr ⟨sEnt_no rfl, List.forall_mem_cons.mpr ⟨sEnt_no rfl, fun _ h => absurd h List.not_mem_nil⟩⟩⟩⟩⟩
set_option maxRecDepth 20000 in
theorem ss_12 : ∀ e ∈ cd12, sEnt 12 e := List.forall_mem_cons.mpr ⟨sEnt_no rfl, List.forall_mem_cons.mpr ⟨sEnt_no rfl, List.forall_mem_cons.mpr ⟨sEnt_no rfl, List.forall_mem_cons.mpr ⟨sEnt_no rfl, List.forall_mem_cons.mpr ⟨sEnt_no rfl, List.forall_mem_cons.mpr ⟨sEnt_no rfl, List.forall_mem_cons.mpr ⟨sEnt_no rfl, List.forall_mem_cons.mpr ⟨sEnt_no rfl, List.forall_mem_cons.mpr ⟨sEnt_no rfl, List.forall_mem_cons.mpr ⟨sEnt_no rfl, List.forall_mem_cons.mpr ⟨sEnt_no rfl, List.forall_mem_cons.mpr ⟨sEnt_no rfl, List.forall_mem_cons.mpr ⟨sEnt_no rfl, List.forall_mem_cons.mpr ⟨sEnt_no rfl, List.forall_mem_cons.mpr ⟨sEnt_no rfl, List.forall_mem_cons.mpr ⟨sEnt_no rfl, List.forall_mem_cons.mpr ⟨sEnt_no rfl, List.forall_mem_cons.mpr ⟨sEnt_no rfl, List.forall_mem_cons.mpr ⟨sEnt_no rfl, List.forall_mem_cons.mpr ⟨sEnt_no rfl, List.forall_mem_cons.mpr ⟨sEnt_no rfl, List.forall_mem_cons.mpr ⟨sEnt_no rfl, List.forall_mem_cons.mpr ⟨sEnt_no rfl, List.forall_mem_cons.mpr ⟨sEnt_no rfl, List.forall_mem_cons.mpr ⟨sEnt_no rfl, List.forall_mem_cons.mpr ⟨sEnt_no rfl, List.forall_mem_cons.mpr ⟨sEnt_no rfl, List.forall_mem_cons.mpr ⟨sEnt_no rfl, List.forall_mem_cons.mpr ⟨sEnt_no rfl, List.forall_mem_cons.mpr ⟨sEnt_no rfl, List.forall_mem_cons.mpr ⟨sEnt_no rfl, List.forall_mem_cons.mpr ⟨sEnt_no rfl, List.forall_mem_cons.mpr ⟨sEnt_no rfl, List.forall_mem_cons.mpr ⟨sEnt_no rfl, List.forall_mem_cons.mpr ⟨sEnt_no rfl, List.forall_mem_cons.mpr ⟨sEnt_no rfl, List.forall_mem_cons.mpr ⟨sEnt_no rfl, List.forall_mem_cons.mpr ⟨sEnt_no rfl, List.forall_mem_cons.mpr ⟨sEnt_no rfl, List.forall_mem_cons.mpr ⟨sEnt_no rfl, List.forall_mem_cons.mpr ⟨sEnt_no rfl, List.forall_mem_cons.mpr ⟨sEnt_no rfl, List.forall_mem_cons.mpr ⟨sEnt_no rfl, List.forall_mem_cons.mpr ⟨sEnt_no rfl, List.forall_mem_cons.mpr ⟨sEnt_no rfl, fun _ h => absurd h List.not_mem_nil⟩⟩⟩⟩⟩⟩⟩⟩⟩⟩⟩⟩⟩⟩⟩⟩⟩⟩⟩⟩⟩⟩⟩⟩⟩⟩⟩⟩⟩⟩⟩⟩⟩⟩⟩⟩⟩⟩⟩⟩⟩⟩⟩⟩⟩
set_option maxRecDepth 20000 in
theorem ss_13 : ∀ e ∈ cd13, sEnt 13 e := List.forall_mem_cons.mpr ⟨sEnt_no rfl, List.forall_mem_cons.mpr ⟨sEnt_no rfl, List.forall_mem_cons.mpr ⟨sEnt_no rfl, List.forall_mem_cons.mpr ⟨sEnt_no rfl, List.forall_mem_cons.mpr ⟨⟨fun _ => gw_1488, fun h => absurd h (by decide), fun h => absurd h (by decide)⟩, List.forall_mem_cons.mpr ⟨⟨fun h => absurd h (by decide), fun _ => gw_1489, fun h => absurd h (by decide)⟩, List.forall_mem_cons.mpr ⟨sEnt_no rfl, List.forall_mem_cons.mpr ⟨sEnt_no rfl, List.forall_mem_cons.mpr ⟨sEnt_no rfl, List.forall_mem_cons.mpr ⟨sEnt_no rfl, List.forall_mem_cons.mpr ⟨sEnt_no rfl, List.forall_mem_cons.mpr ⟨sEnt_no rfl, List.forall_mem_cons.mpr ⟨sEnt_no rfl, List.forall_mem_cons.mpr ⟨sEnt_no rfl, List.forall_mem_cons.mpr ⟨sEnt_no rfl, List.forall_mem_cons.mpr ⟨sEnt_no rfl, List.forall_mem_cons.mpr ⟨sEnt_no rfl, List.forall_mem_cons.mpr ⟨sEnt_no rfl, List.forall_mem_cons.mpr ⟨sEnt_no rfl, List.forall_mem_cons.mpr ⟨sEnt_no rfl, List.forall_mem_cons.mpr ⟨sEnt_no rfl, List.forall_mem_cons.mpr ⟨sEnt_no rfl, List.forall_mem_cons.mpr ⟨sEnt_no rfl, List.forall_mem_cons.mpr ⟨sEnt_no rfl, List.forall_mem_cons.mpr ⟨sEnt_no rfl, List.forall_mem_cons.mpr ⟨sEnt_no rfl, List.forall_mem_cons.mpr ⟨sEnt_no rfl, List.forall_mem_cons.mpr ⟨sEnt_no rfl, List.forall_mem_cons.mpr ⟨sEnt_no rfl, List.forall_mem_cons.mpr ⟨sEnt_no rfl, List.forall_mem_cons.mpr ⟨sEnt_no rfl, List.forall_mem_cons.mpr ⟨sEnt_no rfl, List.forall_mem_cons.mpr ⟨sEnt_no rfl, List.forall_mem_cons.mpr ⟨sEnt_no rfl, List.forall_mem_cons.mpr ⟨sEnt_no rfl, List.forall_mem_cons.mpr ⟨sEnt_no rfl, List.forall_mem_cons.mpr ⟨sEnt_no rfl, List.forall_mem_cons.mpr ⟨sEnt_no rfl, List.forall_mem_cons.mpr ⟨sEnt_no rfl, List.forall_mem_cons.mpr ⟨sEnt_no rfl, List.forall_mem_cons.mpr ⟨sEnt_no rfl, List.forall_mem_cons.mpr ⟨sEnt_no rfl, List.forall_mem_cons.mpr ⟨sEnt_no rfl, List.forall_mem_cons.mpr ⟨sEnt_no rfl, List.forall_mem_cons.mpr ⟨sEnt_no rfl, List.forall_mem_cons.mpr ⟨sEnt_no rfl, List.forall_mem_cons.mpr ⟨sEnt_no rfl, List.forall_mem_cons.mpr ⟨sEnt_no rfl, List.forall_mem_cons.mpr ⟨sEnt_no rfl, List.forall_mem_cons.mpr ⟨sEnt_no rfl, List.forall_mem_cons.mpr ⟨sEnt_no rfl, List.forall_mem_cons.mpr ⟨sEnt_no rfl, List.forall_mem_cons.mpr ⟨sEnt_no rfl, List.forall_mem_cons.mpr ⟨sEnt_no rfl, List.forall_mem_cons.mpr ⟨sEnt_no rfl, List.forall_mem_cons.mpr ⟨sEnt_no rfl, List.forall_mem_cons.mpr ⟨sEnt_no rfl, List.forall_mem_cons.mpr ⟨sEnt_no rfl, List.forall_mem_cons.mpr ⟨sEnt_no rfl, List.forall_mem_cons.mpr ⟨sEnt_no rfl, List.forall_mem_cons.mpr ⟨sEnt_no rfl, List.forall_mem_cons.mpr ⟨sEnt_no rfl, List.forall_mem_cons.mpr ⟨sEnt_no rfl, List.forall_mem_cons.mpr ⟨sEnt_no rfl, List.forall_mem_cons.mpr ⟨sEnt_no rfl, List.forall_mem_cons.mpr ⟨sEnt_no rfl, List.forall_mem_cons.mpr ⟨sEnt_no rfl, List.forall_mem_cons.mpr ⟨sEnt_no rfl, List.forall_mem_cons.mpr ⟨sEnt_no rfl, List.forall_mem_cons.mpr ⟨sEnt_no rfl, List.forall_mem_cons.mpr ⟨sEnt_no rfl, List.forall_mem_cons.mpr ⟨sEnt_no rfl, List.forall_mem_cons.mpr ⟨sEnt_no rfl, List.forall_mem_cons.mpr ⟨sEnt_no rfl, List.forall_mem_cons.mpr ⟨sEnt_no rfl, List.forall_mem_cons.mpr ⟨sEnt_no rfl, fun _ h => absurd h List.not_mem_nil⟩⟩⟩⟩⟩⟩⟩⟩⟩⟩⟩⟩⟩⟩⟩⟩⟩⟩⟩⟩⟩⟩⟩⟩⟩⟩⟩⟩⟩⟩⟩⟩⟩⟩⟩⟩⟩⟩⟩⟩⟩⟩⟩⟩⟩⟩⟩⟩⟩⟩⟩⟩⟩⟩⟩⟩⟩⟩⟩⟩⟩⟩⟩⟩⟩⟩⟩⟩⟩⟩⟩⟩⟩⟩⟩⟩
set_option maxRecDepth 20000 in
theorem ss_14 : ∀ e ∈ cd14, sEnt 14 e := List.forall_mem_cons.mpr ⟨sEnt_no rfl, List.forall_mem_cons.mpr ⟨sEnt_no rfl, List.forall_mem_cons.mpr ⟨sEnt_no rfl, List.forall_mem_cons.mpr ⟨sEnt_no rfl, List.forall_mem_cons.mpr ⟨sEnt_no rfl, List.forall_mem_cons.mpr ⟨sEnt_no rfl, List.forall_mem_cons.mpr ⟨sEnt_no rfl, List.forall_mem_cons.mpr ⟨sEnt_no rfl, List.forall_mem_cons.mpr ⟨sEnt_no rfl, List.forall_mem_cons.mpr ⟨sEnt_no rfl, List.forall_mem_cons.mpr ⟨sEnt_no rfl, List.forall_mem_cons.mpr ⟨sEnt_no rfl, List.forall_mem_cons.mpr ⟨sEnt_no rfl, List.forall_mem_cons.mpr ⟨sEnt_no rfl, List.forall_mem_cons.mpr ⟨sEnt_no rfl, List.forall_mem_cons.mpr ⟨sEnt_no rfl, List.forall_mem_cons.mpr ⟨sEnt_no rfl, List.forall_mem_cons.mpr ⟨sEnt_no rfl, List.forall_mem_cons.mpr ⟨sEnt_no rfl, List.forall_mem_cons.mpr ⟨sEnt_no rfl, List.forall_mem_cons.mpr ⟨sEnt_no rfl, List.forall_mem_cons.mpr ⟨sEnt_no rfl, List.forall_mem_cons.mpr ⟨sEnt_no rfl, List.forall_mem_cons.mpr ⟨sEnt_no rfl, List.forall_mem_cons.mpr ⟨sEnt_no rfl, List.forall_mem_cons.mpr ⟨sEnt_no rfl, List.forall_mem_cons.mpr ⟨sEnt_no rfl, List.forall_mem_cons.mpr ⟨sEnt_no rfl, List.forall_mem_cons.mpr ⟨sEnt_no rfl, List.forall_mem_cons.mpr ⟨sEnt_no rfl, List.forall_mem_cons.mpr ⟨sEnt_no rfl, List.forall_mem_cons.mpr ⟨sEnt_no rfl, List.forall_mem_cons.mpr ⟨sEnt_no rfl, List.forall_mem_cons.mpr ⟨sEnt_no rfl, List.forall_mem_cons.mpr ⟨sEnt_no rfl, List.forall_mem_cons.mpr ⟨sEnt_no rfl, List.forall_mem_cons.mpr ⟨sEnt_no rfl, List.forall_mem_cons.mpr ⟨sEnt_no rfl, List.forall_mem_cons.mpr ⟨sEnt_no rfl, List.forall_mem_cons.mpr ⟨sEnt_no rfl, List.forall_mem_cons.mpr ⟨sEnt_no rfl, List.forall_mem_cons.mpr ⟨sEnt_no rfl, List.forall_mem_cons.mpr ⟨sEnt_no rfl, List.forall_mem_cons.mpr ⟨sEnt_no rfl, List.forall_mem_cons.mpr ⟨sEnt_no rfl, List.forall_mem_cons.mpr ⟨sEnt_no rfl, List.forall_mem_cons.mpr ⟨sEnt_no rfl, List.forall_mem_cons.mpr ⟨sEnt_no rfl, List.forall_mem_cons.mpr ⟨sEnt_no rfl, List.forall_mem_cons.mpr ⟨sEnt_no rfl, List.forall_mem_cons.mpr ⟨sEnt_no rfl, List.forall_mem_cons.mpr ⟨sEnt_no rfl, List.forall_mem_cons.mpr ⟨sEnt_no rfl, List.forall_mem_cons.mpr ⟨sEnt_no rfl, List.forall_mem_cons.mpr ⟨sEnt_no rfl, List.forall_mem_cons.mpr ⟨sEnt_no rfl, List.forall_mem_cons.mpr ⟨sEnt_no rfl, List.forall_mem_cons.mpr ⟨sEnt_no rfl, List.forall_mem_cons.mpr ⟨sEnt_no rfl, List.forall_mem_cons.mpr ⟨sEnt_no rfl, List.forall_mem_cons.mpr ⟨sEnt_no rfl, List.forall_mem_cons.mpr ⟨sEnt_no rfl, List.forall_mem_cons.mpr ⟨sEnt_no rfl, List.forall_mem_cons.mpr ⟨sEnt_no rfl, List.forall_mem_cons.mpr ⟨sEnt_no rfl, List.forall_mem_cons.mpr ⟨sEnt_no rfl, List.forall_mem_cons.mpr ⟨sEnt_no rfl, List.forall_mem_cons.mpr ⟨sEnt_no rfl, List.forall_mem_cons.mpr ⟨sEnt_no rfl, List.forall_mem_cons.mpr ⟨sEnt_no rfl, fun _ h => absurd h List.not_mem_nil⟩⟩⟩⟩⟩⟩⟩⟩⟩⟩⟩⟩⟩⟩⟩⟩⟩⟩⟩⟩⟩⟩⟩⟩⟩⟩⟩⟩⟩⟩⟩⟩⟩⟩⟩⟩⟩⟩⟩⟩⟩⟩⟩⟩⟩⟩⟩⟩⟩⟩⟩⟩⟩⟩⟩⟩⟩⟩⟩⟩⟩⟩⟩⟩⟩⟩⟩⟩⟩⟩
set_option maxRecDepth 20000 in
theorem ss_15 : ∀ e ∈ cd15, sEnt 15 e := fun _ h => absurd h List.not_mem_nil
set_option maxRecDepth 20000 in
theorem ss_16 : ∀ e ∈ cd16, sEnt 16 e := fun _ h => absurd h List.not_mem_nil
theorem ss_ok {o i : Nat} {x : Nat × Nat × MD} (h : cdT o i = some x) : sEnt o (i, x) := by
  unfold cdT at h
  match o, h with
  | 0, h => exact ss_0 _ (lookup_mem h)
  | 1, h => exact ss_1 _ (lookup_mem h)
  | 2, h => exact ss_2 _ (lookup_mem h)
  | 3, h => exact ss_3 _ (lookup_mem h)
  | 4, h => exact ss_4 _ (lookup_mem h)
  | 5, h => exact ss_5 _ (lookup_mem h)
  | 6, h => exact ss_6 _ (lookup_mem h)
  | 7, h => exact ss_7 _ (lookup_mem h)
  | 8, h => exact ss_8 _ (lookup_mem h)
  | 9, h => exact ss_9 _ (lookup_mem h)
  | 10, h => exact ss_10 _ (lookup_mem h)
  | 11, h => exact ss_11 _ (lookup_mem h)
  | 12, h => exact ss_12 _ (lookup_mem h)
  | 13, h => exact ss_13 _ (lookup_mem h)
  | 14, h => exact ss_14 _ (lookup_mem h)
  | 15, h => exact ss_15 _ (lookup_mem h)
  | 16, h => exact ss_16 _ (lookup_mem h)
  | o + 17, h => simp [List.getD] at h
theorem oJ_ZZ {L : Nat} {xs : Nat → Int32} {k : Nat} {q : Nat × (Nat → Int32)} (h : oJ (ZZ L xs) k = some q) : k < 30 ∧ q = (sLen.getD k 0, fun j => (sByt.getD k []).getD j 0) := by
  have h : sJ k = some q := h
  unfold sJ at h
  split at h
  · rename_i hk
    cases h
    exact ⟨hk, rfl⟩
  · cases h
theorem str_all (l : Launch) (B : WB) (L : Nat) (xs : Nat → Int32) : ∀ (p : Program) (e : Env) (R : Room) (s : State) (m : MethodId) (args : Array Value) (below : List Frame) (meth : Method) (c : Code) (Q : State → Prop) (n0 z0 nL : Nat) (M : MD), 10 ≤ R.frames → 480 ≤ R.locals → CX p s m args meth c M B L xs → M.2.2.2.1 = nL → STR p l e R s m args below meth c Q B n0 z0 nL M (ZZ L xs) := by
  intro p e R s m args below meth c Q n0 z0 nL M hRf hRl C hnL pc ix kd n M' lv st ph y hz hkd hdg h
  obtain ⟨hx, hb, hml, hown, hts, hE, -⟩ := C
  have hs := ss_ok hz
  unfold oVi at h
  rw [hz] at h
  split at h
  · rename_i h1
    cases h1
    rename_i k rest
    split at h
    · rename_i hc
      split at h
      · rename_i n1 f1 hj
        have hy := Sum.inr.inj (Option.some.inj h)
        subst hy
        obtain ⟨hk, hq⟩ := oJ_ZZ (k := k) hj
        cases hq
        refine ⟨rfl, fun r1 r2 kk H locs cells slots ls I => ?_⟩
        refine jc_callV (B := B) (L := L) (xs := xs) (as := []) (n := 0) (rest := rest.map (rv B)) hx hb (by rw [hml, hnL]; exact I.2.2.1.2.1.symm) hown hts (hE.keep I.2.1.2.1) (c_length l B L xs k hk) ⟨gw_638, hs.1 rfl, gw_636, gw_637, gw_119⟩ (SE_recv (hE.keep I.2.1.2.1) hk) (by decide +kernel) ⟨by omega, by omega⟩ rfl (by rw [catS_rv]; exact hc) ⟨by rw [I.2.2.2.2.2.2.1]; exact r1, by rw [I.2.2.2.2.2.2.2]; exact r2⟩ hdg ?_
        exact kk H locs cells slots ls I
      · cases h
    · cases h
  · rename_i h1
    cases h1
    rename_i i k rest
    split at h
    · rename_i hc
      split at h
      · rename_i n1 f1 hj
        split at h
        · rename_i hin
          have hy := Sum.inr.inj (Option.some.inj h)
          subst hy
          obtain ⟨hk, hq⟩ := oJ_ZZ (k := k) hj
          cases hq
          obtain ⟨j, hjl, rfl⟩ := vp_in_of (n := sLen.getD k 0) hin (sLen_lt k hk)
          have hcl : (nI j).toNatClampNeg = j := nI_clamp (by have := sLen_lt k hk; omega)
          refine ⟨rfl, fun r1 r2 kk H locs cells slots ls I => ?_⟩
          refine jc_callV (B := B) (L := L) (xs := xs) (as := [.int (nI j)]) (n := 1) (rest := rest.map (rv B)) hx hb (by rw [hml, hnL]; exact I.2.2.1.2.1.symm) hown hts (hE.keep I.2.1.2.1) (c_charAt l B L xs k hk j hjl) ⟨gw_648, hs.2.1 rfl, gw_646, gw_647, gw_119⟩ (SE_recv (hE.keep I.2.1.2.1) hk) (by decide +kernel) ⟨by omega, by omega⟩ rfl (by rw [catS_rv]; exact hc) ⟨by rw [I.2.2.2.2.2.2.1]; exact r1, by rw [I.2.2.2.2.2.2.2]; exact r2⟩ hdg ?_
          have kk := kk H locs cells slots ls I
          rw [hcl] at kk
          exact kk
        · cases h
      · cases h
    · cases h
  · rename_i h1
    cases h1
    rename_i x k rest
    split at h
    · rename_i hc
      split at h
      · rename_i n1 f1 hj
        split at h
        · rename_i hin
          have hy := Sum.inr.inj (Option.some.inj h)
          subst hy
          obtain ⟨hk, hq⟩ := oJ_ZZ (k := k) hj
          cases hq
          obtain ⟨j, hjl, rfl⟩ := nI_of (x := x) (Int32.not_lt.mpr hin.1)
          have hj6 : j < 256 := (nI_ltI hjl (by decide)).mp (show nI j < nI 256 from hin.2)
          refine ⟨rfl, fun r1 r2 kk H locs cells slots ls I => ?_⟩
          refine jc_callV (B := B) (L := L) (xs := xs) (as := [.int (nI j)]) (n := 1) (rest := rest.map (rv B)) hx hb (by rw [hml, hnL]; exact I.2.2.1.2.1.symm) hown hts (hE.keep I.2.1.2.1) (c_ix1 l B L xs k hk j hj6) ⟨gw_731, hs.2.2 rfl, gw_729, gw_730, gw_119⟩ (SE_recv (hE.keep I.2.1.2.1) hk) (by decide +kernel) ⟨by omega, by omega⟩ rfl (by rw [catS_rv]; exact hc) ⟨by rw [I.2.2.2.2.2.2.1]; exact r1, by rw [I.2.2.2.2.2.2.2]; exact r2⟩ hdg ?_
          exact kk H locs cells slots ls I
        · cases h
      · cases h
    · cases h
  · exfalso
    rw [oCall_no hz (by omega)] at h
    cases h
