set_option maxRecDepth 20000 in
theorem bX1_init_0 {L : Nat} {xs : Nat → Int32} (d : Nat) (o : Nat) (v1 : Value) (v2 : Value) (hv1 : isR v1 = true) (hv2 : isR v2 = true) (ph : PH) : RS (ZZ L xs) (d + 1) mX1_init 0 [some (.ref o), some (v1), some (v2)] [] ph = (dR (.ref ph.length)).bind fun b9 => (cV (ZZ L xs) d mX7_init [.ref b9] (ph ++ [.inr (7, [.int 0, .int 0, .int 0, .long 0, .null, .null, .null, .null, .null, .null, .null])])).bind fun p9 => (fP p9 (.ref o) 1 2 (.ref ph.length)).bind fun h12 => (fP (h12 ++ [nwAr 0 35]) (.ref o) 1 3 (.ref h12.length)).bind fun h20 => (fP h20 (.ref o) 1 0 (v1)).bind fun h25 => (fP h25 (.ref o) 1 1 (v2)).bind fun h30 => some (h30, none) := by
  refine Eq.trans (q_aload_n dX1_init_0 (mk0 rfl) rfl rfl) ?_
  refine Eq.trans (q_obj dX1_init_1 (mk0 rfl) rfl (Nat.le_of_ble_eq_true rfl)) ?_
  refine Eq.trans (q_aload_n dX1_init_4 (mk0 rfl) rfl rfl) ?_
  refine Eq.trans (q_new dX1_init_5 (mk0 rfl) rfl) ?_
  refine Eq.trans (q_dup dX1_init_8 (mk0 rfl) rfl) ?_
  refine Eq.trans (q_callI (as := []) dX1_init_9 (mk0 rfl) rfl (Or.inr rfl) rfl rfl (Nat.le_of_ble_eq_true rfl) (Nat.le_of_ble_eq_true rfl)) (bind_cg fun b9 => ?_)
  refine Eq.trans (cV_bind rfl) (bind_cg fun p9 => ?_)
  show RS (ZZ L xs) (d + 1) mX1_init 12 [some (.ref o), some (v1), some (v2)] [.ref ph.length, .ref o] p9 = _
  refine Eq.trans (q_put (ci := 1) (k := 2) (kd := 2) dX1_init_12 (mk0 rfl) rfl rfl (fun _ => ⟨rfl, rfl⟩)) (bind_cg fun h12 => ?_)
  refine Eq.trans (q_aload_n dX1_init_15 (mk0 rfl) rfl rfl) ?_
  refine Eq.trans (q_bipush (v := 35) dX1_init_16 (mk0 rfl) rfl) ?_
  refine Eq.trans (q_newarray (t := 0) (e := nwAr 0 35) dX1_init_18 (mk0 rfl) (Or.inl ⟨rfl, rfl⟩) ⟨by decide, by decide⟩ rfl) ?_
  refine Eq.trans (q_put (ci := 1) (k := 3) (kd := 2) dX1_init_20 (mk0 rfl) rfl rfl (fun _ => ⟨rfl, rfl⟩)) (bind_cg fun h20 => ?_)
  refine Eq.trans (q_aload_n dX1_init_23 (mk0 rfl) rfl rfl) ?_
  refine Eq.trans (q_aload_n dX1_init_24 (mk0 rfl) rfl (isA_R hv1)) ?_
  refine Eq.trans (q_put (ci := 1) (k := 0) (kd := 2) dX1_init_25 (mk0 rfl) rfl (kV_2 hv1) (fun _ => ⟨rfl, rfl⟩)) (bind_cg fun h25 => ?_)
  refine Eq.trans (q_aload_n dX1_init_28 (mk0 rfl) rfl rfl) ?_
  refine Eq.trans (q_aload_n dX1_init_29 (mk0 rfl) rfl (isA_R hv2)) ?_
  refine Eq.trans (q_put (ci := 1) (k := 1) (kd := 2) dX1_init_30 (mk0 rfl) rfl (kV_2 hv2) (fun _ => ⟨rfl, rfl⟩)) (bind_cg fun h30 => ?_)
  exact q_return dX1_init_33 (mk0 rfl) rfl
set_option maxRecDepth 20000 in
theorem bX1_wrongSets_0 {L : Nat} {xs : Nat → Int32} (d : Nat) (o : Nat) (v1 : Value) (i2 : Int32) (hv1 : isR v1 = true) (ph : PH) : RS (ZZ L xs) (d + 1) mX1_wrongSets 0 [some (.ref o), some (v1), some (.int i2), none, none, none, none] [] ph = (fR ph (.ref o) 1 0).bind fun x8 => (fR ph x8 6 0).bind fun x11 => (fI ph x11 9 2).bind fun x14 => RS (ZZ L xs) (d + 1) mX1_wrongSets 25 [some (.ref o), some (v1), some (.int i2), some (.int 0), some (.int ((-2))), some (.int ((iShl 1 x14) - 1)), some (.int 0)] [] ph := by
  refine Eq.trans (q_iconst (v := 0) dX1_wrongSets_0 (mk0 rfl) rfl) ?_
  refine Eq.trans (q_istore_n (lv2 := [some (.ref o), some (v1), some (.int i2), some (.int 0), none, none, none]) dX1_wrongSets_1 (mk0 rfl) (Nat.le_of_ble_eq_true rfl) rfl) ?_
  refine Eq.trans (q_bipush (v := (-2)) dX1_wrongSets_2 (mk0 rfl) rfl) ?_
  refine Eq.trans (q_istore (lv2 := [some (.ref o), some (v1), some (.int i2), some (.int 0), some (.int ((-2))), none, none]) dX1_wrongSets_4 (mk0 rfl) (Nat.le_of_ble_eq_true rfl) rfl) ?_
  refine Eq.trans (q_iconst (v := 1) dX1_wrongSets_6 (mk0 rfl) rfl) ?_
  refine Eq.trans (q_aload_n dX1_wrongSets_7 (mk0 rfl) rfl rfl) ?_
  refine Eq.trans (q_getR (ci := 1) (k := 0) dX1_wrongSets_8 (mk0 rfl) rfl) (bind_cg2 fun x8 hx8 => ?_)
  have hx8 := fR_isR hx8
  refine Eq.trans (q_getR (ci := 6) (k := 0) dX1_wrongSets_11 (mk0 rfl) rfl) (bind_cg2 fun x11 hx11 => ?_)
  have hx11 := fR_isR hx11
  refine Eq.trans (q_getI (ci := 9) (k := 2) dX1_wrongSets_14 (mk0 rfl) rfl) (bind_cg fun x14 => ?_)
  refine Eq.trans (q_ishl dX1_wrongSets_17 (mk0 rfl)) ?_
  refine Eq.trans (q_iconst (v := 1) dX1_wrongSets_18 (mk0 rfl) rfl) ?_
  refine Eq.trans (q_isub dX1_wrongSets_19 (mk0 rfl)) ?_
  refine Eq.trans (q_istore (lv2 := [some (.ref o), some (v1), some (.int i2), some (.int 0), some (.int ((-2))), some (.int ((iShl 1 x14) - 1)), none]) dX1_wrongSets_20 (mk0 rfl) (Nat.le_of_ble_eq_true rfl) rfl) ?_
  refine Eq.trans (q_iconst (v := 0) dX1_wrongSets_22 (mk0 rfl) rfl) ?_
  refine Eq.trans (q_istore (lv2 := [some (.ref o), some (v1), some (.int i2), some (.int 0), some (.int ((-2))), some (.int ((iShl 1 x14) - 1)), some (.int 0)]) dX1_wrongSets_23 (mk0 rfl) (Nat.le_of_ble_eq_true rfl) rfl) ?_
  rfl
set_option maxRecDepth 20000 in
theorem bX1_wrongSets_25 {L : Nat} {xs : Nat → Int32} (d : Nat) (o : Nat) (v1 : Value) (i2 : Int32) (i3 : Int32) (i4 : Int32) (i5 : Int32) (i6 : Int32) (hv1 : isR v1 = true) (ph : PH) : RS (ZZ L xs) (d + 1) mX1_wrongSets 25 [some (.ref o), some (v1), some (.int i2), some (.int i3), some (.int i4), some (.int i5), some (.int i6)] [] ph = (fR ph (.ref o) 1 0).bind fun x29 => (fR ph x29 6 0).bind fun x32 => (fI ph x32 9 2).bind fun x35 => if (iShl 1 x35 : Int32) ≤ i6 then if (i2 : Int32) = 0 then RS (ZZ L xs) (d + 1) mX1_wrongSets 124 [some (.ref o), some (v1), some (.int i2), some (.int i3), some (.int i4), some (.int i5), some (.int i6)] [] ph else if (i2 : Int32) = 1 then RS (ZZ L xs) (d + 1) mX1_wrongSets 126 [some (.ref o), some (v1), some (.int i2), some (.int i3), some (.int i4), some (.int i5), some (.int i6)] [] ph else RS (ZZ L xs) (d + 1) mX1_wrongSets 129 [some (.ref o), some (v1), some (.int i2), some (.int i3), some (.int i4), some (.int i5), some (.int i6)] [] ph else (fR ph (.ref o) 1 1).bind fun x43 => (fR ph (.ref o) 1 0).bind fun x47 => (fR ph x47 6 0).bind fun x50 => (iO ph x43 0).bind fun b56 => (cV (ZZ L xs) d mX0_wind [.ref b56, x50, v1, .int i6] ph).bind fun p56 => (iO p56 (.ref o) 1).bind fun b60 => (cI (ZZ L xs) d mX1_notesAreSo [.ref b60] p56).bind fun p60 => if (p60.2 : Int32) = 0 then RS (ZZ L xs) (d + 1) mX1_wrongSets 92 [some (.ref o), some (v1), some (.int i2), some (.int i3), some (.int i4), some (.int i5), some (.int i6)] [] p60.1 else if ¬ (i4 : Int32) = (-2) then RS (ZZ L xs) (d + 1) mX1_wrongSets 83 [some (.ref o), some (v1), some (.int i2), some (.int (i3 + 1)), some (.int i4), some (.int i5), some (.int i6)] [.int i4] p60.1 else RS (ZZ L xs) (d + 1) mX1_wrongSets 83 [some (.ref o), some (v1), some (.int i2), some (.int (i3 + 1)), some (.int i4), some (.int i5), some (.int i6)] [.int i6] p60.1 := by
  refine Eq.trans (q_iload dX1_wrongSets_25 (mk0 rfl) rfl) ?_
  refine Eq.trans (q_iconst (v := 1) dX1_wrongSets_27 (mk0 rfl) rfl) ?_
  refine Eq.trans (q_aload_n dX1_wrongSets_28 (mk0 rfl) rfl rfl) ?_
  refine Eq.trans (q_getR (ci := 1) (k := 0) dX1_wrongSets_29 (mk0 rfl) rfl) (bind_cg2 fun x29 hx29 => ?_)
  have hx29 := fR_isR hx29
  refine Eq.trans (q_getR (ci := 6) (k := 0) dX1_wrongSets_32 (mk0 rfl) rfl) (bind_cg2 fun x32 hx32 => ?_)
  have hx32 := fR_isR hx32
  refine Eq.trans (q_getI (ci := 9) (k := 2) dX1_wrongSets_35 (mk0 rfl) rfl) (bind_cg fun x35 => ?_)
  refine Eq.trans (q_ishl dX1_wrongSets_38 (mk0 rfl)) ?_
  refine Eq.trans (q_icmp_ge (t := 98) dX1_wrongSets_39 (mk0 rfl) rfl) (ite_cg ?_ ?_)
  · refine Eq.trans (q_iload_n dX1_wrongSets_98 (mk0 rfl) rfl) ?_
    refine Eq.trans (q_lookupswitch dX1_wrongSets_99 (mk0 rfl) rfl) ?_
    generalize (i2 : Int32) = y99
    by_cases hy0 : y99 = 0
    · rw [if_pos hy0, hy0]; rfl
    rw [if_neg hy0]
    by_cases hy1 : y99 = 1
    · rw [if_pos hy1, hy1]; rfl
    rw [if_neg hy1]
    have ny0 := i32_ne hy0 (n := 0) rfl
    have ny1 := i32_ne hy1 (n := 1) rfl
    simp only [Op.lookupswitch.offset, ny0.symm, ny1.symm, if_false]
    rfl
  · refine Eq.trans (q_aload_n dX1_wrongSets_42 (mk0 rfl) rfl rfl) ?_
    refine Eq.trans (q_getR (ci := 1) (k := 1) dX1_wrongSets_43 (mk0 rfl) rfl) (bind_cg2 fun x43 hx43 => ?_)
    have hx43 := fR_isR hx43
    refine Eq.trans (q_aload_n dX1_wrongSets_46 (mk0 rfl) rfl rfl) ?_
    refine Eq.trans (q_getR (ci := 1) (k := 0) dX1_wrongSets_47 (mk0 rfl) rfl) (bind_cg2 fun x47 hx47 => ?_)
    have hx47 := fR_isR hx47
    refine Eq.trans (q_getR (ci := 6) (k := 0) dX1_wrongSets_50 (mk0 rfl) rfl) (bind_cg2 fun x50 hx50 => ?_)
    have hx50 := fR_isR hx50
    refine Eq.trans (q_aload_n dX1_wrongSets_53 (mk0 rfl) rfl (isA_R hv1)) ?_
    refine Eq.trans (q_iload dX1_wrongSets_54 (mk0 rfl) rfl) ?_
    refine Eq.trans (q_callV (as := [x50, v1, .int i6]) dX1_wrongSets_56 (mk0 rfl) rfl rfl rfl (Nat.le_of_ble_eq_true rfl) (by simp [eA, ct_i, ct_l, ct_r, ct_n, ct_x, mX0_wind, (cat_R hx50), (cat_R hv1)])) (bind_cg fun b56 => ?_)
    refine Eq.trans (cV_bind rfl) (bind_cg fun p56 => ?_)
    show RS (ZZ L xs) (d + 1) mX1_wrongSets 59 [some (.ref o), some (v1), some (.int i2), some (.int i3), some (.int i4), some (.int i5), some (.int i6)] [] p56 = _
    refine Eq.trans (q_aload_n dX1_wrongSets_59 (mk0 rfl) rfl rfl) ?_
    refine Eq.trans (q_callV (as := []) dX1_wrongSets_60 (mk0 rfl) rfl rfl rfl (Nat.le_of_ble_eq_true rfl) (Nat.le_of_ble_eq_true rfl)) (bind_cg fun b60 => ?_)
    refine Eq.trans (cI_bind (Or.inr rfl)) (bind_cg fun p60 => ?_)
    show RS (ZZ L xs) (d + 1) mX1_wrongSets 63 [some (.ref o), some (v1), some (.int i2), some (.int i3), some (.int i4), some (.int i5), some (.int i6)] [.int p60.2] p60.1 = _
    refine Eq.trans (q_if_eq (t := 92) dX1_wrongSets_63 (mk0 rfl) rfl) (ite_cg ?_ ?_)
    · rfl
    · refine Eq.trans (q_iinc (v := 1) (lv2 := [some (.ref o), some (v1), some (.int i2), some (.int (i3 + 1)), some (.int i4), some (.int i5), some (.int i6)]) dX1_wrongSets_66 (mk0 rfl) rfl rfl rfl) ?_
      refine Eq.trans (q_iload dX1_wrongSets_69 (mk0 rfl) rfl) ?_
      refine Eq.trans (q_bipush (v := (-2)) dX1_wrongSets_71 (mk0 rfl) rfl) ?_
      refine Eq.trans (q_icmp_ne (t := 81) dX1_wrongSets_73 (mk0 rfl) rfl) (ite_cg ?_ ?_)
      · refine Eq.trans (q_iload dX1_wrongSets_81 (mk0 rfl) rfl) ?_
        rfl
      · refine Eq.trans (q_iload dX1_wrongSets_76 (mk0 rfl) rfl) ?_
        refine Eq.trans (q_goto (t := 83) dX1_wrongSets_78 (mk0 rfl) rfl) ?_
        rfl
set_option maxRecDepth 20000 in
theorem bX1_wrongSets_83 {L : Nat} {xs : Nat → Int32} (d : Nat) (o : Nat) (v1 : Value) (i2 : Int32) (i3 : Int32) (u4 : Option Value) (i5 : Int32) (i6 : Int32) (t0 : Int32) (hv1 : isR v1 = true) (ph : PH) : RS (ZZ L xs) (d + 1) mX1_wrongSets 83 [some (.ref o), some (v1), some (.int i2), some (.int i3), u4, some (.int i5), some (.int i6)] [.int t0] ph = RS (ZZ L xs) (d + 1) mX1_wrongSets 92 [some (.ref o), some (v1), some (.int i2), some (.int i3), some (.int t0), some (.int (i5 &&& i6)), some (.int i6)] [] ph := by
  refine Eq.trans (q_istore (lv2 := [some (.ref o), some (v1), some (.int i2), some (.int i3), some (.int t0), some (.int i5), some (.int i6)]) dX1_wrongSets_83 (show mK mX1_wrongSets 83 [some (.ref o), some (v1), some (.int i2), some (.int i3), u4, some (.int i5), some (.int i6)] = [some (.ref o), some (v1), some (.int i2), some (.int i3), none, some (.int i5), some (.int i6)] from rfl) (Nat.le_of_ble_eq_true rfl) rfl) ?_
  refine Eq.trans (q_iload dX1_wrongSets_85 (mk0 rfl) rfl) ?_
  refine Eq.trans (q_iload dX1_wrongSets_87 (mk0 rfl) rfl) ?_
  refine Eq.trans (q_iand dX1_wrongSets_89 (mk0 rfl)) ?_
  refine Eq.trans (q_istore (lv2 := [some (.ref o), some (v1), some (.int i2), some (.int i3), some (.int t0), some (.int (i5 &&& i6)), some (.int i6)]) dX1_wrongSets_90 (mk0 rfl) (Nat.le_of_ble_eq_true rfl) rfl) ?_
  rfl
set_option maxRecDepth 20000 in
theorem bX1_wrongSets_92 {L : Nat} {xs : Nat → Int32} (d : Nat) (o : Nat) (v1 : Value) (i2 : Int32) (i3 : Int32) (i4 : Int32) (i5 : Int32) (i6 : Int32) (hv1 : isR v1 = true) (ph : PH) : RS (ZZ L xs) (d + 1) mX1_wrongSets 92 [some (.ref o), some (v1), some (.int i2), some (.int i3), some (.int i4), some (.int i5), some (.int i6)] [] ph = RS (ZZ L xs) (d + 1) mX1_wrongSets 25 [some (.ref o), some (v1), some (.int i2), some (.int i3), some (.int i4), some (.int i5), some (.int (i6 + 1))] [] ph := by
  refine Eq.trans (q_iinc (v := 1) (lv2 := [some (.ref o), some (v1), some (.int i2), some (.int i3), some (.int i4), some (.int i5), some (.int (i6 + 1))]) dX1_wrongSets_92 (mk0 rfl) rfl rfl rfl) ?_
  refine Eq.trans (q_goto (t := 25) dX1_wrongSets_95 (mk0 rfl) rfl) ?_
  rfl
set_option maxRecDepth 20000 in
theorem bX1_wrongSets_124 {L : Nat} {xs : Nat → Int32} (d : Nat) (u0 : Option Value) (u1 : Option Value) (u2 : Option Value) (i3 : Int32) (u4 : Option Value) (u5 : Option Value) (u6 : Option Value) (ph : PH) : RS (ZZ L xs) (d + 1) mX1_wrongSets 124 [u0, u1, u2, some (.int i3), u4, u5, u6] [] ph = some (ph, some (.int i3)) := by
  refine Eq.trans (q_iload_n dX1_wrongSets_124 (show mK mX1_wrongSets 124 [u0, u1, u2, some (.int i3), u4, u5, u6] = [none, none, none, some (.int i3), none, none, none] from rfl) rfl) ?_
  exact q_ireturn dX1_wrongSets_125 (mk0 rfl) rfl
set_option maxRecDepth 20000 in
theorem bX1_wrongSets_126 {L : Nat} {xs : Nat → Int32} (d : Nat) (u0 : Option Value) (u1 : Option Value) (u2 : Option Value) (u3 : Option Value) (i4 : Int32) (u5 : Option Value) (u6 : Option Value) (ph : PH) : RS (ZZ L xs) (d + 1) mX1_wrongSets 126 [u0, u1, u2, u3, some (.int i4), u5, u6] [] ph = some (ph, some (.int i4)) := by
  refine Eq.trans (q_iload dX1_wrongSets_126 (show mK mX1_wrongSets 126 [u0, u1, u2, u3, some (.int i4), u5, u6] = [none, none, none, none, some (.int i4), none, none] from rfl) rfl) ?_
  exact q_ireturn dX1_wrongSets_128 (mk0 rfl) rfl
set_option maxRecDepth 20000 in
theorem bX1_wrongSets_129 {L : Nat} {xs : Nat → Int32} (d : Nat) (u0 : Option Value) (u1 : Option Value) (u2 : Option Value) (i3 : Int32) (u4 : Option Value) (i5 : Int32) (u6 : Option Value) (ph : PH) : RS (ZZ L xs) (d + 1) mX1_wrongSets 129 [u0, u1, u2, some (.int i3), u4, some (.int i5), u6] [] ph = if ¬ (i3 : Int32) = 0 then RS (ZZ L xs) (d + 1) mX1_wrongSets 139 [none, none, none, some (.int i3), none, some (.int i5), none] [.int i5] ph else RS (ZZ L xs) (d + 1) mX1_wrongSets 139 [none, none, none, some (.int i3), none, some (.int i5), none] [.int 0] ph := by
  refine Eq.trans (q_iload_n dX1_wrongSets_129 (show mK mX1_wrongSets 129 [u0, u1, u2, some (.int i3), u4, some (.int i5), u6] = [none, none, none, some (.int i3), none, some (.int i5), none] from rfl) rfl) ?_
  refine Eq.trans (q_if_ne (t := 137) dX1_wrongSets_130 (mk0 rfl) rfl) (ite_cg ?_ ?_)
  · refine Eq.trans (q_iload dX1_wrongSets_137 (mk0 rfl) rfl) ?_
    rfl
  · refine Eq.trans (q_iconst (v := 0) dX1_wrongSets_133 (mk0 rfl) rfl) ?_
    refine Eq.trans (q_goto (t := 139) dX1_wrongSets_134 (mk0 rfl) rfl) ?_
    rfl
set_option maxRecDepth 20000 in
theorem bX1_wrongSets_139 {L : Nat} {xs : Nat → Int32} (d : Nat) (u0 : Option Value) (u1 : Option Value) (u2 : Option Value) (u3 : Option Value) (u4 : Option Value) (u5 : Option Value) (u6 : Option Value) (t0 : Int32) (ph : PH) : RS (ZZ L xs) (d + 1) mX1_wrongSets 139 [u0, u1, u2, u3, u4, u5, u6] [.int t0] ph = some (ph, some (.int t0)) := by
  exact q_ireturn dX1_wrongSets_139 (show mK mX1_wrongSets 139 [u0, u1, u2, u3, u4, u5, u6] = [none, none, none, none, none, none, none] from rfl) rfl
set_option maxRecDepth 20000 in
theorem bX1_rulesThatFit_0 {L : Nat} {xs : Nat → Int32} (d : Nat) (o : Nat) (v1 : Value) (i2 : Int32) (i3 : Int32) (hv1 : isR v1 = true) (ph : PH) : RS (ZZ L xs) (d + 1) mX1_rulesThatFit 0 [some (.ref o), some (v1), some (.int i2), some (.int i3), none, none, none] [] ph = RS (ZZ L xs) (d + 1) mX1_rulesThatFit 10 [some (.ref o), some (v1), some (.int i2), some (.int i3), some (.int 0), some (.int ((-2))), some (.int ((-1)))] [] ph := by
  refine Eq.trans (q_iconst (v := 0) dX1_rulesThatFit_0 (mk0 rfl) rfl) ?_
  refine Eq.trans (q_istore (lv2 := [some (.ref o), some (v1), some (.int i2), some (.int i3), some (.int 0), none, none]) dX1_rulesThatFit_1 (mk0 rfl) (Nat.le_of_ble_eq_true rfl) rfl) ?_
  refine Eq.trans (q_bipush (v := (-2)) dX1_rulesThatFit_3 (mk0 rfl) rfl) ?_
  refine Eq.trans (q_istore (lv2 := [some (.ref o), some (v1), some (.int i2), some (.int i3), some (.int 0), some (.int ((-2))), none]) dX1_rulesThatFit_5 (mk0 rfl) (Nat.le_of_ble_eq_true rfl) rfl) ?_
  refine Eq.trans (q_iconst (v := (-1)) dX1_rulesThatFit_7 (mk0 rfl) rfl) ?_
  refine Eq.trans (q_istore (lv2 := [some (.ref o), some (v1), some (.int i2), some (.int i3), some (.int 0), some (.int ((-2))), some (.int ((-1)))]) dX1_rulesThatFit_8 (mk0 rfl) (Nat.le_of_ble_eq_true rfl) rfl) ?_
  rfl
set_option maxRecDepth 20000 in
theorem bX1_rulesThatFit_10 {L : Nat} {xs : Nat → Int32} (d : Nat) (o : Nat) (v1 : Value) (i2 : Int32) (i3 : Int32) (i4 : Int32) (i5 : Int32) (i6 : Int32) (hv1 : isR v1 = true) (ph : PH) : RS (ZZ L xs) (d + 1) mX1_rulesThatFit 10 [some (.ref o), some (v1), some (.int i2), some (.int i3), some (.int i4), some (.int i5), some (.int i6)] [] ph = if (i2 : Int32) ≤ i6 then if ¬ (i3 : Int32) = 0 then RS (ZZ L xs) (d + 1) mX1_rulesThatFit 97 [some (.ref o), some (v1), some (.int i2), some (.int i3), some (.int i4), some (.int i5), some (.int i6)] [.int i5] ph else RS (ZZ L xs) (d + 1) mX1_rulesThatFit 97 [some (.ref o), some (v1), some (.int i2), some (.int i3), some (.int i4), some (.int i5), some (.int i6)] [.int i4] ph else (fR ph (.ref o) 1 1).bind fun x17 => (fR ph (.ref o) 1 0).bind fun x21 => (fR ph x21 6 0).bind fun x24 => if ¬ (i6 : Int32) = (-1) then (eR ph v1 i6).bind fun x40 => RS (ZZ L xs) (d + 1) mX1_rulesThatFit 41 [some (.ref o), some (v1), some (.int i2), some (.int i3), some (.int i4), some (.int i5), some (.int i6)] [x40, x24, x17] ph else RS (ZZ L xs) (d + 1) mX1_rulesThatFit 41 [some (.ref o), some (v1), some (.int i2), some (.int i3), some (.int i4), some (.int i5), some (.int i6)] [.null, x24, x17] ph := by
  refine Eq.trans (q_iload dX1_rulesThatFit_10 (mk0 rfl) rfl) ?_
  refine Eq.trans (q_iload_n dX1_rulesThatFit_12 (mk0 rfl) rfl) ?_
  refine Eq.trans (q_icmp_ge (t := 86) dX1_rulesThatFit_13 (mk0 rfl) rfl) (ite_cg ?_ ?_)
  · refine Eq.trans (q_iload_n dX1_rulesThatFit_86 (mk0 rfl) rfl) ?_
    refine Eq.trans (q_if_ne (t := 95) dX1_rulesThatFit_87 (mk0 rfl) rfl) (ite_cg ?_ ?_)
    · refine Eq.trans (q_iload dX1_rulesThatFit_95 (mk0 rfl) rfl) ?_
      rfl
    · refine Eq.trans (q_iload dX1_rulesThatFit_90 (mk0 rfl) rfl) ?_
      refine Eq.trans (q_goto (t := 97) dX1_rulesThatFit_92 (mk0 rfl) rfl) ?_
      rfl
  · refine Eq.trans (q_aload_n dX1_rulesThatFit_16 (mk0 rfl) rfl rfl) ?_
    refine Eq.trans (q_getR (ci := 1) (k := 1) dX1_rulesThatFit_17 (mk0 rfl) rfl) (bind_cg2 fun x17 hx17 => ?_)
    have hx17 := fR_isR hx17
    refine Eq.trans (q_aload_n dX1_rulesThatFit_20 (mk0 rfl) rfl rfl) ?_
    refine Eq.trans (q_getR (ci := 1) (k := 0) dX1_rulesThatFit_21 (mk0 rfl) rfl) (bind_cg2 fun x21 hx21 => ?_)
    have hx21 := fR_isR hx21
    refine Eq.trans (q_getR (ci := 6) (k := 0) dX1_rulesThatFit_24 (mk0 rfl) rfl) (bind_cg2 fun x24 hx24 => ?_)
    have hx24 := fR_isR hx24
    refine Eq.trans (q_iload dX1_rulesThatFit_27 (mk0 rfl) rfl) ?_
    refine Eq.trans (q_iconst (v := (-1)) dX1_rulesThatFit_29 (mk0 rfl) rfl) ?_
    refine Eq.trans (q_icmp_ne (t := 37) dX1_rulesThatFit_30 (mk0 rfl) rfl) (ite_cg ?_ ?_)
    · refine Eq.trans (q_aload_n dX1_rulesThatFit_37 (mk0 rfl) rfl (isA_R hv1)) ?_
      refine Eq.trans (q_iload dX1_rulesThatFit_38 (mk0 rfl) rfl) ?_
      refine Eq.trans (q_aaload dX1_rulesThatFit_40 (mk0 rfl)) (bind_cg2 fun x40 hx40 => ?_)
      have hx40 := eR_isR hx40
      rfl
    · refine Eq.trans (q_aconst_null dX1_rulesThatFit_33 (mk0 rfl)) ?_
      refine Eq.trans (q_goto (t := 41) dX1_rulesThatFit_34 (mk0 rfl) rfl) ?_
      rfl
set_option maxRecDepth 20000 in
theorem bX1_rulesThatFit_41 {L : Nat} {xs : Nat → Int32} (d : Nat) (o : Nat) (v1 : Value) (i2 : Int32) (i3 : Int32) (i4 : Int32) (i5 : Int32) (i6 : Int32) (w0 : Value) (w1 : Value) (w2 : Value) (hv1 : isR v1 = true) (hw0 : isR w0 = true) (hw1 : isR w1 = true) (hw2 : isR w2 = true) (ph : PH) : RS (ZZ L xs) (d + 1) mX1_rulesThatFit 41 [some (.ref o), some (v1), some (.int i2), some (.int i3), some (.int i4), some (.int i5), some (.int i6)] [w0, w1, w2] ph = (fR ph (.ref o) 1 0).bind fun x42 => (fR ph x42 6 0).bind fun x45 => (fI ph x45 9 5).bind fun x48 => (iO ph w2 0).bind fun b51 => (cV (ZZ L xs) d mX0_wind [.ref b51, w1, w0, .int x48] ph).bind fun p51 => (iO p51 (.ref o) 1).bind fun b55 => (cI (ZZ L xs) d mX1_notesAreSo [.ref b55] p51).bind fun p55 => if (p55.2 : Int32) = 0 then RS (ZZ L xs) (d + 1) mX1_rulesThatFit 80 [some (.ref o), some (v1), some (.int i2), some (.int i3), some (.int i4), some (.int i5), some (.int i6)] [] p55.1 else if ¬ (i5 : Int32) = (-2) then RS (ZZ L xs) (d + 1) mX1_rulesThatFit 78 [some (.ref o), some (v1), some (.int i2), some (.int i3), some (.int (i4 + 1)), some (.int i5), some (.int i6)] [.int i5] p55.1 else RS (ZZ L xs) (d + 1) mX1_rulesThatFit 78 [some (.ref o), some (v1), some (.int i2), some (.int i3), some (.int (i4 + 1)), some (.int i5), some (.int i6)] [.int i6] p55.1 := by
  refine Eq.trans (q_aload_n dX1_rulesThatFit_41 (mk0 rfl) rfl rfl) ?_
  refine Eq.trans (q_getR (ci := 1) (k := 0) dX1_rulesThatFit_42 (mk0 rfl) rfl) (bind_cg2 fun x42 hx42 => ?_)
  have hx42 := fR_isR hx42
  refine Eq.trans (q_getR (ci := 6) (k := 0) dX1_rulesThatFit_45 (mk0 rfl) rfl) (bind_cg2 fun x45 hx45 => ?_)
  have hx45 := fR_isR hx45
  refine Eq.trans (q_getI (ci := 9) (k := 5) dX1_rulesThatFit_48 (mk0 rfl) rfl) (bind_cg fun x48 => ?_)
  refine Eq.trans (q_callV (as := [w1, w0, .int x48]) dX1_rulesThatFit_51 (mk0 rfl) rfl rfl rfl (Nat.le_of_ble_eq_true rfl) (by simp [eA, ct_i, ct_l, ct_r, ct_n, ct_x, mX0_wind, (cat_R hw1), (cat_R hw0)])) (bind_cg fun b51 => ?_)
  refine Eq.trans (cV_bind rfl) (bind_cg fun p51 => ?_)
  show RS (ZZ L xs) (d + 1) mX1_rulesThatFit 54 [some (.ref o), some (v1), some (.int i2), some (.int i3), some (.int i4), some (.int i5), some (.int i6)] [] p51 = _
  refine Eq.trans (q_aload_n dX1_rulesThatFit_54 (mk0 rfl) rfl rfl) ?_
  refine Eq.trans (q_callV (as := []) dX1_rulesThatFit_55 (mk0 rfl) rfl rfl rfl (Nat.le_of_ble_eq_true rfl) (Nat.le_of_ble_eq_true rfl)) (bind_cg fun b55 => ?_)
  refine Eq.trans (cI_bind (Or.inr rfl)) (bind_cg fun p55 => ?_)
  show RS (ZZ L xs) (d + 1) mX1_rulesThatFit 58 [some (.ref o), some (v1), some (.int i2), some (.int i3), some (.int i4), some (.int i5), some (.int i6)] [.int p55.2] p55.1 = _
  refine Eq.trans (q_if_eq (t := 80) dX1_rulesThatFit_58 (mk0 rfl) rfl) (ite_cg ?_ ?_)
  · rfl
  · refine Eq.trans (q_iinc (v := 1) (lv2 := [some (.ref o), some (v1), some (.int i2), some (.int i3), some (.int (i4 + 1)), some (.int i5), some (.int i6)]) dX1_rulesThatFit_61 (mk0 rfl) rfl rfl rfl) ?_
    refine Eq.trans (q_iload dX1_rulesThatFit_64 (mk0 rfl) rfl) ?_
    refine Eq.trans (q_bipush (v := (-2)) dX1_rulesThatFit_66 (mk0 rfl) rfl) ?_
    refine Eq.trans (q_icmp_ne (t := 76) dX1_rulesThatFit_68 (mk0 rfl) rfl) (ite_cg ?_ ?_)
    · refine Eq.trans (q_iload dX1_rulesThatFit_76 (mk0 rfl) rfl) ?_
      rfl
    · refine Eq.trans (q_iload dX1_rulesThatFit_71 (mk0 rfl) rfl) ?_
      refine Eq.trans (q_goto (t := 78) dX1_rulesThatFit_73 (mk0 rfl) rfl) ?_
      rfl
set_option maxRecDepth 20000 in
theorem bX1_rulesThatFit_78 {L : Nat} {xs : Nat → Int32} (d : Nat) (o : Nat) (v1 : Value) (i2 : Int32) (i3 : Int32) (i4 : Int32) (u5 : Option Value) (i6 : Int32) (t0 : Int32) (hv1 : isR v1 = true) (ph : PH) : RS (ZZ L xs) (d + 1) mX1_rulesThatFit 78 [some (.ref o), some (v1), some (.int i2), some (.int i3), some (.int i4), u5, some (.int i6)] [.int t0] ph = RS (ZZ L xs) (d + 1) mX1_rulesThatFit 80 [some (.ref o), some (v1), some (.int i2), some (.int i3), some (.int i4), some (.int t0), some (.int i6)] [] ph := by
  refine Eq.trans (q_istore (lv2 := [some (.ref o), some (v1), some (.int i2), some (.int i3), some (.int i4), some (.int t0), some (.int i6)]) dX1_rulesThatFit_78 (show mK mX1_rulesThatFit 78 [some (.ref o), some (v1), some (.int i2), some (.int i3), some (.int i4), u5, some (.int i6)] = [some (.ref o), some (v1), some (.int i2), some (.int i3), some (.int i4), none, some (.int i6)] from rfl) (Nat.le_of_ble_eq_true rfl) rfl) ?_
  rfl
set_option maxRecDepth 20000 in
theorem bX1_rulesThatFit_80 {L : Nat} {xs : Nat → Int32} (d : Nat) (o : Nat) (v1 : Value) (i2 : Int32) (i3 : Int32) (i4 : Int32) (i5 : Int32) (i6 : Int32) (hv1 : isR v1 = true) (ph : PH) : RS (ZZ L xs) (d + 1) mX1_rulesThatFit 80 [some (.ref o), some (v1), some (.int i2), some (.int i3), some (.int i4), some (.int i5), some (.int i6)] [] ph = RS (ZZ L xs) (d + 1) mX1_rulesThatFit 10 [some (.ref o), some (v1), some (.int i2), some (.int i3), some (.int i4), some (.int i5), some (.int (i6 + 1))] [] ph := by
  refine Eq.trans (q_iinc (v := 1) (lv2 := [some (.ref o), some (v1), some (.int i2), some (.int i3), some (.int i4), some (.int i5), some (.int (i6 + 1))]) dX1_rulesThatFit_80 (mk0 rfl) rfl rfl rfl) ?_
  refine Eq.trans (q_goto (t := 10) dX1_rulesThatFit_83 (mk0 rfl) rfl) ?_
  rfl
set_option maxRecDepth 20000 in
theorem bX1_rulesThatFit_97 {L : Nat} {xs : Nat → Int32} (d : Nat) (u0 : Option Value) (u1 : Option Value) (u2 : Option Value) (u3 : Option Value) (u4 : Option Value) (u5 : Option Value) (u6 : Option Value) (t0 : Int32) (ph : PH) : RS (ZZ L xs) (d + 1) mX1_rulesThatFit 97 [u0, u1, u2, u3, u4, u5, u6] [.int t0] ph = some (ph, some (.int t0)) := by
  exact q_ireturn dX1_rulesThatFit_97 (show mK mX1_rulesThatFit 97 [u0, u1, u2, u3, u4, u5, u6] = [none, none, none, none, none, none, none] from rfl) rfl
set_option maxRecDepth 20000 in
theorem bX1_bestLook_0 {L : Nat} {xs : Nat → Int32} (d : Nat) (o : Nat) (v1 : Value) (i2 : Int32) (i3 : Int32) (i4 : Int32) (hv1 : isR v1 = true) (ph : PH) : RS (ZZ L xs) (d + 1) mX1_bestLook 0 [some (.ref o), some (v1), some (.int i2), some (.int i3), some (.int i4), none, none, none, none, none] [] ph = RS (ZZ L xs) (d + 1) mX1_bestLook 6 [some (.ref o), some (v1), some (.int i2), some (.int i3), some (.int i4), some (.int 0), some (.int ((-1))), none, none, none] [] ph := by
  refine Eq.trans (q_iconst (v := 0) dX1_bestLook_0 (mk0 rfl) rfl) ?_
  refine Eq.trans (q_istore (lv2 := [some (.ref o), some (v1), some (.int i2), some (.int i3), some (.int i4), some (.int 0), none, none, none, none]) dX1_bestLook_1 (mk0 rfl) (Nat.le_of_ble_eq_true rfl) rfl) ?_
  refine Eq.trans (q_iconst (v := (-1)) dX1_bestLook_3 (mk0 rfl) rfl) ?_
  refine Eq.trans (q_istore (lv2 := [some (.ref o), some (v1), some (.int i2), some (.int i3), some (.int i4), some (.int 0), some (.int ((-1))), none, none, none]) dX1_bestLook_4 (mk0 rfl) (Nat.le_of_ble_eq_true rfl) rfl) ?_
  rfl
set_option maxRecDepth 20000 in
theorem bX1_bestLook_6 {L : Nat} {xs : Nat → Int32} (d : Nat) (o : Nat) (v1 : Value) (i2 : Int32) (i3 : Int32) (i4 : Int32) (i5 : Int32) (i6 : Int32) (u7 : Option Value) (u8 : Option Value) (u9 : Option Value) (hv1 : isR v1 = true) (ph : PH) : RS (ZZ L xs) (d + 1) mX1_bestLook 6 [some (.ref o), some (v1), some (.int i2), some (.int i3), some (.int i4), some (.int i5), some (.int i6), u7, u8, u9] [] ph = if (i2 : Int32) ≤ i6 then RS (ZZ L xs) (d + 1) mX1_bestLook 152 [some (.ref o), some (v1), some (.int i2), some (.int i3), some (.int i4), some (.int i5), some (.int ((-2))), some (.int ((-2))), some (.int 0), none] [] ph else (fR ph (.ref o) 1 1).bind fun x13 => (fR ph (.ref o) 1 0).bind fun x17 => (fR ph x17 6 0).bind fun x20 => if ¬ (i6 : Int32) = (-1) then (eR ph v1 i6).bind fun x36 => RS (ZZ L xs) (d + 1) mX1_bestLook 37 [some (.ref o), some (v1), some (.int i2), some (.int i3), some (.int i4), some (.int i5), some (.int i6), none, none, none] [x36, x20, x13] ph else RS (ZZ L xs) (d + 1) mX1_bestLook 37 [some (.ref o), some (v1), some (.int i2), some (.int i3), some (.int i4), some (.int i5), some (.int i6), none, none, none] [.null, x20, x13] ph := by
  refine Eq.trans (q_iload dX1_bestLook_6 (show mK mX1_bestLook 6 [some (.ref o), some (v1), some (.int i2), some (.int i3), some (.int i4), some (.int i5), some (.int i6), u7, u8, u9] = [some (.ref o), some (v1), some (.int i2), some (.int i3), some (.int i4), some (.int i5), some (.int i6), none, none, none] from rfl) rfl) ?_
  refine Eq.trans (q_iload_n dX1_bestLook_8 (mk0 rfl) rfl) ?_
  refine Eq.trans (q_icmp_ge (t := 141) dX1_bestLook_9 (mk0 rfl) rfl) (ite_cg ?_ ?_)
  · refine Eq.trans (q_bipush (v := (-2)) dX1_bestLook_141 (mk0 rfl) rfl) ?_
    refine Eq.trans (q_istore (lv2 := [some (.ref o), some (v1), some (.int i2), some (.int i3), some (.int i4), some (.int i5), some (.int ((-2))), none, none, none]) dX1_bestLook_143 (mk0 rfl) (Nat.le_of_ble_eq_true rfl) rfl) ?_
    refine Eq.trans (q_bipush (v := (-2)) dX1_bestLook_145 (mk0 rfl) rfl) ?_
    refine Eq.trans (q_istore (lv2 := [some (.ref o), some (v1), some (.int i2), some (.int i3), some (.int i4), some (.int i5), some (.int ((-2))), some (.int ((-2))), none, none]) dX1_bestLook_147 (mk0 rfl) (Nat.le_of_ble_eq_true rfl) rfl) ?_
    refine Eq.trans (q_iconst (v := 0) dX1_bestLook_149 (mk0 rfl) rfl) ?_
    refine Eq.trans (q_istore (lv2 := [some (.ref o), some (v1), some (.int i2), some (.int i3), some (.int i4), some (.int i5), some (.int ((-2))), some (.int ((-2))), some (.int 0), none]) dX1_bestLook_150 (mk0 rfl) (Nat.le_of_ble_eq_true rfl) rfl) ?_
    rfl
  · refine Eq.trans (q_aload_n dX1_bestLook_12 (mk0 rfl) rfl rfl) ?_
    refine Eq.trans (q_getR (ci := 1) (k := 1) dX1_bestLook_13 (mk0 rfl) rfl) (bind_cg2 fun x13 hx13 => ?_)
    have hx13 := fR_isR hx13
    refine Eq.trans (q_aload_n dX1_bestLook_16 (mk0 rfl) rfl rfl) ?_
    refine Eq.trans (q_getR (ci := 1) (k := 0) dX1_bestLook_17 (mk0 rfl) rfl) (bind_cg2 fun x17 hx17 => ?_)
    have hx17 := fR_isR hx17
    refine Eq.trans (q_getR (ci := 6) (k := 0) dX1_bestLook_20 (mk0 rfl) rfl) (bind_cg2 fun x20 hx20 => ?_)
    have hx20 := fR_isR hx20
    refine Eq.trans (q_iload dX1_bestLook_23 (mk0 rfl) rfl) ?_
    refine Eq.trans (q_iconst (v := (-1)) dX1_bestLook_25 (mk0 rfl) rfl) ?_
    refine Eq.trans (q_icmp_ne (t := 33) dX1_bestLook_26 (mk0 rfl) rfl) (ite_cg ?_ ?_)
    · refine Eq.trans (q_aload_n dX1_bestLook_33 (mk0 rfl) rfl (isA_R hv1)) ?_
      refine Eq.trans (q_iload dX1_bestLook_34 (mk0 rfl) rfl) ?_
      refine Eq.trans (q_aaload dX1_bestLook_36 (mk0 rfl)) (bind_cg2 fun x36 hx36 => ?_)
      have hx36 := eR_isR hx36
      rfl
    · refine Eq.trans (q_aconst_null dX1_bestLook_29 (mk0 rfl)) ?_
      refine Eq.trans (q_goto (t := 37) dX1_bestLook_30 (mk0 rfl) rfl) ?_
      rfl
set_option maxRecDepth 20000 in
theorem bX1_bestLook_37 {L : Nat} {xs : Nat → Int32} (d : Nat) (o : Nat) (v1 : Value) (i2 : Int32) (i3 : Int32) (i4 : Int32) (i5 : Int32) (i6 : Int32) (u7 : Option Value) (u8 : Option Value) (u9 : Option Value) (w0 : Value) (w1 : Value) (w2 : Value) (hv1 : isR v1 = true) (hw0 : isR w0 = true) (hw1 : isR w1 = true) (hw2 : isR w2 = true) (ph : PH) : RS (ZZ L xs) (d + 1) mX1_bestLook 37 [some (.ref o), some (v1), some (.int i2), some (.int i3), some (.int i4), some (.int i5), some (.int i6), u7, u8, u9] [w0, w1, w2] ph = (fR ph (.ref o) 1 0).bind fun x38 => (fR ph x38 6 0).bind fun x41 => (fI ph x41 9 5).bind fun x44 => (iO ph w2 0).bind fun b47 => (cV (ZZ L xs) d mX0_wind [.ref b47, w1, w0, .int x44] ph).bind fun p47 => (iO p47 (.ref o) 1).bind fun b51 => (cI (ZZ L xs) d mX1_notesAreSo [.ref b51] p47).bind fun p51 => if (p51.2 : Int32) = 0 then RS (ZZ L xs) (d + 1) mX1_bestLook 135 [some (.ref o), some (v1), some (.int i2), some (.int i3), some (.int i4), some (.int i5), some (.int i6), none, none, none] [] p51.1 else (fR p51.1 (.ref o) 1 2).bind fun x58 => (fR p51.1 (.ref o) 1 0).bind fun x62 => (fR p51.1 x62 6 0).bind fun x65 => (iO p51.1 x58 7).bind fun b68 => (cV (ZZ L xs) d mX7_begin [.ref b68, x65] p51.1).bind fun p68 => (fR p68 (.ref o) 1 1).bind fun x72 => (fR p68 (.ref o) 1 2).bind fun x76 => (iO p68 x72 0).bind fun b82 => (cV (ZZ L xs) d mX0_run [.ref b82, x76, .int (i3 + 1)] p68).bind fun p82 => RS (ZZ L xs) (d + 1) mX1_bestLook 88 [some (.ref o), some (v1), some (.int i2), some (.int i3), some (.int i4), some (.int i5), some (.int i6), some (.int 0), none, none] [] p82 := by
  refine Eq.trans (q_aload_n dX1_bestLook_37 (show mK mX1_bestLook 37 [some (.ref o), some (v1), some (.int i2), some (.int i3), some (.int i4), some (.int i5), some (.int i6), u7, u8, u9] = [some (.ref o), some (v1), some (.int i2), some (.int i3), some (.int i4), some (.int i5), some (.int i6), none, none, none] from rfl) rfl rfl) ?_
  refine Eq.trans (q_getR (ci := 1) (k := 0) dX1_bestLook_38 (mk0 rfl) rfl) (bind_cg2 fun x38 hx38 => ?_)
  have hx38 := fR_isR hx38
  refine Eq.trans (q_getR (ci := 6) (k := 0) dX1_bestLook_41 (mk0 rfl) rfl) (bind_cg2 fun x41 hx41 => ?_)
  have hx41 := fR_isR hx41
  refine Eq.trans (q_getI (ci := 9) (k := 5) dX1_bestLook_44 (mk0 rfl) rfl) (bind_cg fun x44 => ?_)
  refine Eq.trans (q_callV (as := [w1, w0, .int x44]) dX1_bestLook_47 (mk0 rfl) rfl rfl rfl (Nat.le_of_ble_eq_true rfl) (by simp [eA, ct_i, ct_l, ct_r, ct_n, ct_x, mX0_wind, (cat_R hw1), (cat_R hw0)])) (bind_cg fun b47 => ?_)
  refine Eq.trans (cV_bind rfl) (bind_cg fun p47 => ?_)
  show RS (ZZ L xs) (d + 1) mX1_bestLook 50 [some (.ref o), some (v1), some (.int i2), some (.int i3), some (.int i4), some (.int i5), some (.int i6), none, none, none] [] p47 = _
  refine Eq.trans (q_aload_n dX1_bestLook_50 (mk0 rfl) rfl rfl) ?_
  refine Eq.trans (q_callV (as := []) dX1_bestLook_51 (mk0 rfl) rfl rfl rfl (Nat.le_of_ble_eq_true rfl) (Nat.le_of_ble_eq_true rfl)) (bind_cg fun b51 => ?_)
  refine Eq.trans (cI_bind (Or.inr rfl)) (bind_cg fun p51 => ?_)
  show RS (ZZ L xs) (d + 1) mX1_bestLook 54 [some (.ref o), some (v1), some (.int i2), some (.int i3), some (.int i4), some (.int i5), some (.int i6), none, none, none] [.int p51.2] p51.1 = _
  refine Eq.trans (q_if_eq (t := 135) dX1_bestLook_54 (mk0 rfl) rfl) (ite_cg ?_ ?_)
  · rfl
  · refine Eq.trans (q_aload_n dX1_bestLook_57 (mk0 rfl) rfl rfl) ?_
    refine Eq.trans (q_getR (ci := 1) (k := 2) dX1_bestLook_58 (mk0 rfl) rfl) (bind_cg2 fun x58 hx58 => ?_)
    have hx58 := fR_isR hx58
    refine Eq.trans (q_aload_n dX1_bestLook_61 (mk0 rfl) rfl rfl) ?_
    refine Eq.trans (q_getR (ci := 1) (k := 0) dX1_bestLook_62 (mk0 rfl) rfl) (bind_cg2 fun x62 hx62 => ?_)
    have hx62 := fR_isR hx62
    refine Eq.trans (q_getR (ci := 6) (k := 0) dX1_bestLook_65 (mk0 rfl) rfl) (bind_cg2 fun x65 hx65 => ?_)
    have hx65 := fR_isR hx65
    refine Eq.trans (q_callV (as := [x65]) dX1_bestLook_68 (mk0 rfl) rfl rfl rfl (Nat.le_of_ble_eq_true rfl) (by simp [eA, ct_i, ct_l, ct_r, ct_n, ct_x, mX7_begin, (cat_R hx65)])) (bind_cg fun b68 => ?_)
    refine Eq.trans (cV_bind rfl) (bind_cg fun p68 => ?_)
    show RS (ZZ L xs) (d + 1) mX1_bestLook 71 [some (.ref o), some (v1), some (.int i2), some (.int i3), some (.int i4), some (.int i5), some (.int i6), none, none, none] [] p68 = _
    refine Eq.trans (q_aload_n dX1_bestLook_71 (mk0 rfl) rfl rfl) ?_
    refine Eq.trans (q_getR (ci := 1) (k := 1) dX1_bestLook_72 (mk0 rfl) rfl) (bind_cg2 fun x72 hx72 => ?_)
    have hx72 := fR_isR hx72
    refine Eq.trans (q_aload_n dX1_bestLook_75 (mk0 rfl) rfl rfl) ?_
    refine Eq.trans (q_getR (ci := 1) (k := 2) dX1_bestLook_76 (mk0 rfl) rfl) (bind_cg2 fun x76 hx76 => ?_)
    have hx76 := fR_isR hx76
    refine Eq.trans (q_iload_n dX1_bestLook_79 (mk0 rfl) rfl) ?_
    refine Eq.trans (q_iconst (v := 1) dX1_bestLook_80 (mk0 rfl) rfl) ?_
    refine Eq.trans (q_iadd dX1_bestLook_81 (mk0 rfl)) ?_
    refine Eq.trans (q_callV (as := [x76, .int (i3 + 1)]) dX1_bestLook_82 (mk0 rfl) rfl rfl rfl (Nat.le_of_ble_eq_true rfl) (by simp [eA, ct_i, ct_l, ct_r, ct_n, ct_x, mX0_run, (cat_R hx76)])) (bind_cg fun b82 => ?_)
    refine Eq.trans (cV_bind rfl) (bind_cg fun p82 => ?_)
    show RS (ZZ L xs) (d + 1) mX1_bestLook 85 [some (.ref o), some (v1), some (.int i2), some (.int i3), some (.int i4), some (.int i5), some (.int i6), none, none, none] [] p82 = _
    refine Eq.trans (q_iconst (v := 0) dX1_bestLook_85 (mk0 rfl) rfl) ?_
    refine Eq.trans (q_istore (lv2 := [some (.ref o), some (v1), some (.int i2), some (.int i3), some (.int i4), some (.int i5), some (.int i6), some (.int 0), none, none]) dX1_bestLook_86 (mk0 rfl) (Nat.le_of_ble_eq_true rfl) rfl) ?_
    rfl
set_option maxRecDepth 20000 in
theorem bX1_bestLook_88 {L : Nat} {xs : Nat → Int32} (d : Nat) (o : Nat) (v1 : Value) (i2 : Int32) (i3 : Int32) (i4 : Int32) (i5 : Int32) (i6 : Int32) (i7 : Int32) (u8 : Option Value) (u9 : Option Value) (hv1 : isR v1 = true) (ph : PH) : RS (ZZ L xs) (d + 1) mX1_bestLook 88 [some (.ref o), some (v1), some (.int i2), some (.int i3), some (.int i4), some (.int i5), some (.int i6), some (.int i7), u8, u9] [] ph = (fR ph (.ref o) 1 0).bind fun x91 => (fR ph x91 6 0).bind fun x94 => (fI ph x94 9 3).bind fun x97 => if (x97 : Int32) ≤ i7 then RS (ZZ L xs) (d + 1) mX1_bestLook 135 [some (.ref o), some (v1), some (.int i2), some (.int i3), some (.int i4), some (.int (i5 + 1)), some (.int i6), some (.int i7), none, none] [] ph else (fR ph (.ref o) 1 3).bind fun x104 => (fR ph (.ref o) 1 1).bind fun x116 => (fR ph x116 0 1).bind fun x119 => (eI ph x119 i7).bind fun x124 => (wI ph x104 ((i7 * 7) + i5) x124).bind fun h125 => RS (ZZ L xs) (d + 1) mX1_bestLook 88 [some (.ref o), some (v1), some (.int i2), some (.int i3), some (.int i4), some (.int i5), some (.int i6), some (.int (i7 + 1)), none, none] [] h125 := by
  refine Eq.trans (q_iload dX1_bestLook_88 (show mK mX1_bestLook 88 [some (.ref o), some (v1), some (.int i2), some (.int i3), some (.int i4), some (.int i5), some (.int i6), some (.int i7), u8, u9] = [some (.ref o), some (v1), some (.int i2), some (.int i3), some (.int i4), some (.int i5), some (.int i6), some (.int i7), none, none] from rfl) rfl) ?_
  refine Eq.trans (q_aload_n dX1_bestLook_90 (mk0 rfl) rfl rfl) ?_
  refine Eq.trans (q_getR (ci := 1) (k := 0) dX1_bestLook_91 (mk0 rfl) rfl) (bind_cg2 fun x91 hx91 => ?_)
  have hx91 := fR_isR hx91
  refine Eq.trans (q_getR (ci := 6) (k := 0) dX1_bestLook_94 (mk0 rfl) rfl) (bind_cg2 fun x94 hx94 => ?_)
  have hx94 := fR_isR hx94
  refine Eq.trans (q_getI (ci := 9) (k := 3) dX1_bestLook_97 (mk0 rfl) rfl) (bind_cg fun x97 => ?_)
  refine Eq.trans (q_icmp_ge (t := 132) dX1_bestLook_100 (mk0 rfl) rfl) (ite_cg ?_ ?_)
  · refine Eq.trans (q_iinc (v := 1) (lv2 := [some (.ref o), some (v1), some (.int i2), some (.int i3), some (.int i4), some (.int (i5 + 1)), some (.int i6), some (.int i7), none, none]) dX1_bestLook_132 (mk0 rfl) rfl rfl rfl) ?_
    rfl
  · refine Eq.trans (q_aload_n dX1_bestLook_103 (mk0 rfl) rfl rfl) ?_
    refine Eq.trans (q_getR (ci := 1) (k := 3) dX1_bestLook_104 (mk0 rfl) rfl) (bind_cg2 fun x104 hx104 => ?_)
    have hx104 := fR_isR hx104
    refine Eq.trans (q_iload dX1_bestLook_107 (mk0 rfl) rfl) ?_
    refine Eq.trans (q_bipush (v := 7) dX1_bestLook_109 (mk0 rfl) rfl) ?_
    refine Eq.trans (q_imul dX1_bestLook_111 (mk0 rfl)) ?_
    refine Eq.trans (q_iload dX1_bestLook_112 (mk0 rfl) rfl) ?_
    refine Eq.trans (q_iadd dX1_bestLook_114 (mk0 rfl)) ?_
    refine Eq.trans (q_aload_n dX1_bestLook_115 (mk0 rfl) rfl rfl) ?_
    refine Eq.trans (q_getR (ci := 1) (k := 1) dX1_bestLook_116 (mk0 rfl) rfl) (bind_cg2 fun x116 hx116 => ?_)
    have hx116 := fR_isR hx116
    refine Eq.trans (q_getR (ci := 0) (k := 1) dX1_bestLook_119 (mk0 rfl) rfl) (bind_cg2 fun x119 hx119 => ?_)
    have hx119 := fR_isR hx119
    refine Eq.trans (q_iload dX1_bestLook_122 (mk0 rfl) rfl) ?_
    refine Eq.trans (q_iaload dX1_bestLook_124 (mk0 rfl) (no_ext hx119)) (bind_cg fun x124 => ?_)
    refine Eq.trans (q_iastore dX1_bestLook_125 (mk0 rfl)) (bind_cg fun h125 => ?_)
    refine Eq.trans (q_iinc (v := 1) (lv2 := [some (.ref o), some (v1), some (.int i2), some (.int i3), some (.int i4), some (.int i5), some (.int i6), some (.int (i7 + 1)), none, none]) dX1_bestLook_126 (mk0 rfl) rfl rfl rfl) ?_
    refine Eq.trans (q_goto (t := 88) dX1_bestLook_129 (mk0 rfl) rfl) ?_
    rfl
set_option maxRecDepth 20000 in
theorem bX1_bestLook_135 {L : Nat} {xs : Nat → Int32} (d : Nat) (o : Nat) (v1 : Value) (i2 : Int32) (i3 : Int32) (i4 : Int32) (i5 : Int32) (i6 : Int32) (u7 : Option Value) (u8 : Option Value) (u9 : Option Value) (hv1 : isR v1 = true) (ph : PH) : RS (ZZ L xs) (d + 1) mX1_bestLook 135 [some (.ref o), some (v1), some (.int i2), some (.int i3), some (.int i4), some (.int i5), some (.int i6), u7, u8, u9] [] ph = RS (ZZ L xs) (d + 1) mX1_bestLook 6 [some (.ref o), some (v1), some (.int i2), some (.int i3), some (.int i4), some (.int i5), some (.int (i6 + 1)), none, none, none] [] ph := by
  refine Eq.trans (q_iinc (v := 1) (lv2 := [some (.ref o), some (v1), some (.int i2), some (.int i3), some (.int i4), some (.int i5), some (.int (i6 + 1)), none, none, none]) dX1_bestLook_135 (show mK mX1_bestLook 135 [some (.ref o), some (v1), some (.int i2), some (.int i3), some (.int i4), some (.int i5), some (.int i6), u7, u8, u9] = [some (.ref o), some (v1), some (.int i2), some (.int i3), some (.int i4), some (.int i5), some (.int i6), none, none, none] from rfl) rfl rfl rfl) ?_
  refine Eq.trans (q_goto (t := 6) dX1_bestLook_138 (mk0 rfl) rfl) ?_
  rfl
set_option maxRecDepth 20000 in
theorem bX1_bestLook_152 {L : Nat} {xs : Nat → Int32} (d : Nat) (o : Nat) (u1 : Option Value) (u2 : Option Value) (u3 : Option Value) (i4 : Int32) (i5 : Int32) (i6 : Int32) (i7 : Int32) (i8 : Int32) (u9 : Option Value) (ph : PH) : RS (ZZ L xs) (d + 1) mX1_bestLook 152 [some (.ref o), u1, u2, u3, some (.int i4), some (.int i5), some (.int i6), some (.int i7), some (.int i8), u9] [] ph = if (i5 : Int32) ≤ 0 then RS (ZZ L xs) (d + 1) mX1_bestLook 213 [some (.ref o), none, none, none, some (.int i4), some (.int i5), some (.int i6), some (.int i7), some (.int i8), none] [] ph else (fR ph (.ref o) 1 0).bind fun x160 => (fR ph x160 6 0).bind fun x163 => (fI ph x163 9 3).bind fun x166 => if (x166 : Int32) ≤ i8 then RS (ZZ L xs) (d + 1) mX1_bestLook 213 [some (.ref o), none, none, none, some (.int i4), some (.int i5), some (.int i6), some (.int i7), some (.int i8), none] [] ph else (iO ph (.ref o) 1).bind fun b180 => (cI (ZZ L xs) d mX1_mostAlike [.ref b180, .int (i8 * 7), .int i5] ph).bind fun p180 => if (i6 : Int32) = (-2) then RS (ZZ L xs) (d + 1) mX1_bestLook 199 [some (.ref o), none, none, none, some (.int i4), some (.int i5), some (.int i6), some (.int i7), some (.int i8), some (.int p180.2)] [] p180.1 else if (i7 : Int32) ≤ p180.2 then RS (ZZ L xs) (d + 1) mX1_bestLook 207 [some (.ref o), none, none, none, some (.int i4), some (.int i5), some (.int i6), some (.int i7), some (.int i8), some (.int p180.2)] [] p180.1 else RS (ZZ L xs) (d + 1) mX1_bestLook 199 [some (.ref o), none, none, none, some (.int i4), some (.int i5), some (.int i6), some (.int i7), some (.int i8), some (.int p180.2)] [] p180.1 := by
  refine Eq.trans (q_iload dX1_bestLook_152 (show mK mX1_bestLook 152 [some (.ref o), u1, u2, u3, some (.int i4), some (.int i5), some (.int i6), some (.int i7), some (.int i8), u9] = [some (.ref o), none, none, none, some (.int i4), some (.int i5), some (.int i6), some (.int i7), some (.int i8), none] from rfl) rfl) ?_
  refine Eq.trans (q_if_le (t := 213) dX1_bestLook_154 (mk0 rfl) rfl) (ite_cg ?_ ?_)
  · rfl
  · refine Eq.trans (q_iload dX1_bestLook_157 (mk0 rfl) rfl) ?_
    refine Eq.trans (q_aload_n dX1_bestLook_159 (mk0 rfl) rfl rfl) ?_
    refine Eq.trans (q_getR (ci := 1) (k := 0) dX1_bestLook_160 (mk0 rfl) rfl) (bind_cg2 fun x160 hx160 => ?_)
    have hx160 := fR_isR hx160
    refine Eq.trans (q_getR (ci := 6) (k := 0) dX1_bestLook_163 (mk0 rfl) rfl) (bind_cg2 fun x163 hx163 => ?_)
    have hx163 := fR_isR hx163
    refine Eq.trans (q_getI (ci := 9) (k := 3) dX1_bestLook_166 (mk0 rfl) rfl) (bind_cg fun x166 => ?_)
    refine Eq.trans (q_icmp_ge (t := 213) dX1_bestLook_169 (mk0 rfl) rfl) (ite_cg ?_ ?_)
    · rfl
    · refine Eq.trans (q_aload_n dX1_bestLook_172 (mk0 rfl) rfl rfl) ?_
      refine Eq.trans (q_iload dX1_bestLook_173 (mk0 rfl) rfl) ?_
      refine Eq.trans (q_bipush (v := 7) dX1_bestLook_175 (mk0 rfl) rfl) ?_
      refine Eq.trans (q_imul dX1_bestLook_177 (mk0 rfl)) ?_
      refine Eq.trans (q_iload dX1_bestLook_178 (mk0 rfl) rfl) ?_
      refine Eq.trans (q_callV (as := [.int (i8 * 7), .int i5]) dX1_bestLook_180 (mk0 rfl) rfl rfl rfl (Nat.le_of_ble_eq_true rfl) (Nat.le_of_ble_eq_true rfl)) (bind_cg fun b180 => ?_)
      refine Eq.trans (cI_bind (Or.inl rfl)) (bind_cg fun p180 => ?_)
      show RS (ZZ L xs) (d + 1) mX1_bestLook 183 [some (.ref o), none, none, none, some (.int i4), some (.int i5), some (.int i6), some (.int i7), some (.int i8), none] [.int p180.2] p180.1 = _
      refine Eq.trans (q_istore (lv2 := [some (.ref o), none, none, none, some (.int i4), some (.int i5), some (.int i6), some (.int i7), some (.int i8), some (.int p180.2)]) dX1_bestLook_183 (mk0 rfl) (Nat.le_of_ble_eq_true rfl) rfl) ?_
      refine Eq.trans (q_iload dX1_bestLook_185 (mk0 rfl) rfl) ?_
      refine Eq.trans (q_bipush (v := (-2)) dX1_bestLook_187 (mk0 rfl) rfl) ?_
      refine Eq.trans (q_icmp_eq (t := 199) dX1_bestLook_189 (mk0 rfl) rfl) (ite_cg ?_ ?_)
      · rfl
      · refine Eq.trans (q_iload dX1_bestLook_192 (mk0 rfl) rfl) ?_
        refine Eq.trans (q_iload dX1_bestLook_194 (mk0 rfl) rfl) ?_
        refine Eq.trans (q_icmp_ge (t := 207) dX1_bestLook_196 (mk0 rfl) rfl) (ite_cg ?_ ?_)
        · rfl
        · rfl
set_option maxRecDepth 20000 in
theorem bX1_bestLook_199 {L : Nat} {xs : Nat → Int32} (d : Nat) (o : Nat) (u1 : Option Value) (u2 : Option Value) (u3 : Option Value) (i4 : Int32) (i5 : Int32) (u6 : Option Value) (u7 : Option Value) (i8 : Int32) (i9 : Int32) (ph : PH) : RS (ZZ L xs) (d + 1) mX1_bestLook 199 [some (.ref o), u1, u2, u3, some (.int i4), some (.int i5), u6, u7, some (.int i8), some (.int i9)] [] ph = RS (ZZ L xs) (d + 1) mX1_bestLook 207 [some (.ref o), none, none, none, some (.int i4), some (.int i5), some (.int i8), some (.int i9), some (.int i8), some (.int i9)] [] ph := by
  refine Eq.trans (q_iload dX1_bestLook_199 (show mK mX1_bestLook 199 [some (.ref o), u1, u2, u3, some (.int i4), some (.int i5), u6, u7, some (.int i8), some (.int i9)] = [some (.ref o), none, none, none, some (.int i4), some (.int i5), none, none, some (.int i8), some (.int i9)] from rfl) rfl) ?_
  refine Eq.trans (q_istore (lv2 := [some (.ref o), none, none, none, some (.int i4), some (.int i5), some (.int i8), none, some (.int i8), some (.int i9)]) dX1_bestLook_201 (mk0 rfl) (Nat.le_of_ble_eq_true rfl) rfl) ?_
  refine Eq.trans (q_iload dX1_bestLook_203 (mk0 rfl) rfl) ?_
  refine Eq.trans (q_istore (lv2 := [some (.ref o), none, none, none, some (.int i4), some (.int i5), some (.int i8), some (.int i9), some (.int i8), some (.int i9)]) dX1_bestLook_205 (mk0 rfl) (Nat.le_of_ble_eq_true rfl) rfl) ?_
  rfl
set_option maxRecDepth 20000 in
theorem bX1_bestLook_207 {L : Nat} {xs : Nat → Int32} (d : Nat) (o : Nat) (u1 : Option Value) (u2 : Option Value) (u3 : Option Value) (i4 : Int32) (i5 : Int32) (i6 : Int32) (i7 : Int32) (i8 : Int32) (u9 : Option Value) (ph : PH) : RS (ZZ L xs) (d + 1) mX1_bestLook 207 [some (.ref o), u1, u2, u3, some (.int i4), some (.int i5), some (.int i6), some (.int i7), some (.int i8), u9] [] ph = RS (ZZ L xs) (d + 1) mX1_bestLook 152 [some (.ref o), none, none, none, some (.int i4), some (.int i5), some (.int i6), some (.int i7), some (.int (i8 + 1)), none] [] ph := by
  refine Eq.trans (q_iinc (v := 1) (lv2 := [some (.ref o), none, none, none, some (.int i4), some (.int i5), some (.int i6), some (.int i7), some (.int (i8 + 1)), none]) dX1_bestLook_207 (show mK mX1_bestLook 207 [some (.ref o), u1, u2, u3, some (.int i4), some (.int i5), some (.int i6), some (.int i7), some (.int i8), u9] = [some (.ref o), none, none, none, some (.int i4), some (.int i5), some (.int i6), some (.int i7), some (.int i8), none] from rfl) rfl rfl rfl) ?_
  refine Eq.trans (q_goto (t := 152) dX1_bestLook_210 (mk0 rfl) rfl) ?_
  rfl
set_option maxRecDepth 20000 in
theorem bX1_bestLook_213 {L : Nat} {xs : Nat → Int32} (d : Nat) (u0 : Option Value) (u1 : Option Value) (u2 : Option Value) (u3 : Option Value) (i4 : Int32) (u5 : Option Value) (i6 : Int32) (i7 : Int32) (u8 : Option Value) (u9 : Option Value) (ph : PH) : RS (ZZ L xs) (d + 1) mX1_bestLook 213 [u0, u1, u2, u3, some (.int i4), u5, some (.int i6), some (.int i7), u8, u9] [] ph = if ¬ (i4 : Int32) = 0 then RS (ZZ L xs) (d + 1) mX1_bestLook 225 [none, none, none, none, some (.int i4), none, some (.int i6), some (.int i7), none, none] [.int i7] ph else RS (ZZ L xs) (d + 1) mX1_bestLook 225 [none, none, none, none, some (.int i4), none, some (.int i6), some (.int i7), none, none] [.int i6] ph := by
  refine Eq.trans (q_iload dX1_bestLook_213 (show mK mX1_bestLook 213 [u0, u1, u2, u3, some (.int i4), u5, some (.int i6), some (.int i7), u8, u9] = [none, none, none, none, some (.int i4), none, some (.int i6), some (.int i7), none, none] from rfl) rfl) ?_
  refine Eq.trans (q_if_ne (t := 223) dX1_bestLook_215 (mk0 rfl) rfl) (ite_cg ?_ ?_)
  · refine Eq.trans (q_iload dX1_bestLook_223 (mk0 rfl) rfl) ?_
    rfl
  · refine Eq.trans (q_iload dX1_bestLook_218 (mk0 rfl) rfl) ?_
    refine Eq.trans (q_goto (t := 225) dX1_bestLook_220 (mk0 rfl) rfl) ?_
    rfl
set_option maxRecDepth 20000 in
theorem bX1_bestLook_225 {L : Nat} {xs : Nat → Int32} (d : Nat) (u0 : Option Value) (u1 : Option Value) (u2 : Option Value) (u3 : Option Value) (u4 : Option Value) (u5 : Option Value) (u6 : Option Value) (u7 : Option Value) (u8 : Option Value) (u9 : Option Value) (t0 : Int32) (ph : PH) : RS (ZZ L xs) (d + 1) mX1_bestLook 225 [u0, u1, u2, u3, u4, u5, u6, u7, u8, u9] [.int t0] ph = some (ph, some (.int t0)) := by
  exact q_ireturn dX1_bestLook_225 (show mK mX1_bestLook 225 [u0, u1, u2, u3, u4, u5, u6, u7, u8, u9] = [none, none, none, none, none, none, none, none, none, none] from rfl) rfl
set_option maxRecDepth 20000 in
theorem bX1_mostAlike_0 {L : Nat} {xs : Nat → Int32} (d : Nat) (o : Nat) (i1 : Int32) (i2 : Int32) (ph : PH) : RS (ZZ L xs) (d + 1) mX1_mostAlike 0 [some (.ref o), some (.int i1), some (.int i2), none, none, none, none] [] ph = RS (ZZ L xs) (d + 1) mX1_mostAlike 5 [some (.ref o), some (.int i1), some (.int i2), some (.int 0), some (.int 0), none, none] [] ph := by
  refine Eq.trans (q_iconst (v := 0) dX1_mostAlike_0 (mk0 rfl) rfl) ?_
  refine Eq.trans (q_istore_n (lv2 := [some (.ref o), some (.int i1), some (.int i2), some (.int 0), none, none, none]) dX1_mostAlike_1 (mk0 rfl) (Nat.le_of_ble_eq_true rfl) rfl) ?_
  refine Eq.trans (q_iconst (v := 0) dX1_mostAlike_2 (mk0 rfl) rfl) ?_
  refine Eq.trans (q_istore (lv2 := [some (.ref o), some (.int i1), some (.int i2), some (.int 0), some (.int 0), none, none]) dX1_mostAlike_3 (mk0 rfl) (Nat.le_of_ble_eq_true rfl) rfl) ?_
  rfl
set_option maxRecDepth 20000 in
theorem bX1_mostAlike_5 {L : Nat} {xs : Nat → Int32} (d : Nat) (o : Nat) (i1 : Int32) (i2 : Int32) (i3 : Int32) (i4 : Int32) (u5 : Option Value) (u6 : Option Value) (ph : PH) : RS (ZZ L xs) (d + 1) mX1_mostAlike 5 [some (.ref o), some (.int i1), some (.int i2), some (.int i3), some (.int i4), u5, u6] [] ph = if (i2 : Int32) ≤ i4 then some (ph, some (.int i3)) else RS (ZZ L xs) (d + 1) mX1_mostAlike 17 [some (.ref o), some (.int i1), some (.int i2), some (.int i3), some (.int i4), some (.int 0), some (.int 0)] [] ph := by
  refine Eq.trans (q_iload dX1_mostAlike_5 (show mK mX1_mostAlike 5 [some (.ref o), some (.int i1), some (.int i2), some (.int i3), some (.int i4), u5, u6] = [some (.ref o), some (.int i1), some (.int i2), some (.int i3), some (.int i4), none, none] from rfl) rfl) ?_
  refine Eq.trans (q_iload_n dX1_mostAlike_7 (mk0 rfl) rfl) ?_
  refine Eq.trans (q_icmp_ge (t := 73) dX1_mostAlike_8 (mk0 rfl) rfl) (ite_cg ?_ ?_)
  · refine Eq.trans (q_iload_n dX1_mostAlike_73 (mk0 rfl) rfl) ?_
    exact q_ireturn dX1_mostAlike_74 (mk0 rfl) rfl
  · refine Eq.trans (q_iconst (v := 0) dX1_mostAlike_11 (mk0 rfl) rfl) ?_
    refine Eq.trans (q_istore (lv2 := [some (.ref o), some (.int i1), some (.int i2), some (.int i3), some (.int i4), some (.int 0), none]) dX1_mostAlike_12 (mk0 rfl) (Nat.le_of_ble_eq_true rfl) rfl) ?_
    refine Eq.trans (q_iconst (v := 0) dX1_mostAlike_14 (mk0 rfl) rfl) ?_
    refine Eq.trans (q_istore (lv2 := [some (.ref o), some (.int i1), some (.int i2), some (.int i3), some (.int i4), some (.int 0), some (.int 0)]) dX1_mostAlike_15 (mk0 rfl) (Nat.le_of_ble_eq_true rfl) rfl) ?_
    rfl
set_option maxRecDepth 20000 in
theorem bX1_mostAlike_17 {L : Nat} {xs : Nat → Int32} (d : Nat) (o : Nat) (i1 : Int32) (i2 : Int32) (i3 : Int32) (i4 : Int32) (i5 : Int32) (i6 : Int32) (ph : PH) : RS (ZZ L xs) (d + 1) mX1_mostAlike 17 [some (.ref o), some (.int i1), some (.int i2), some (.int i3), some (.int i4), some (.int i5), some (.int i6)] [] ph = if (i2 : Int32) ≤ i6 then RS (ZZ L xs) (d + 1) mX1_mostAlike 5 [some (.ref o), some (.int i1), some (.int i2), some (.int (if (i3 : Int32) < i5 then i5 else i3)), some (.int (i4 + 1)), some (.int i5), some (.int i6)] [] ph else (fR ph (.ref o) 1 3).bind fun x26 => (eI ph x26 (i1 + i4)).bind fun x33 => (fR ph (.ref o) 1 3).bind fun x35 => (eI ph x35 (i1 + i6)).bind fun x42 => if ¬ (x33 : Int32) = x42 then RS (ZZ L xs) (d + 1) mX1_mostAlike 51 [some (.ref o), some (.int i1), some (.int i2), some (.int i3), some (.int i4), some (.int i5), some (.int i6)] [.int 0, .int i5] ph else RS (ZZ L xs) (d + 1) mX1_mostAlike 51 [some (.ref o), some (.int i1), some (.int i2), some (.int i3), some (.int i4), some (.int i5), some (.int i6)] [.int 1, .int i5] ph := by
  refine Eq.trans (q_iload dX1_mostAlike_17 (mk0 rfl) rfl) ?_
  refine Eq.trans (q_iload_n dX1_mostAlike_19 (mk0 rfl) rfl) ?_
  refine Eq.trans (q_icmp_ge (t := 60) dX1_mostAlike_20 (mk0 rfl) rfl) (ite_cg ?_ ?_)
  · refine Eq.trans (q_iload_n dX1_mostAlike_60 (mk0 rfl) rfl) ?_
    refine Eq.trans (q_iload dX1_mostAlike_61 (mk0 rfl) rfl) ?_
    refine Eq.trans (q_max dX1_mostAlike_63 (mk0 rfl) rfl (Nat.le_of_ble_eq_true rfl)) ?_
    refine Eq.trans (q_istore_n (lv2 := [some (.ref o), some (.int i1), some (.int i2), some (.int (if (i3 : Int32) < i5 then i5 else i3)), some (.int i4), some (.int i5), some (.int i6)]) dX1_mostAlike_66 (mk0 rfl) (Nat.le_of_ble_eq_true rfl) rfl) ?_
    refine Eq.trans (q_iinc (v := 1) (lv2 := [some (.ref o), some (.int i1), some (.int i2), some (.int (if (i3 : Int32) < i5 then i5 else i3)), some (.int (i4 + 1)), some (.int i5), some (.int i6)]) dX1_mostAlike_67 (mk0 rfl) rfl rfl rfl) ?_
    refine Eq.trans (q_goto (t := 5) dX1_mostAlike_70 (mk0 rfl) rfl) ?_
    rfl
  · refine Eq.trans (q_iload dX1_mostAlike_23 (mk0 rfl) rfl) ?_
    refine Eq.trans (q_aload_n dX1_mostAlike_25 (mk0 rfl) rfl rfl) ?_
    refine Eq.trans (q_getR (ci := 1) (k := 3) dX1_mostAlike_26 (mk0 rfl) rfl) (bind_cg2 fun x26 hx26 => ?_)
    have hx26 := fR_isR hx26
    refine Eq.trans (q_iload_n dX1_mostAlike_29 (mk0 rfl) rfl) ?_
    refine Eq.trans (q_iload dX1_mostAlike_30 (mk0 rfl) rfl) ?_
    refine Eq.trans (q_iadd dX1_mostAlike_32 (mk0 rfl)) ?_
    refine Eq.trans (q_iaload dX1_mostAlike_33 (mk0 rfl) (no_ext hx26)) (bind_cg fun x33 => ?_)
    refine Eq.trans (q_aload_n dX1_mostAlike_34 (mk0 rfl) rfl rfl) ?_
    refine Eq.trans (q_getR (ci := 1) (k := 3) dX1_mostAlike_35 (mk0 rfl) rfl) (bind_cg2 fun x35 hx35 => ?_)
    have hx35 := fR_isR hx35
    refine Eq.trans (q_iload_n dX1_mostAlike_38 (mk0 rfl) rfl) ?_
    refine Eq.trans (q_iload dX1_mostAlike_39 (mk0 rfl) rfl) ?_
    refine Eq.trans (q_iadd dX1_mostAlike_41 (mk0 rfl)) ?_
    refine Eq.trans (q_iaload dX1_mostAlike_42 (mk0 rfl) (no_ext hx35)) (bind_cg fun x42 => ?_)
    refine Eq.trans (q_icmp_ne (t := 50) dX1_mostAlike_43 (mk0 rfl) rfl) (ite_cg ?_ ?_)
    · refine Eq.trans (q_iconst (v := 0) dX1_mostAlike_50 (mk0 rfl) rfl) ?_
      rfl
    · refine Eq.trans (q_iconst (v := 1) dX1_mostAlike_46 (mk0 rfl) rfl) ?_
      refine Eq.trans (q_goto (t := 51) dX1_mostAlike_47 (mk0 rfl) rfl) ?_
      rfl
set_option maxRecDepth 20000 in
theorem bX1_mostAlike_51 {L : Nat} {xs : Nat → Int32} (d : Nat) (o : Nat) (i1 : Int32) (i2 : Int32) (i3 : Int32) (i4 : Int32) (u5 : Option Value) (i6 : Int32) (t0 : Int32) (t1 : Int32) (ph : PH) : RS (ZZ L xs) (d + 1) mX1_mostAlike 51 [some (.ref o), some (.int i1), some (.int i2), some (.int i3), some (.int i4), u5, some (.int i6)] [.int t0, .int t1] ph = RS (ZZ L xs) (d + 1) mX1_mostAlike 17 [some (.ref o), some (.int i1), some (.int i2), some (.int i3), some (.int i4), some (.int (t1 + t0)), some (.int (i6 + 1))] [] ph := by
  refine Eq.trans (q_iadd dX1_mostAlike_51 (show mK mX1_mostAlike 51 [some (.ref o), some (.int i1), some (.int i2), some (.int i3), some (.int i4), u5, some (.int i6)] = [some (.ref o), some (.int i1), some (.int i2), some (.int i3), some (.int i4), none, some (.int i6)] from rfl)) ?_
  refine Eq.trans (q_istore (lv2 := [some (.ref o), some (.int i1), some (.int i2), some (.int i3), some (.int i4), some (.int (t1 + t0)), some (.int i6)]) dX1_mostAlike_52 (mk0 rfl) (Nat.le_of_ble_eq_true rfl) rfl) ?_
  refine Eq.trans (q_iinc (v := 1) (lv2 := [some (.ref o), some (.int i1), some (.int i2), some (.int i3), some (.int i4), some (.int (t1 + t0)), some (.int (i6 + 1))]) dX1_mostAlike_54 (mk0 rfl) rfl rfl rfl) ?_
  refine Eq.trans (q_goto (t := 17) dX1_mostAlike_57 (mk0 rfl) rfl) ?_
  rfl
set_option maxRecDepth 20000 in
theorem bX1_notesAreSo_0 {L : Nat} {xs : Nat → Int32} (d : Nat) (o : Nat) (ph : PH) : RS (ZZ L xs) (d + 1) mX1_notesAreSo 0 [some (.ref o), none, none, none] [] ph = RS (ZZ L xs) (d + 1) mX1_notesAreSo 4 [some (.ref o), some (.int ((-1))), some (.int 0), none] [] ph := by
  refine Eq.trans (q_iconst (v := (-1)) dX1_notesAreSo_0 (mk0 rfl) rfl) ?_
  refine Eq.trans (q_istore_n (lv2 := [some (.ref o), some (.int ((-1))), none, none]) dX1_notesAreSo_1 (mk0 rfl) (Nat.le_of_ble_eq_true rfl) rfl) ?_
  refine Eq.trans (q_iconst (v := 0) dX1_notesAreSo_2 (mk0 rfl) rfl) ?_
  refine Eq.trans (q_istore_n (lv2 := [some (.ref o), some (.int ((-1))), some (.int 0), none]) dX1_notesAreSo_3 (mk0 rfl) (Nat.le_of_ble_eq_true rfl) rfl) ?_
  rfl
set_option maxRecDepth 20000 in
theorem bX1_notesAreSo_4 {L : Nat} {xs : Nat → Int32} (d : Nat) (o : Nat) (i1 : Int32) (i2 : Int32) (u3 : Option Value) (ph : PH) : RS (ZZ L xs) (d + 1) mX1_notesAreSo 4 [some (.ref o), some (.int i1), some (.int i2), u3] [] ph = (fR ph (.ref o) 1 0).bind fun x6 => (fI ph x6 6 5).bind fun x9 => if (x9 : Int32) ≤ i2 then (fR ph (.ref o) 1 2).bind fun x36 => (fR ph (.ref o) 1 0).bind fun x40 => (fR ph x40 6 0).bind fun x43 => (iO ph x36 7).bind fun b46 => (cV (ZZ L xs) d mX7_begin [.ref b46, x43] ph).bind fun p46 => RS (ZZ L xs) (d + 1) mX1_notesAreSo 51 [some (.ref o), some (.int i1), some (.int 0), none] [] p46 else (fR ph (.ref o) 1 0).bind fun x17 => (fR ph x17 6 6).bind fun x20 => (eI ph x20 i2).bind fun x24 => RS (ZZ L xs) (d + 1) mX1_notesAreSo 4 [some (.ref o), some (.int (if (i1 : Int32) < x24 then x24 else i1)), some (.int (i2 + 1)), none] [] ph := by
  refine Eq.trans (q_iload_n dX1_notesAreSo_4 (show mK mX1_notesAreSo 4 [some (.ref o), some (.int i1), some (.int i2), u3] = [some (.ref o), some (.int i1), some (.int i2), none] from rfl) rfl) ?_
  refine Eq.trans (q_aload_n dX1_notesAreSo_5 (mk0 rfl) rfl rfl) ?_
  refine Eq.trans (q_getR (ci := 1) (k := 0) dX1_notesAreSo_6 (mk0 rfl) rfl) (bind_cg2 fun x6 hx6 => ?_)
  have hx6 := fR_isR hx6
  refine Eq.trans (q_getI (ci := 6) (k := 5) dX1_notesAreSo_9 (mk0 rfl) rfl) (bind_cg fun x9 => ?_)
  refine Eq.trans (q_icmp_ge (t := 35) dX1_notesAreSo_12 (mk0 rfl) rfl) (ite_cg ?_ ?_)
  · refine Eq.trans (q_aload_n dX1_notesAreSo_35 (mk0 rfl) rfl rfl) ?_
    refine Eq.trans (q_getR (ci := 1) (k := 2) dX1_notesAreSo_36 (mk0 rfl) rfl) (bind_cg2 fun x36 hx36 => ?_)
    have hx36 := fR_isR hx36
    refine Eq.trans (q_aload_n dX1_notesAreSo_39 (mk0 rfl) rfl rfl) ?_
    refine Eq.trans (q_getR (ci := 1) (k := 0) dX1_notesAreSo_40 (mk0 rfl) rfl) (bind_cg2 fun x40 hx40 => ?_)
    have hx40 := fR_isR hx40
    refine Eq.trans (q_getR (ci := 6) (k := 0) dX1_notesAreSo_43 (mk0 rfl) rfl) (bind_cg2 fun x43 hx43 => ?_)
    have hx43 := fR_isR hx43
    refine Eq.trans (q_callV (as := [x43]) dX1_notesAreSo_46 (mk0 rfl) rfl rfl rfl (Nat.le_of_ble_eq_true rfl) (by simp [eA, ct_i, ct_l, ct_r, ct_n, ct_x, mX7_begin, (cat_R hx43)])) (bind_cg fun b46 => ?_)
    refine Eq.trans (cV_bind rfl) (bind_cg fun p46 => ?_)
    show RS (ZZ L xs) (d + 1) mX1_notesAreSo 49 [some (.ref o), some (.int i1), some (.int i2), none] [] p46 = _
    refine Eq.trans (q_iconst (v := 0) dX1_notesAreSo_49 (mk0 rfl) rfl) ?_
    refine Eq.trans (q_istore_n (lv2 := [some (.ref o), some (.int i1), some (.int 0), none]) dX1_notesAreSo_50 (mk0 rfl) (Nat.le_of_ble_eq_true rfl) rfl) ?_
    rfl
  · refine Eq.trans (q_iload_n dX1_notesAreSo_15 (mk0 rfl) rfl) ?_
    refine Eq.trans (q_aload_n dX1_notesAreSo_16 (mk0 rfl) rfl rfl) ?_
    refine Eq.trans (q_getR (ci := 1) (k := 0) dX1_notesAreSo_17 (mk0 rfl) rfl) (bind_cg2 fun x17 hx17 => ?_)
    have hx17 := fR_isR hx17
    refine Eq.trans (q_getR (ci := 6) (k := 6) dX1_notesAreSo_20 (mk0 rfl) rfl) (bind_cg2 fun x20 hx20 => ?_)
    have hx20 := fR_isR hx20
    refine Eq.trans (q_iload_n dX1_notesAreSo_23 (mk0 rfl) rfl) ?_
    refine Eq.trans (q_iaload dX1_notesAreSo_24 (mk0 rfl) (no_ext hx20)) (bind_cg fun x24 => ?_)
    refine Eq.trans (q_max dX1_notesAreSo_25 (mk0 rfl) rfl (Nat.le_of_ble_eq_true rfl)) ?_
    refine Eq.trans (q_istore_n (lv2 := [some (.ref o), some (.int (if (i1 : Int32) < x24 then x24 else i1)), some (.int i2), none]) dX1_notesAreSo_28 (mk0 rfl) (Nat.le_of_ble_eq_true rfl) rfl) ?_
    refine Eq.trans (q_iinc (v := 1) (lv2 := [some (.ref o), some (.int (if (i1 : Int32) < x24 then x24 else i1)), some (.int (i2 + 1)), none]) dX1_notesAreSo_29 (mk0 rfl) rfl rfl rfl) ?_
    refine Eq.trans (q_goto (t := 4) dX1_notesAreSo_32 (mk0 rfl) rfl) ?_
    rfl
set_option maxRecDepth 20000 in
theorem bX1_notesAreSo_51 {L : Nat} {xs : Nat → Int32} (d : Nat) (o : Nat) (i1 : Int32) (i2 : Int32) (u3 : Option Value) (ph : PH) : RS (ZZ L xs) (d + 1) mX1_notesAreSo 51 [some (.ref o), some (.int i1), some (.int i2), u3] [] ph = if (i1 : Int32) < i2 then if (1 : Int32) = 0 ∨ (1 : Int32) = 1 then some (ph, some (.int 1)) else none else (fR ph (.ref o) 1 1).bind fun x57 => (fR ph (.ref o) 1 2).bind fun x61 => (iO ph x57 0).bind fun b64 => (cI (ZZ L xs) d mX0_pass [.ref b64, x61] ph).bind fun p64 => RS (ZZ L xs) (d + 1) mX1_notesAreSo 70 [some (.ref o), some (.int i1), some (.int i2), some (.int 0)] [] p64.1 := by
  refine Eq.trans (q_iload_n dX1_notesAreSo_51 (show mK mX1_notesAreSo 51 [some (.ref o), some (.int i1), some (.int i2), u3] = [some (.ref o), some (.int i1), some (.int i2), none] from rfl) rfl) ?_
  refine Eq.trans (q_iload_n dX1_notesAreSo_52 (mk0 rfl) rfl) ?_
  refine Eq.trans (q_icmp_gt (t := 137) dX1_notesAreSo_53 (mk0 rfl) rfl) (ite_cg ?_ ?_)
  · refine Eq.trans (q_iconst (v := 1) dX1_notesAreSo_137 (mk0 rfl) rfl) ?_
    exact q_zreturn dX1_notesAreSo_138 (mk0 rfl) rfl
  · refine Eq.trans (q_aload_n dX1_notesAreSo_56 (mk0 rfl) rfl rfl) ?_
    refine Eq.trans (q_getR (ci := 1) (k := 1) dX1_notesAreSo_57 (mk0 rfl) rfl) (bind_cg2 fun x57 hx57 => ?_)
    have hx57 := fR_isR hx57
    refine Eq.trans (q_aload_n dX1_notesAreSo_60 (mk0 rfl) rfl rfl) ?_
    refine Eq.trans (q_getR (ci := 1) (k := 2) dX1_notesAreSo_61 (mk0 rfl) rfl) (bind_cg2 fun x61 hx61 => ?_)
    have hx61 := fR_isR hx61
    refine Eq.trans (q_callV (as := [x61]) dX1_notesAreSo_64 (mk0 rfl) rfl rfl rfl (Nat.le_of_ble_eq_true rfl) (by simp [eA, ct_i, ct_l, ct_r, ct_n, ct_x, mX0_pass, (cat_R hx61)])) (bind_cg fun b64 => ?_)
    refine Eq.trans (cI_bind (Or.inl rfl)) (bind_cg fun p64 => ?_)
    show RS (ZZ L xs) (d + 1) mX1_notesAreSo 67 [some (.ref o), some (.int i1), some (.int i2), none] [.int p64.2] p64.1 = _
    refine Eq.trans (q_pop dX1_notesAreSo_67 (mk0 rfl) rfl) ?_
    refine Eq.trans (q_iconst (v := 0) dX1_notesAreSo_68 (mk0 rfl) rfl) ?_
    refine Eq.trans (q_istore_n (lv2 := [some (.ref o), some (.int i1), some (.int i2), some (.int 0)]) dX1_notesAreSo_69 (mk0 rfl) (Nat.le_of_ble_eq_true rfl) rfl) ?_
    rfl
set_option maxRecDepth 20000 in
theorem bX1_notesAreSo_70 {L : Nat} {xs : Nat → Int32} (d : Nat) (o : Nat) (i1 : Int32) (i2 : Int32) (i3 : Int32) (ph : PH) : RS (ZZ L xs) (d + 1) mX1_notesAreSo 70 [some (.ref o), some (.int i1), some (.int i2), some (.int i3)] [] ph = (fR ph (.ref o) 1 0).bind fun x72 => (fI ph x72 6 5).bind fun x75 => if (x75 : Int32) ≤ i3 then RS (ZZ L xs) (d + 1) mX1_notesAreSo 51 [some (.ref o), some (.int i1), some (.int (i2 + 1)), some (.int i3)] [] ph else (fR ph (.ref o) 1 0).bind fun x82 => (fR ph x82 6 6).bind fun x85 => (eI ph x85 i3).bind fun x89 => if ¬ (x89 : Int32) = i2 then RS (ZZ L xs) (d + 1) mX1_notesAreSo 125 [some (.ref o), some (.int i1), some (.int i2), some (.int i3)] [] ph else (fR ph (.ref o) 1 1).bind fun x95 => (fR ph x95 0 1).bind fun x98 => (fR ph (.ref o) 1 0).bind fun x102 => (fR ph x102 6 7).bind fun x105 => (eI ph x105 i3).bind fun x109 => (eI ph x98 x109).bind fun x110 => (fR ph (.ref o) 1 0).bind fun x112 => (fR ph x112 6 8).bind fun x115 => (eI ph x115 i3).bind fun x119 => if (x110 : Int32) = x119 then RS (ZZ L xs) (d + 1) mX1_notesAreSo 125 [some (.ref o), some (.int i1), some (.int i2), some (.int i3)] [] ph else if (0 : Int32) = 0 ∨ (0 : Int32) = 1 then some (ph, some (.int 0)) else none := by
  refine Eq.trans (q_iload_n dX1_notesAreSo_70 (mk0 rfl) rfl) ?_
  refine Eq.trans (q_aload_n dX1_notesAreSo_71 (mk0 rfl) rfl rfl) ?_
  refine Eq.trans (q_getR (ci := 1) (k := 0) dX1_notesAreSo_72 (mk0 rfl) rfl) (bind_cg2 fun x72 hx72 => ?_)
  have hx72 := fR_isR hx72
  refine Eq.trans (q_getI (ci := 6) (k := 5) dX1_notesAreSo_75 (mk0 rfl) rfl) (bind_cg fun x75 => ?_)
  refine Eq.trans (q_icmp_ge (t := 131) dX1_notesAreSo_78 (mk0 rfl) rfl) (ite_cg ?_ ?_)
  · refine Eq.trans (q_iinc (v := 1) (lv2 := [some (.ref o), some (.int i1), some (.int (i2 + 1)), some (.int i3)]) dX1_notesAreSo_131 (mk0 rfl) rfl rfl rfl) ?_
    refine Eq.trans (q_goto (t := 51) dX1_notesAreSo_134 (mk0 rfl) rfl) ?_
    rfl
  · refine Eq.trans (q_aload_n dX1_notesAreSo_81 (mk0 rfl) rfl rfl) ?_
    refine Eq.trans (q_getR (ci := 1) (k := 0) dX1_notesAreSo_82 (mk0 rfl) rfl) (bind_cg2 fun x82 hx82 => ?_)
    have hx82 := fR_isR hx82
    refine Eq.trans (q_getR (ci := 6) (k := 6) dX1_notesAreSo_85 (mk0 rfl) rfl) (bind_cg2 fun x85 hx85 => ?_)
    have hx85 := fR_isR hx85
    refine Eq.trans (q_iload_n dX1_notesAreSo_88 (mk0 rfl) rfl) ?_
    refine Eq.trans (q_iaload dX1_notesAreSo_89 (mk0 rfl) (no_ext hx85)) (bind_cg fun x89 => ?_)
    refine Eq.trans (q_iload_n dX1_notesAreSo_90 (mk0 rfl) rfl) ?_
    refine Eq.trans (q_icmp_ne (t := 125) dX1_notesAreSo_91 (mk0 rfl) rfl) (ite_cg ?_ ?_)
    · rfl
    · refine Eq.trans (q_aload_n dX1_notesAreSo_94 (mk0 rfl) rfl rfl) ?_
      refine Eq.trans (q_getR (ci := 1) (k := 1) dX1_notesAreSo_95 (mk0 rfl) rfl) (bind_cg2 fun x95 hx95 => ?_)
      have hx95 := fR_isR hx95
      refine Eq.trans (q_getR (ci := 0) (k := 1) dX1_notesAreSo_98 (mk0 rfl) rfl) (bind_cg2 fun x98 hx98 => ?_)
      have hx98 := fR_isR hx98
      refine Eq.trans (q_aload_n dX1_notesAreSo_101 (mk0 rfl) rfl rfl) ?_
      refine Eq.trans (q_getR (ci := 1) (k := 0) dX1_notesAreSo_102 (mk0 rfl) rfl) (bind_cg2 fun x102 hx102 => ?_)
      have hx102 := fR_isR hx102
      refine Eq.trans (q_getR (ci := 6) (k := 7) dX1_notesAreSo_105 (mk0 rfl) rfl) (bind_cg2 fun x105 hx105 => ?_)
      have hx105 := fR_isR hx105
      refine Eq.trans (q_iload_n dX1_notesAreSo_108 (mk0 rfl) rfl) ?_
      refine Eq.trans (q_iaload dX1_notesAreSo_109 (mk0 rfl) (no_ext hx105)) (bind_cg fun x109 => ?_)
      refine Eq.trans (q_iaload dX1_notesAreSo_110 (mk0 rfl) (no_ext hx98)) (bind_cg fun x110 => ?_)
      refine Eq.trans (q_aload_n dX1_notesAreSo_111 (mk0 rfl) rfl rfl) ?_
      refine Eq.trans (q_getR (ci := 1) (k := 0) dX1_notesAreSo_112 (mk0 rfl) rfl) (bind_cg2 fun x112 hx112 => ?_)
      have hx112 := fR_isR hx112
      refine Eq.trans (q_getR (ci := 6) (k := 8) dX1_notesAreSo_115 (mk0 rfl) rfl) (bind_cg2 fun x115 hx115 => ?_)
      have hx115 := fR_isR hx115
      refine Eq.trans (q_iload_n dX1_notesAreSo_118 (mk0 rfl) rfl) ?_
      refine Eq.trans (q_iaload dX1_notesAreSo_119 (mk0 rfl) (no_ext hx115)) (bind_cg fun x119 => ?_)
      refine Eq.trans (q_icmp_eq (t := 125) dX1_notesAreSo_120 (mk0 rfl) rfl) (ite_cg ?_ ?_)
      · rfl
      · refine Eq.trans (q_iconst (v := 0) dX1_notesAreSo_123 (mk0 rfl) rfl) ?_
        exact q_zreturn dX1_notesAreSo_124 (mk0 rfl) rfl
set_option maxRecDepth 20000 in
theorem bX1_notesAreSo_125 {L : Nat} {xs : Nat → Int32} (d : Nat) (o : Nat) (i1 : Int32) (i2 : Int32) (i3 : Int32) (ph : PH) : RS (ZZ L xs) (d + 1) mX1_notesAreSo 125 [some (.ref o), some (.int i1), some (.int i2), some (.int i3)] [] ph = RS (ZZ L xs) (d + 1) mX1_notesAreSo 70 [some (.ref o), some (.int i1), some (.int i2), some (.int (i3 + 1))] [] ph := by
  refine Eq.trans (q_iinc (v := 1) (lv2 := [some (.ref o), some (.int i1), some (.int i2), some (.int (i3 + 1))]) dX1_notesAreSo_125 (mk0 rfl) rfl rfl rfl) ?_
  refine Eq.trans (q_goto (t := 70) dX1_notesAreSo_128 (mk0 rfl) rfl) ?_
  rfl
