set_option maxRecDepth 20000 in
theorem bX8_init_0 {L : Nat} {xs : Nat → Int32} (d : Nat) (o : Nat) (ph : PH) : RS (ZZ L xs) (d + 1) mX8_init 0 [some (.ref o)] [] ph = (fP (ph ++ [nwAr 0 400]) (.ref o) 8 0 (.ref ph.length)).bind fun h10 => some (h10, none) := by
  refine Eq.trans (q_aload_n dX8_init_0 (mk0 rfl) rfl rfl) ?_
  refine Eq.trans (q_obj dX8_init_1 (mk0 rfl) rfl (Nat.le_of_ble_eq_true rfl)) ?_
  refine Eq.trans (q_aload_n dX8_init_4 (mk0 rfl) rfl rfl) ?_
  refine Eq.trans (q_sipush (v := 400) dX8_init_5 (mk0 rfl) rfl) ?_
  refine Eq.trans (q_newarray (t := 0) (e := nwAr 0 400) dX8_init_8 (mk0 rfl) (Or.inl ⟨rfl, rfl⟩) ⟨by decide, by decide⟩ rfl) ?_
  refine Eq.trans (q_put (ci := 8) (k := 0) (kd := 2) dX8_init_10 (mk0 rfl) rfl rfl (fun _ => ⟨rfl, rfl⟩)) (bind_cg fun h10 => ?_)
  exact q_return dX8_init_13 (mk0 rfl) rfl
set_option maxRecDepth 20000 in
theorem bX8_add_0 {L : Nat} {xs : Nat → Int32} (d : Nat) (o : Nat) (i1 : Int32) (ph : PH) : RS (ZZ L xs) (d + 1) mX8_add 0 [some (.ref o), some (.int i1), none] [] ph = RS (ZZ L xs) (d + 1) mX8_add 3 [some (.ref o), some (.int i1), some (.int 24)] [] ph := by
  refine Eq.trans (q_bipush (v := 24) dX8_add_0 (mk0 rfl) rfl) ?_
  refine Eq.trans (q_istore_n (lv2 := [some (.ref o), some (.int i1), some (.int 24)]) dX8_add_2 (mk0 rfl) (Nat.le_of_ble_eq_true rfl) rfl) ?_
  rfl
set_option maxRecDepth 20000 in
theorem bX8_add_3 {L : Nat} {xs : Nat → Int32} (d : Nat) (o : Nat) (i1 : Int32) (i2 : Int32) (ph : PH) : RS (ZZ L xs) (d + 1) mX8_add 3 [some (.ref o), some (.int i1), some (.int i2)] [] ph = if (i2 : Int32) < 0 then some (ph, none) else (fI ph (.ref o) 8 1).bind fun x8 => (fR ph (.ref o) 8 0).bind fun x12 => (nA ph x12).bind fun x15 => if (x15 : Int32) ≤ x8 then RS (ZZ L xs) (d + 1) mX8_add 45 [some (.ref o), some (.int i1), some (.int i2)] [] ph else (fR ph (.ref o) 8 0).bind fun x20 => (fI ph (.ref o) 8 1).bind fun x24 => (wI ph x20 x24 ((iUshr i1 i2) &&& 255)).bind fun h34 => (fI h34 (.ref o) 8 1).bind fun x37 => (fP h34 (.ref o) 8 1 (.int (x37 + 1))).bind fun h42 => RS (ZZ L xs) (d + 1) mX8_add 45 [some (.ref o), some (.int i1), some (.int i2)] [] h42 := by
  refine Eq.trans (q_iload_n dX8_add_3 (mk0 rfl) rfl) ?_
  refine Eq.trans (q_if_lt (t := 51) dX8_add_4 (mk0 rfl) rfl) (ite_cg ?_ ?_)
  · exact q_return dX8_add_51 (mk0 rfl) rfl
  · refine Eq.trans (q_aload_n dX8_add_7 (mk0 rfl) rfl rfl) ?_
    refine Eq.trans (q_getI (ci := 8) (k := 1) dX8_add_8 (mk0 rfl) rfl) (bind_cg fun x8 => ?_)
    refine Eq.trans (q_aload_n dX8_add_11 (mk0 rfl) rfl rfl) ?_
    refine Eq.trans (q_getR (ci := 8) (k := 0) dX8_add_12 (mk0 rfl) rfl) (bind_cg2 fun x12 hx12 => ?_)
    have hx12 := fR_isR hx12
    refine Eq.trans (q_alen dX8_add_15 (mk0 rfl) (no_ext hx12)) (bind_cg fun x15 => ?_)
    refine Eq.trans (q_icmp_ge (t := 45) dX8_add_16 (mk0 rfl) rfl) (ite_cg ?_ ?_)
    · rfl
    · refine Eq.trans (q_aload_n dX8_add_19 (mk0 rfl) rfl rfl) ?_
      refine Eq.trans (q_getR (ci := 8) (k := 0) dX8_add_20 (mk0 rfl) rfl) (bind_cg2 fun x20 hx20 => ?_)
      have hx20 := fR_isR hx20
      refine Eq.trans (q_aload_n dX8_add_23 (mk0 rfl) rfl rfl) ?_
      refine Eq.trans (q_getI (ci := 8) (k := 1) dX8_add_24 (mk0 rfl) rfl) (bind_cg fun x24 => ?_)
      refine Eq.trans (q_iload_n dX8_add_27 (mk0 rfl) rfl) ?_
      refine Eq.trans (q_iload_n dX8_add_28 (mk0 rfl) rfl) ?_
      refine Eq.trans (q_iushr dX8_add_29 (mk0 rfl)) ?_
      refine Eq.trans (q_sipush (v := 255) dX8_add_30 (mk0 rfl) rfl) ?_
      refine Eq.trans (q_iand dX8_add_33 (mk0 rfl)) ?_
      refine Eq.trans (q_iastore dX8_add_34 (mk0 rfl)) (bind_cg fun h34 => ?_)
      refine Eq.trans (q_aload_n dX8_add_35 (mk0 rfl) rfl rfl) ?_
      refine Eq.trans (q_dup dX8_add_36 (mk0 rfl) rfl) ?_
      refine Eq.trans (q_getI (ci := 8) (k := 1) dX8_add_37 (mk0 rfl) rfl) (bind_cg fun x37 => ?_)
      refine Eq.trans (q_iconst (v := 1) dX8_add_40 (mk0 rfl) rfl) ?_
      refine Eq.trans (q_iadd dX8_add_41 (mk0 rfl)) ?_
      refine Eq.trans (q_put (ci := 8) (k := 1) (kd := 0) dX8_add_42 (mk0 rfl) rfl rfl (fun h => by cases h)) (bind_cg fun h42 => ?_)
      rfl
set_option maxRecDepth 20000 in
theorem bX8_add_45 {L : Nat} {xs : Nat → Int32} (d : Nat) (o : Nat) (i1 : Int32) (i2 : Int32) (ph : PH) : RS (ZZ L xs) (d + 1) mX8_add 45 [some (.ref o), some (.int i1), some (.int i2)] [] ph = RS (ZZ L xs) (d + 1) mX8_add 3 [some (.ref o), some (.int i1), some (.int (i2 + (-8)))] [] ph := by
  refine Eq.trans (q_iinc (v := (-8)) (lv2 := [some (.ref o), some (.int i1), some (.int (i2 + (-8)))]) dX8_add_45 (mk0 rfl) rfl rfl rfl) ?_
  refine Eq.trans (q_goto (t := 3) dX8_add_48 (mk0 rfl) rfl) ?_
  rfl
set_option maxRecDepth 20000 in
theorem bX8_open_0 {L : Nat} {xs : Nat → Int32} (d : Nat) (o : Nat) (ph : PH) : RS (ZZ L xs) (d + 1) mX8_open 0 [some (.ref o)] [] ph = (fP ph (.ref o) 8 4 (.int 0)).bind fun h2 => (fP h2 (.ref o) 8 6 (.int 0)).bind fun h7 => (iO h7 (.ref o) 8).bind fun b11 => (cV (ZZ L xs) d mX8_advance [.ref b11] h7).bind fun p11 => some (p11, none) := by
  refine Eq.trans (q_aload_n dX8_open_0 (mk0 rfl) rfl rfl) ?_
  refine Eq.trans (q_iconst (v := 0) dX8_open_1 (mk0 rfl) rfl) ?_
  refine Eq.trans (q_put (ci := 8) (k := 4) (kd := 0) dX8_open_2 (mk0 rfl) rfl rfl (fun h => by cases h)) (bind_cg fun h2 => ?_)
  refine Eq.trans (q_aload_n dX8_open_5 (mk0 rfl) rfl rfl) ?_
  refine Eq.trans (q_iconst (v := 0) dX8_open_6 (mk0 rfl) rfl) ?_
  refine Eq.trans (q_put (ci := 8) (k := 6) (kd := 0) dX8_open_7 (mk0 rfl) rfl rfl (fun h => by cases h)) (bind_cg fun h7 => ?_)
  refine Eq.trans (q_aload_n dX8_open_10 (mk0 rfl) rfl rfl) ?_
  refine Eq.trans (q_callV (as := []) dX8_open_11 (mk0 rfl) rfl rfl rfl (Nat.le_of_ble_eq_true rfl) (Nat.le_of_ble_eq_true rfl)) (bind_cg fun b11 => ?_)
  refine Eq.trans (cV_bind rfl) (bind_cg fun p11 => ?_)
  show RS (ZZ L xs) (d + 1) mX8_open 14 [some (.ref o)] [] p11 = _
  exact q_return dX8_open_14 (mk0 rfl) rfl
set_option maxRecDepth 20000 in
theorem bX8_advance_0 {L : Nat} {xs : Nat → Int32} (d : Nat) (o : Nat) (ph : PH) : RS (ZZ L xs) (d + 1) mX8_advance 0 [some (.ref o)] [] ph = (fI ph (.ref o) 8 6).bind fun x2 => (fP ph (.ref o) 8 5 (.int x2)).bind fun h5 => RS (ZZ L xs) (d + 1) mX8_advance 8 [some (.ref o)] [] h5 := by
  refine Eq.trans (q_aload_n dX8_advance_0 (mk0 rfl) rfl rfl) ?_
  refine Eq.trans (q_aload_n dX8_advance_1 (mk0 rfl) rfl rfl) ?_
  refine Eq.trans (q_getI (ci := 8) (k := 6) dX8_advance_2 (mk0 rfl) rfl) (bind_cg fun x2 => ?_)
  refine Eq.trans (q_put (ci := 8) (k := 5) (kd := 0) dX8_advance_5 (mk0 rfl) rfl rfl (fun h => by cases h)) (bind_cg fun h5 => ?_)
  rfl
set_option maxRecDepth 20000 in
theorem bX8_advance_8 {L : Nat} {xs : Nat → Int32} (d : Nat) (o : Nat) (ph : PH) : RS (ZZ L xs) (d + 1) mX8_advance 8 [some (.ref o)] [] ph = (fI ph (.ref o) 8 5).bind fun x9 => (fI ph (.ref o) 8 1).bind fun x13 => if (x13 : Int32) ≤ x9 then RS (ZZ L xs) (d + 1) mX8_advance 46 [some (.ref o)] [] ph else (fR ph (.ref o) 8 0).bind fun x20 => (fI ph (.ref o) 8 5).bind fun x24 => (eI ph x20 x24).bind fun x27 => if ¬ (x27 : Int32) = 32 then RS (ZZ L xs) (d + 1) mX8_advance 46 [some (.ref o)] [] ph else (fI ph (.ref o) 8 5).bind fun x35 => (fP ph (.ref o) 8 5 (.int (x35 + 1))).bind fun h40 => RS (ZZ L xs) (d + 1) mX8_advance 8 [some (.ref o)] [] h40 := by
  refine Eq.trans (q_aload_n dX8_advance_8 (mk0 rfl) rfl rfl) ?_
  refine Eq.trans (q_getI (ci := 8) (k := 5) dX8_advance_9 (mk0 rfl) rfl) (bind_cg fun x9 => ?_)
  refine Eq.trans (q_aload_n dX8_advance_12 (mk0 rfl) rfl rfl) ?_
  refine Eq.trans (q_getI (ci := 8) (k := 1) dX8_advance_13 (mk0 rfl) rfl) (bind_cg fun x13 => ?_)
  refine Eq.trans (q_icmp_ge (t := 46) dX8_advance_16 (mk0 rfl) rfl) (ite_cg ?_ ?_)
  · rfl
  · refine Eq.trans (q_aload_n dX8_advance_19 (mk0 rfl) rfl rfl) ?_
    refine Eq.trans (q_getR (ci := 8) (k := 0) dX8_advance_20 (mk0 rfl) rfl) (bind_cg2 fun x20 hx20 => ?_)
    have hx20 := fR_isR hx20
    refine Eq.trans (q_aload_n dX8_advance_23 (mk0 rfl) rfl rfl) ?_
    refine Eq.trans (q_getI (ci := 8) (k := 5) dX8_advance_24 (mk0 rfl) rfl) (bind_cg fun x24 => ?_)
    refine Eq.trans (q_iaload dX8_advance_27 (mk0 rfl) (no_ext hx20)) (bind_cg fun x27 => ?_)
    refine Eq.trans (q_bipush (v := 32) dX8_advance_28 (mk0 rfl) rfl) ?_
    refine Eq.trans (q_icmp_ne (t := 46) dX8_advance_30 (mk0 rfl) rfl) (ite_cg ?_ ?_)
    · rfl
    · refine Eq.trans (q_aload_n dX8_advance_33 (mk0 rfl) rfl rfl) ?_
      refine Eq.trans (q_dup dX8_advance_34 (mk0 rfl) rfl) ?_
      refine Eq.trans (q_getI (ci := 8) (k := 5) dX8_advance_35 (mk0 rfl) rfl) (bind_cg fun x35 => ?_)
      refine Eq.trans (q_iconst (v := 1) dX8_advance_38 (mk0 rfl) rfl) ?_
      refine Eq.trans (q_iadd dX8_advance_39 (mk0 rfl)) ?_
      refine Eq.trans (q_put (ci := 8) (k := 5) (kd := 0) dX8_advance_40 (mk0 rfl) rfl rfl (fun h => by cases h)) (bind_cg fun h40 => ?_)
      refine Eq.trans (q_goto (t := 8) dX8_advance_43 (mk0 rfl) rfl) ?_
      rfl
set_option maxRecDepth 20000 in
theorem bX8_advance_46 {L : Nat} {xs : Nat → Int32} (d : Nat) (o : Nat) (ph : PH) : RS (ZZ L xs) (d + 1) mX8_advance 46 [some (.ref o)] [] ph = (fI ph (.ref o) 8 5).bind fun x48 => (fP ph (.ref o) 8 6 (.int x48)).bind fun h51 => (fI h51 (.ref o) 8 5).bind fun x57 => (iO h51 (.ref o) 8).bind fun b60 => (cI (ZZ L xs) d mX8_kindAt [.ref b60, .int x57] h51).bind fun p60 => (fP p60.1 (.ref o) 8 2 (.int p60.2)).bind fun h63 => (fI h63 (.ref o) 8 2).bind fun x67 => if ¬ (x67 : Int32) = 3 then RS (ZZ L xs) (d + 1) mX8_advance 96 [some (.ref o)] [] h63 else (fI h63 (.ref o) 8 5).bind fun x76 => (iO h63 (.ref o) 8).bind fun b80 => (cI (ZZ L xs) d mX8_joinsEqual [.ref b80] h63).bind fun p80 => if (p80.2 : Int32) = 0 then RS (ZZ L xs) (d + 1) mX8_advance 91 [some (.ref o)] [.int 1, .int x76, .ref o] p80.1 else RS (ZZ L xs) (d + 1) mX8_advance 91 [some (.ref o)] [.int 2, .int x76, .ref o] p80.1 := by
  refine Eq.trans (q_aload_n dX8_advance_46 (mk0 rfl) rfl rfl) ?_
  refine Eq.trans (q_aload_n dX8_advance_47 (mk0 rfl) rfl rfl) ?_
  refine Eq.trans (q_getI (ci := 8) (k := 5) dX8_advance_48 (mk0 rfl) rfl) (bind_cg fun x48 => ?_)
  refine Eq.trans (q_put (ci := 8) (k := 6) (kd := 0) dX8_advance_51 (mk0 rfl) rfl rfl (fun h => by cases h)) (bind_cg fun h51 => ?_)
  refine Eq.trans (q_aload_n dX8_advance_54 (mk0 rfl) rfl rfl) ?_
  refine Eq.trans (q_aload_n dX8_advance_55 (mk0 rfl) rfl rfl) ?_
  refine Eq.trans (q_aload_n dX8_advance_56 (mk0 rfl) rfl rfl) ?_
  refine Eq.trans (q_getI (ci := 8) (k := 5) dX8_advance_57 (mk0 rfl) rfl) (bind_cg fun x57 => ?_)
  refine Eq.trans (q_callV (as := [.int x57]) dX8_advance_60 (mk0 rfl) rfl rfl rfl (Nat.le_of_ble_eq_true rfl) (Nat.le_of_ble_eq_true rfl)) (bind_cg fun b60 => ?_)
  refine Eq.trans (cI_bind (Or.inl rfl)) (bind_cg fun p60 => ?_)
  show RS (ZZ L xs) (d + 1) mX8_advance 63 [some (.ref o)] [.int p60.2, .ref o] p60.1 = _
  refine Eq.trans (q_put (ci := 8) (k := 2) (kd := 0) dX8_advance_63 (mk0 rfl) rfl rfl (fun h => by cases h)) (bind_cg fun h63 => ?_)
  refine Eq.trans (q_aload_n dX8_advance_66 (mk0 rfl) rfl rfl) ?_
  refine Eq.trans (q_getI (ci := 8) (k := 2) dX8_advance_67 (mk0 rfl) rfl) (bind_cg fun x67 => ?_)
  refine Eq.trans (q_iconst (v := 3) dX8_advance_70 (mk0 rfl) rfl) ?_
  refine Eq.trans (q_icmp_ne (t := 96) dX8_advance_71 (mk0 rfl) rfl) (ite_cg ?_ ?_)
  · rfl
  · refine Eq.trans (q_aload_n dX8_advance_74 (mk0 rfl) rfl rfl) ?_
    refine Eq.trans (q_aload_n dX8_advance_75 (mk0 rfl) rfl rfl) ?_
    refine Eq.trans (q_getI (ci := 8) (k := 5) dX8_advance_76 (mk0 rfl) rfl) (bind_cg fun x76 => ?_)
    refine Eq.trans (q_aload_n dX8_advance_79 (mk0 rfl) rfl rfl) ?_
    refine Eq.trans (q_callV (as := []) dX8_advance_80 (mk0 rfl) rfl rfl rfl (Nat.le_of_ble_eq_true rfl) (Nat.le_of_ble_eq_true rfl)) (bind_cg fun b80 => ?_)
    refine Eq.trans (cI_bind (Or.inr rfl)) (bind_cg fun p80 => ?_)
    show RS (ZZ L xs) (d + 1) mX8_advance 83 [some (.ref o)] [.int p80.2, .int x76, .ref o] p80.1 = _
    refine Eq.trans (q_if_eq (t := 90) dX8_advance_83 (mk0 rfl) rfl) (ite_cg ?_ ?_)
    · refine Eq.trans (q_iconst (v := 1) dX8_advance_90 (mk0 rfl) rfl) ?_
      rfl
    · refine Eq.trans (q_iconst (v := 2) dX8_advance_86 (mk0 rfl) rfl) ?_
      refine Eq.trans (q_goto (t := 91) dX8_advance_87 (mk0 rfl) rfl) ?_
      rfl
set_option maxRecDepth 20000 in
theorem bX8_advance_91 {L : Nat} {xs : Nat → Int32} (d : Nat) (u0 : Option Value) (t0 : Int32) (t1 : Int32) (w2 : Value) (hw2 : isR w2 = true) (ph : PH) : RS (ZZ L xs) (d + 1) mX8_advance 91 [u0] [.int t0, .int t1, w2] ph = (fP ph w2 8 6 (.int (t1 + t0))).bind fun h92 => some (h92, none) := by
  refine Eq.trans (q_iadd dX8_advance_91 (show mK mX8_advance 91 [u0] = [none] from rfl)) ?_
  refine Eq.trans (q_put (ci := 8) (k := 6) (kd := 0) dX8_advance_92 (mk0 rfl) rfl rfl (fun h => by cases h)) (bind_cg fun h92 => ?_)
  exact q_return dX8_advance_95 (mk0 rfl) rfl
set_option maxRecDepth 20000 in
theorem bX8_advance_96 {L : Nat} {xs : Nat → Int32} (d : Nat) (o : Nat) (ph : PH) : RS (ZZ L xs) (d + 1) mX8_advance 96 [some (.ref o)] [] ph = (fI ph (.ref o) 8 2).bind fun x97 => if (x97 : Int32) = 0 then RS (ZZ L xs) (d + 1) mX8_advance 142 [some (.ref o)] [] ph else (fI ph (.ref o) 8 6).bind fun x104 => (fI ph (.ref o) 8 1).bind fun x108 => if (x108 : Int32) ≤ x104 then RS (ZZ L xs) (d + 1) mX8_advance 142 [some (.ref o)] [] ph else (fI ph (.ref o) 8 6).bind fun x116 => (iO ph (.ref o) 8).bind fun b119 => (cI (ZZ L xs) d mX8_kindAt [.ref b119, .int x116] ph).bind fun p119 => (fI p119.1 (.ref o) 8 2).bind fun x123 => if ¬ (p119.2 : Int32) = x123 then RS (ZZ L xs) (d + 1) mX8_advance 142 [some (.ref o)] [] p119.1 else (fI p119.1 (.ref o) 8 6).bind fun x131 => (fP p119.1 (.ref o) 8 6 (.int (x131 + 1))).bind fun h136 => RS (ZZ L xs) (d + 1) mX8_advance 96 [some (.ref o)] [] h136 := by
  refine Eq.trans (q_aload_n dX8_advance_96 (mk0 rfl) rfl rfl) ?_
  refine Eq.trans (q_getI (ci := 8) (k := 2) dX8_advance_97 (mk0 rfl) rfl) (bind_cg fun x97 => ?_)
  refine Eq.trans (q_if_eq (t := 142) dX8_advance_100 (mk0 rfl) rfl) (ite_cg ?_ ?_)
  · rfl
  · refine Eq.trans (q_aload_n dX8_advance_103 (mk0 rfl) rfl rfl) ?_
    refine Eq.trans (q_getI (ci := 8) (k := 6) dX8_advance_104 (mk0 rfl) rfl) (bind_cg fun x104 => ?_)
    refine Eq.trans (q_aload_n dX8_advance_107 (mk0 rfl) rfl rfl) ?_
    refine Eq.trans (q_getI (ci := 8) (k := 1) dX8_advance_108 (mk0 rfl) rfl) (bind_cg fun x108 => ?_)
    refine Eq.trans (q_icmp_ge (t := 142) dX8_advance_111 (mk0 rfl) rfl) (ite_cg ?_ ?_)
    · rfl
    · refine Eq.trans (q_aload_n dX8_advance_114 (mk0 rfl) rfl rfl) ?_
      refine Eq.trans (q_aload_n dX8_advance_115 (mk0 rfl) rfl rfl) ?_
      refine Eq.trans (q_getI (ci := 8) (k := 6) dX8_advance_116 (mk0 rfl) rfl) (bind_cg fun x116 => ?_)
      refine Eq.trans (q_callV (as := [.int x116]) dX8_advance_119 (mk0 rfl) rfl rfl rfl (Nat.le_of_ble_eq_true rfl) (Nat.le_of_ble_eq_true rfl)) (bind_cg fun b119 => ?_)
      refine Eq.trans (cI_bind (Or.inl rfl)) (bind_cg fun p119 => ?_)
      show RS (ZZ L xs) (d + 1) mX8_advance 122 [some (.ref o)] [.int p119.2] p119.1 = _
      refine Eq.trans (q_aload_n dX8_advance_122 (mk0 rfl) rfl rfl) ?_
      refine Eq.trans (q_getI (ci := 8) (k := 2) dX8_advance_123 (mk0 rfl) rfl) (bind_cg fun x123 => ?_)
      refine Eq.trans (q_icmp_ne (t := 142) dX8_advance_126 (mk0 rfl) rfl) (ite_cg ?_ ?_)
      · rfl
      · refine Eq.trans (q_aload_n dX8_advance_129 (mk0 rfl) rfl rfl) ?_
        refine Eq.trans (q_dup dX8_advance_130 (mk0 rfl) rfl) ?_
        refine Eq.trans (q_getI (ci := 8) (k := 6) dX8_advance_131 (mk0 rfl) rfl) (bind_cg fun x131 => ?_)
        refine Eq.trans (q_iconst (v := 1) dX8_advance_134 (mk0 rfl) rfl) ?_
        refine Eq.trans (q_iadd dX8_advance_135 (mk0 rfl)) ?_
        refine Eq.trans (q_put (ci := 8) (k := 6) (kd := 0) dX8_advance_136 (mk0 rfl) rfl rfl (fun h => by cases h)) (bind_cg fun h136 => ?_)
        refine Eq.trans (q_goto (t := 96) dX8_advance_139 (mk0 rfl) rfl) ?_
        rfl
set_option maxRecDepth 20000 in
theorem bX8_advance_142 {L : Nat} {xs : Nat → Int32} (d : Nat) (u0 : Option Value) (ph : PH) : RS (ZZ L xs) (d + 1) mX8_advance 142 [u0] [] ph = some (ph, none) := by
  exact q_return dX8_advance_142 (show mK mX8_advance 142 [u0] = [none] from rfl) rfl
set_option maxRecDepth 20000 in
theorem bX8_kindAt_0 {L : Nat} {xs : Nat → Int32} (d : Nat) (o : Nat) (i1 : Int32) (ph : PH) : RS (ZZ L xs) (d + 1) mX8_kindAt 0 [some (.ref o), some (.int i1), none] [] ph = (fI ph (.ref o) 8 1).bind fun x2 => if (i1 : Int32) < x2 then (fR ph (.ref o) 8 0).bind fun x11 => (eI ph x11 i1).bind fun x15 => if (x15 : Int32) < 97 then RS (ZZ L xs) (d + 1) mX8_kindAt 31 [some (.ref o), some (.int i1), some (.int x15)] [] ph else if (122 : Int32) < x15 then RS (ZZ L xs) (d + 1) mX8_kindAt 31 [some (.ref o), some (.int i1), some (.int x15)] [] ph else some (ph, some (.int 1)) else some (ph, some (.int 0)) := by
  refine Eq.trans (q_iload_n dX8_kindAt_0 (mk0 rfl) rfl) ?_
  refine Eq.trans (q_aload_n dX8_kindAt_1 (mk0 rfl) rfl rfl) ?_
  refine Eq.trans (q_getI (ci := 8) (k := 1) dX8_kindAt_2 (mk0 rfl) rfl) (bind_cg fun x2 => ?_)
  refine Eq.trans (q_icmp_lt (t := 10) dX8_kindAt_5 (mk0 rfl) rfl) (ite_cg ?_ ?_)
  · refine Eq.trans (q_aload_n dX8_kindAt_10 (mk0 rfl) rfl rfl) ?_
    refine Eq.trans (q_getR (ci := 8) (k := 0) dX8_kindAt_11 (mk0 rfl) rfl) (bind_cg2 fun x11 hx11 => ?_)
    have hx11 := fR_isR hx11
    refine Eq.trans (q_iload_n dX8_kindAt_14 (mk0 rfl) rfl) ?_
    refine Eq.trans (q_iaload dX8_kindAt_15 (mk0 rfl) (no_ext hx11)) (bind_cg fun x15 => ?_)
    refine Eq.trans (q_istore_n (lv2 := [some (.ref o), some (.int i1), some (.int x15)]) dX8_kindAt_16 (mk0 rfl) (Nat.le_of_ble_eq_true rfl) rfl) ?_
    refine Eq.trans (q_iload_n dX8_kindAt_17 (mk0 rfl) rfl) ?_
    refine Eq.trans (q_bipush (v := 97) dX8_kindAt_18 (mk0 rfl) rfl) ?_
    refine Eq.trans (q_icmp_lt (t := 31) dX8_kindAt_20 (mk0 rfl) rfl) (ite_cg ?_ ?_)
    · rfl
    · refine Eq.trans (q_iload_n dX8_kindAt_23 (mk0 rfl) rfl) ?_
      refine Eq.trans (q_bipush (v := 122) dX8_kindAt_24 (mk0 rfl) rfl) ?_
      refine Eq.trans (q_icmp_gt (t := 31) dX8_kindAt_26 (mk0 rfl) rfl) (ite_cg ?_ ?_)
      · rfl
      · refine Eq.trans (q_iconst (v := 1) dX8_kindAt_29 (mk0 rfl) rfl) ?_
        exact q_ireturn dX8_kindAt_30 (mk0 rfl) rfl
  · refine Eq.trans (q_iconst (v := 0) dX8_kindAt_8 (mk0 rfl) rfl) ?_
    exact q_ireturn dX8_kindAt_9 (mk0 rfl) rfl
set_option maxRecDepth 20000 in
theorem bX8_kindAt_31 {L : Nat} {xs : Nat → Int32} (d : Nat) (u0 : Option Value) (u1 : Option Value) (i2 : Int32) (ph : PH) : RS (ZZ L xs) (d + 1) mX8_kindAt 31 [u0, u1, some (.int i2)] [] ph = if (i2 : Int32) < 48 then RS (ZZ L xs) (d + 1) mX8_kindAt 47 [none, none, some (.int i2)] [] ph else if (57 : Int32) < i2 then RS (ZZ L xs) (d + 1) mX8_kindAt 47 [none, none, some (.int i2)] [] ph else RS (ZZ L xs) (d + 1) mX8_kindAt 48 [none, none, some (.int i2)] [.int 2] ph := by
  refine Eq.trans (q_iload_n dX8_kindAt_31 (show mK mX8_kindAt 31 [u0, u1, some (.int i2)] = [none, none, some (.int i2)] from rfl) rfl) ?_
  refine Eq.trans (q_bipush (v := 48) dX8_kindAt_32 (mk0 rfl) rfl) ?_
  refine Eq.trans (q_icmp_lt (t := 47) dX8_kindAt_34 (mk0 rfl) rfl) (ite_cg ?_ ?_)
  · rfl
  · refine Eq.trans (q_iload_n dX8_kindAt_37 (mk0 rfl) rfl) ?_
    refine Eq.trans (q_bipush (v := 57) dX8_kindAt_38 (mk0 rfl) rfl) ?_
    refine Eq.trans (q_icmp_gt (t := 47) dX8_kindAt_40 (mk0 rfl) rfl) (ite_cg ?_ ?_)
    · rfl
    · refine Eq.trans (q_iconst (v := 2) dX8_kindAt_43 (mk0 rfl) rfl) ?_
      refine Eq.trans (q_goto (t := 48) dX8_kindAt_44 (mk0 rfl) rfl) ?_
      rfl
set_option maxRecDepth 20000 in
theorem bX8_kindAt_47 {L : Nat} {xs : Nat → Int32} (d : Nat) (u0 : Option Value) (u1 : Option Value) (u2 : Option Value) (ph : PH) : RS (ZZ L xs) (d + 1) mX8_kindAt 47 [u0, u1, u2] [] ph = RS (ZZ L xs) (d + 1) mX8_kindAt 48 [none, none, none] [.int 3] ph := by
  refine Eq.trans (q_iconst (v := 3) dX8_kindAt_47 (show mK mX8_kindAt 47 [u0, u1, u2] = [none, none, none] from rfl) rfl) ?_
  rfl
set_option maxRecDepth 20000 in
theorem bX8_kindAt_48 {L : Nat} {xs : Nat → Int32} (d : Nat) (u0 : Option Value) (u1 : Option Value) (u2 : Option Value) (t0 : Int32) (ph : PH) : RS (ZZ L xs) (d + 1) mX8_kindAt 48 [u0, u1, u2] [.int t0] ph = some (ph, some (.int t0)) := by
  exact q_ireturn dX8_kindAt_48 (show mK mX8_kindAt 48 [u0, u1, u2] = [none, none, none] from rfl) rfl
set_option maxRecDepth 20000 in
theorem bX8_joinsEqual_0 {L : Nat} {xs : Nat → Int32} (d : Nat) (o : Nat) (ph : PH) : RS (ZZ L xs) (d + 1) mX8_joinsEqual 0 [some (.ref o), none] [] ph = (fR ph (.ref o) 8 0).bind fun x1 => (fI ph (.ref o) 8 5).bind fun x5 => (eI ph x1 x5).bind fun x8 => if (x8 : Int32) = 60 then RS (ZZ L xs) (d + 1) mX8_joinsEqual 28 [some (.ref o), none] [] ph else (fR ph (.ref o) 8 0).bind fun x15 => (fI ph (.ref o) 8 5).bind fun x19 => (eI ph x15 x19).bind fun x22 => if ¬ (x22 : Int32) = 62 then RS (ZZ L xs) (d + 1) mX8_joinsEqual 33 [some (.ref o), none] [.int 0] ph else RS (ZZ L xs) (d + 1) mX8_joinsEqual 28 [some (.ref o), none] [] ph := by
  refine Eq.trans (q_aload_n dX8_joinsEqual_0 (mk0 rfl) rfl rfl) ?_
  refine Eq.trans (q_getR (ci := 8) (k := 0) dX8_joinsEqual_1 (mk0 rfl) rfl) (bind_cg2 fun x1 hx1 => ?_)
  have hx1 := fR_isR hx1
  refine Eq.trans (q_aload_n dX8_joinsEqual_4 (mk0 rfl) rfl rfl) ?_
  refine Eq.trans (q_getI (ci := 8) (k := 5) dX8_joinsEqual_5 (mk0 rfl) rfl) (bind_cg fun x5 => ?_)
  refine Eq.trans (q_iaload dX8_joinsEqual_8 (mk0 rfl) (no_ext hx1)) (bind_cg fun x8 => ?_)
  refine Eq.trans (q_bipush (v := 60) dX8_joinsEqual_9 (mk0 rfl) rfl) ?_
  refine Eq.trans (q_icmp_eq (t := 28) dX8_joinsEqual_11 (mk0 rfl) rfl) (ite_cg ?_ ?_)
  · rfl
  · refine Eq.trans (q_aload_n dX8_joinsEqual_14 (mk0 rfl) rfl rfl) ?_
    refine Eq.trans (q_getR (ci := 8) (k := 0) dX8_joinsEqual_15 (mk0 rfl) rfl) (bind_cg2 fun x15 hx15 => ?_)
    have hx15 := fR_isR hx15
    refine Eq.trans (q_aload_n dX8_joinsEqual_18 (mk0 rfl) rfl rfl) ?_
    refine Eq.trans (q_getI (ci := 8) (k := 5) dX8_joinsEqual_19 (mk0 rfl) rfl) (bind_cg fun x19 => ?_)
    refine Eq.trans (q_iaload dX8_joinsEqual_22 (mk0 rfl) (no_ext hx15)) (bind_cg fun x22 => ?_)
    refine Eq.trans (q_bipush (v := 62) dX8_joinsEqual_23 (mk0 rfl) rfl) ?_
    refine Eq.trans (q_icmp_ne (t := 32) dX8_joinsEqual_25 (mk0 rfl) rfl) (ite_cg ?_ ?_)
    · refine Eq.trans (q_iconst (v := 0) dX8_joinsEqual_32 (mk0 rfl) rfl) ?_
      rfl
    · rfl
set_option maxRecDepth 20000 in
theorem bX8_joinsEqual_28 {L : Nat} {xs : Nat → Int32} (d : Nat) (o : Nat) (u1 : Option Value) (ph : PH) : RS (ZZ L xs) (d + 1) mX8_joinsEqual 28 [some (.ref o), u1] [] ph = RS (ZZ L xs) (d + 1) mX8_joinsEqual 33 [some (.ref o), none] [.int 1] ph := by
  refine Eq.trans (q_iconst (v := 1) dX8_joinsEqual_28 (show mK mX8_joinsEqual 28 [some (.ref o), u1] = [some (.ref o), none] from rfl) rfl) ?_
  refine Eq.trans (q_goto (t := 33) dX8_joinsEqual_29 (mk0 rfl) rfl) ?_
  rfl
set_option maxRecDepth 20000 in
theorem bX8_joinsEqual_33 {L : Nat} {xs : Nat → Int32} (d : Nat) (o : Nat) (u1 : Option Value) (t0 : Int32) (ph : PH) : RS (ZZ L xs) (d + 1) mX8_joinsEqual 33 [some (.ref o), u1] [.int t0] ph = if (t0 : Int32) = 0 then RS (ZZ L xs) (d + 1) mX8_joinsEqual 71 [some (.ref o), some (.int t0)] [] ph else (fI ph (.ref o) 8 5).bind fun x39 => (fI ph (.ref o) 8 1).bind fun x45 => if (x45 : Int32) ≤ x39 + 1 then RS (ZZ L xs) (d + 1) mX8_joinsEqual 71 [some (.ref o), some (.int t0)] [] ph else (fR ph (.ref o) 8 0).bind fun x52 => (fI ph (.ref o) 8 5).bind fun x56 => (eI ph x52 (x56 + 1)).bind fun x61 => if ¬ (x61 : Int32) = 61 then RS (ZZ L xs) (d + 1) mX8_joinsEqual 71 [some (.ref o), some (.int t0)] [] ph else RS (ZZ L xs) (d + 1) mX8_joinsEqual 72 [some (.ref o), some (.int t0)] [.int 1] ph := by
  refine Eq.trans (q_istore_n (lv2 := [some (.ref o), some (.int t0)]) dX8_joinsEqual_33 (show mK mX8_joinsEqual 33 [some (.ref o), u1] = [some (.ref o), none] from rfl) (Nat.le_of_ble_eq_true rfl) rfl) ?_
  refine Eq.trans (q_iload_n dX8_joinsEqual_34 (mk0 rfl) rfl) ?_
  refine Eq.trans (q_if_eq (t := 71) dX8_joinsEqual_35 (mk0 rfl) rfl) (ite_cg ?_ ?_)
  · rfl
  · refine Eq.trans (q_aload_n dX8_joinsEqual_38 (mk0 rfl) rfl rfl) ?_
    refine Eq.trans (q_getI (ci := 8) (k := 5) dX8_joinsEqual_39 (mk0 rfl) rfl) (bind_cg fun x39 => ?_)
    refine Eq.trans (q_iconst (v := 1) dX8_joinsEqual_42 (mk0 rfl) rfl) ?_
    refine Eq.trans (q_iadd dX8_joinsEqual_43 (mk0 rfl)) ?_
    refine Eq.trans (q_aload_n dX8_joinsEqual_44 (mk0 rfl) rfl rfl) ?_
    refine Eq.trans (q_getI (ci := 8) (k := 1) dX8_joinsEqual_45 (mk0 rfl) rfl) (bind_cg fun x45 => ?_)
    refine Eq.trans (q_icmp_ge (t := 71) dX8_joinsEqual_48 (mk0 rfl) rfl) (ite_cg ?_ ?_)
    · rfl
    · refine Eq.trans (q_aload_n dX8_joinsEqual_51 (mk0 rfl) rfl rfl) ?_
      refine Eq.trans (q_getR (ci := 8) (k := 0) dX8_joinsEqual_52 (mk0 rfl) rfl) (bind_cg2 fun x52 hx52 => ?_)
      have hx52 := fR_isR hx52
      refine Eq.trans (q_aload_n dX8_joinsEqual_55 (mk0 rfl) rfl rfl) ?_
      refine Eq.trans (q_getI (ci := 8) (k := 5) dX8_joinsEqual_56 (mk0 rfl) rfl) (bind_cg fun x56 => ?_)
      refine Eq.trans (q_iconst (v := 1) dX8_joinsEqual_59 (mk0 rfl) rfl) ?_
      refine Eq.trans (q_iadd dX8_joinsEqual_60 (mk0 rfl)) ?_
      refine Eq.trans (q_iaload dX8_joinsEqual_61 (mk0 rfl) (no_ext hx52)) (bind_cg fun x61 => ?_)
      refine Eq.trans (q_bipush (v := 61) dX8_joinsEqual_62 (mk0 rfl) rfl) ?_
      refine Eq.trans (q_icmp_ne (t := 71) dX8_joinsEqual_64 (mk0 rfl) rfl) (ite_cg ?_ ?_)
      · rfl
      · refine Eq.trans (q_iconst (v := 1) dX8_joinsEqual_67 (mk0 rfl) rfl) ?_
        refine Eq.trans (q_goto (t := 72) dX8_joinsEqual_68 (mk0 rfl) rfl) ?_
        rfl
set_option maxRecDepth 20000 in
theorem bX8_joinsEqual_71 {L : Nat} {xs : Nat → Int32} (d : Nat) (u0 : Option Value) (u1 : Option Value) (ph : PH) : RS (ZZ L xs) (d + 1) mX8_joinsEqual 71 [u0, u1] [] ph = RS (ZZ L xs) (d + 1) mX8_joinsEqual 72 [none, none] [.int 0] ph := by
  refine Eq.trans (q_iconst (v := 0) dX8_joinsEqual_71 (show mK mX8_joinsEqual 71 [u0, u1] = [none, none] from rfl) rfl) ?_
  rfl
set_option maxRecDepth 20000 in
theorem bX8_joinsEqual_72 {L : Nat} {xs : Nat → Int32} (d : Nat) (u0 : Option Value) (u1 : Option Value) (t0 : Int32) (ph : PH) : RS (ZZ L xs) (d + 1) mX8_joinsEqual 72 [u0, u1] [.int t0] ph = if (t0 : Int32) = 0 ∨ (t0 : Int32) = 1 then some (ph, some (.int t0)) else none := by
  exact q_zreturn dX8_joinsEqual_72 (show mK mX8_joinsEqual 72 [u0, u1] = [none, none] from rfl) rfl
set_option maxRecDepth 20000 in
theorem bX8_signAmong_0 {L : Nat} {xs : Nat → Int32} (d : Nat) (o : Nat) (v1 : Value) (hv1 : isA v1 = true) (ph : PH) : RS (ZZ L xs) (d + 1) mX8_signAmong 0 [some (.ref o), some (v1)] [] ph = (fI ph (.ref o) 8 2).bind fun x1 => if ¬ (x1 : Int32) = 3 then RS (ZZ L xs) (d + 1) mX8_signAmong 25 [some (.ref o), some (v1)] [] ph else (fR ph (.ref o) 8 0).bind fun x10 => (fI ph (.ref o) 8 5).bind fun x14 => (eI ph x10 x14).bind fun x17 => (sF (ZZ L xs) v1 (((x17 : Int32).toUInt32 % 65536).toInt32)).bind fun p19 => if (0 : Int32) ≤ p19 then (fR ph (.ref o) 8 0).bind fun x28 => (fI ph (.ref o) 8 5).bind fun x32 => (eI ph x28 x32).bind fun x35 => (fI ph (.ref o) 8 6).bind fun x37 => (fI ph (.ref o) 8 5).bind fun x41 => if ¬ (x37 - x41 : Int32) = 2 then RS (ZZ L xs) (d + 1) mX8_signAmong 56 [some (.ref o), some (v1)] [.int 0, .int x35] ph else RS (ZZ L xs) (d + 1) mX8_signAmong 56 [some (.ref o), some (v1)] [.int 256, .int x35] ph else RS (ZZ L xs) (d + 1) mX8_signAmong 25 [some (.ref o), some (v1)] [] ph := by
  refine Eq.trans (q_aload_n dX8_signAmong_0 (mk0 rfl) rfl rfl) ?_
  refine Eq.trans (q_getI (ci := 8) (k := 2) dX8_signAmong_1 (mk0 rfl) rfl) (bind_cg fun x1 => ?_)
  refine Eq.trans (q_iconst (v := 3) dX8_signAmong_4 (mk0 rfl) rfl) ?_
  refine Eq.trans (q_icmp_ne (t := 25) dX8_signAmong_5 (mk0 rfl) rfl) (ite_cg ?_ ?_)
  · rfl
  · refine Eq.trans (q_aload_n dX8_signAmong_8 (mk0 rfl) rfl hv1) ?_
    refine Eq.trans (q_aload_n dX8_signAmong_9 (mk0 rfl) rfl rfl) ?_
    refine Eq.trans (q_getR (ci := 8) (k := 0) dX8_signAmong_10 (mk0 rfl) rfl) (bind_cg2 fun x10 hx10 => ?_)
    have hx10 := fR_isR hx10
    refine Eq.trans (q_aload_n dX8_signAmong_13 (mk0 rfl) rfl rfl) ?_
    refine Eq.trans (q_getI (ci := 8) (k := 5) dX8_signAmong_14 (mk0 rfl) rfl) (bind_cg fun x14 => ?_)
    refine Eq.trans (q_iaload dX8_signAmong_17 (mk0 rfl) (no_ext hx10)) (bind_cg fun x17 => ?_)
    refine Eq.trans (q_i2c dX8_signAmong_18 (mk0 rfl)) ?_
    refine Eq.trans (q_sidx dX8_signAmong_19 (mk0 rfl) rfl (Nat.le_of_ble_eq_true rfl)) (bind_cg fun p19 => ?_)
    refine Eq.trans (q_if_ge (t := 27) dX8_signAmong_22 (mk0 rfl) rfl) (ite_cg ?_ ?_)
    · refine Eq.trans (q_aload_n dX8_signAmong_27 (mk0 rfl) rfl rfl) ?_
      refine Eq.trans (q_getR (ci := 8) (k := 0) dX8_signAmong_28 (mk0 rfl) rfl) (bind_cg2 fun x28 hx28 => ?_)
      have hx28 := fR_isR hx28
      refine Eq.trans (q_aload_n dX8_signAmong_31 (mk0 rfl) rfl rfl) ?_
      refine Eq.trans (q_getI (ci := 8) (k := 5) dX8_signAmong_32 (mk0 rfl) rfl) (bind_cg fun x32 => ?_)
      refine Eq.trans (q_iaload dX8_signAmong_35 (mk0 rfl) (no_ext hx28)) (bind_cg fun x35 => ?_)
      refine Eq.trans (q_aload_n dX8_signAmong_36 (mk0 rfl) rfl rfl) ?_
      refine Eq.trans (q_getI (ci := 8) (k := 6) dX8_signAmong_37 (mk0 rfl) rfl) (bind_cg fun x37 => ?_)
      refine Eq.trans (q_aload_n dX8_signAmong_40 (mk0 rfl) rfl rfl) ?_
      refine Eq.trans (q_getI (ci := 8) (k := 5) dX8_signAmong_41 (mk0 rfl) rfl) (bind_cg fun x41 => ?_)
      refine Eq.trans (q_isub dX8_signAmong_44 (mk0 rfl)) ?_
      refine Eq.trans (q_iconst (v := 2) dX8_signAmong_45 (mk0 rfl) rfl) ?_
      refine Eq.trans (q_icmp_ne (t := 55) dX8_signAmong_46 (mk0 rfl) rfl) (ite_cg ?_ ?_)
      · refine Eq.trans (q_iconst (v := 0) dX8_signAmong_55 (mk0 rfl) rfl) ?_
        rfl
      · refine Eq.trans (q_sipush (v := 256) dX8_signAmong_49 (mk0 rfl) rfl) ?_
        refine Eq.trans (q_goto (t := 56) dX8_signAmong_52 (mk0 rfl) rfl) ?_
        rfl
    · rfl
set_option maxRecDepth 20000 in
theorem bX8_signAmong_25 {L : Nat} {xs : Nat → Int32} (d : Nat) (u0 : Option Value) (u1 : Option Value) (ph : PH) : RS (ZZ L xs) (d + 1) mX8_signAmong 25 [u0, u1] [] ph = some (ph, some (.int ((-1)))) := by
  refine Eq.trans (q_iconst (v := (-1)) dX8_signAmong_25 (show mK mX8_signAmong 25 [u0, u1] = [none, none] from rfl) rfl) ?_
  exact q_ireturn dX8_signAmong_26 (mk0 rfl) rfl
set_option maxRecDepth 20000 in
theorem bX8_signAmong_56 {L : Nat} {xs : Nat → Int32} (d : Nat) (u0 : Option Value) (u1 : Option Value) (t0 : Int32) (t1 : Int32) (ph : PH) : RS (ZZ L xs) (d + 1) mX8_signAmong 56 [u0, u1] [.int t0, .int t1] ph = some (ph, some (.int (t1 + t0))) := by
  refine Eq.trans (q_iadd dX8_signAmong_56 (show mK mX8_signAmong 56 [u0, u1] = [none, none] from rfl)) ?_
  exact q_ireturn dX8_signAmong_57 (mk0 rfl) rfl
set_option maxRecDepth 20000 in
theorem bX8_wordAmong_0 {L : Nat} {xs : Nat → Int32} (d : Nat) (o : Nat) (v1 : Value) (hv1 : isA v1 = true) (ph : PH) : RS (ZZ L xs) (d + 1) mX8_wordAmong 0 [some (.ref o), some (v1), none, none, none, none, none] [] ph = (fI ph (.ref o) 8 2).bind fun x1 => if (x1 : Int32) = 1 then (fI ph (.ref o) 8 5).bind fun x13 => RS (ZZ L xs) (d + 1) mX8_wordAmong 23 [some (.ref o), some (v1), some (.int 0), some (.int x13), some (.int 1), some (.int 0), none] [] ph else some (ph, some (.int ((-1)))) := by
  refine Eq.trans (q_aload_n dX8_wordAmong_0 (mk0 rfl) rfl rfl) ?_
  refine Eq.trans (q_getI (ci := 8) (k := 2) dX8_wordAmong_1 (mk0 rfl) rfl) (bind_cg fun x1 => ?_)
  refine Eq.trans (q_iconst (v := 1) dX8_wordAmong_4 (mk0 rfl) rfl) ?_
  refine Eq.trans (q_icmp_eq (t := 10) dX8_wordAmong_5 (mk0 rfl) rfl) (ite_cg ?_ ?_)
  · refine Eq.trans (q_iconst (v := 0) dX8_wordAmong_10 (mk0 rfl) rfl) ?_
    refine Eq.trans (q_istore_n (lv2 := [some (.ref o), some (v1), some (.int 0), none, none, none, none]) dX8_wordAmong_11 (mk0 rfl) (Nat.le_of_ble_eq_true rfl) (by simp [s1, s2, s0, (cat_A hv1)] <;> rfl)) ?_
    refine Eq.trans (q_aload_n dX8_wordAmong_12 (mk0 rfl) rfl rfl) ?_
    refine Eq.trans (q_getI (ci := 8) (k := 5) dX8_wordAmong_13 (mk0 rfl) rfl) (bind_cg fun x13 => ?_)
    refine Eq.trans (q_istore_n (lv2 := [some (.ref o), some (v1), some (.int 0), some (.int x13), none, none, none]) dX8_wordAmong_16 (mk0 rfl) (Nat.le_of_ble_eq_true rfl) rfl) ?_
    refine Eq.trans (q_iconst (v := 1) dX8_wordAmong_17 (mk0 rfl) rfl) ?_
    refine Eq.trans (q_istore (lv2 := [some (.ref o), some (v1), some (.int 0), some (.int x13), some (.int 1), none, none]) dX8_wordAmong_18 (mk0 rfl) (Nat.le_of_ble_eq_true rfl) rfl) ?_
    refine Eq.trans (q_iconst (v := 0) dX8_wordAmong_20 (mk0 rfl) rfl) ?_
    refine Eq.trans (q_istore (lv2 := [some (.ref o), some (v1), some (.int 0), some (.int x13), some (.int 1), some (.int 0), none]) dX8_wordAmong_21 (mk0 rfl) (Nat.le_of_ble_eq_true rfl) rfl) ?_
    rfl
  · refine Eq.trans (q_iconst (v := (-1)) dX8_wordAmong_8 (mk0 rfl) rfl) ?_
    exact q_ireturn dX8_wordAmong_9 (mk0 rfl) rfl
set_option maxRecDepth 20000 in
theorem bX8_wordAmong_23 {L : Nat} {xs : Nat → Int32} (d : Nat) (o : Nat) (v1 : Value) (i2 : Int32) (i3 : Int32) (i4 : Int32) (i5 : Int32) (u6 : Option Value) (hv1 : isA v1 = true) (ph : PH) : RS (ZZ L xs) (d + 1) mX8_wordAmong 23 [some (.ref o), some (v1), some (.int i2), some (.int i3), some (.int i4), some (.int i5), u6] [] ph = (sN (ZZ L xs) v1).bind fun p26 => if (p26 : Int32) ≤ i5 then some (ph, some (.int ((-1)))) else (sC (ZZ L xs) v1 i5).bind fun p35 => if (p35 : Int32) = 32 then if (i4 : Int32) = 0 then RS (ZZ L xs) (d + 1) mX8_wordAmong 99 [some (.ref o), some (v1), some (.int i2), some (.int i3), some (.int i4), some (.int i5), some (.int p35)] [] ph else (fI ph (.ref o) 8 6).bind fun x91 => if ¬ (i3 : Int32) = x91 then RS (ZZ L xs) (d + 1) mX8_wordAmong 99 [some (.ref o), some (v1), some (.int i2), some (.int i3), some (.int i4), some (.int i5), some (.int p35)] [] ph else some (ph, some (.int i2)) else if (i4 : Int32) = 0 then RS (ZZ L xs) (d + 1) mX8_wordAmong 75 [some (.ref o), some (v1), some (.int i2), some (.int i3), some (.int i4), some (.int i5), some (.int p35)] [] ph else (fI ph (.ref o) 8 6).bind fun x54 => if (x54 : Int32) ≤ i3 then RS (ZZ L xs) (d + 1) mX8_wordAmong 75 [some (.ref o), some (v1), some (.int i2), some (.int i3), some (.int i4), some (.int i5), some (.int p35)] [] ph else (fR ph (.ref o) 8 0).bind fun x61 => (eI ph x61 i3).bind fun x65 => if ¬ (x65 : Int32) = p35 then RS (ZZ L xs) (d + 1) mX8_wordAmong 75 [some (.ref o), some (v1), some (.int i2), some (.int i3), some (.int i4), some (.int i5), some (.int p35)] [] ph else RS (ZZ L xs) (d + 1) mX8_wordAmong 76 [some (.ref o), some (v1), some (.int i2), some (.int i3), some (.int i4), some (.int i5), some (.int p35)] [.int 1] ph := by
  refine Eq.trans (q_iload dX8_wordAmong_23 (show mK mX8_wordAmong 23 [some (.ref o), some (v1), some (.int i2), some (.int i3), some (.int i4), some (.int i5), u6] = [some (.ref o), some (v1), some (.int i2), some (.int i3), some (.int i4), some (.int i5), none] from rfl) rfl) ?_
  refine Eq.trans (q_aload_n dX8_wordAmong_25 (mk0 rfl) rfl hv1) ?_
  refine Eq.trans (q_slen dX8_wordAmong_26 (mk0 rfl) rfl (Nat.le_of_ble_eq_true rfl)) (bind_cg fun p26 => ?_)
  refine Eq.trans (q_icmp_ge (t := 116) dX8_wordAmong_29 (mk0 rfl) rfl) (ite_cg ?_ ?_)
  · refine Eq.trans (q_iconst (v := (-1)) dX8_wordAmong_116 (mk0 rfl) rfl) ?_
    exact q_ireturn dX8_wordAmong_117 (mk0 rfl) rfl
  · refine Eq.trans (q_aload_n dX8_wordAmong_32 (mk0 rfl) rfl hv1) ?_
    refine Eq.trans (q_iload dX8_wordAmong_33 (mk0 rfl) rfl) ?_
    refine Eq.trans (q_schar dX8_wordAmong_35 (mk0 rfl) rfl (Nat.le_of_ble_eq_true rfl)) (bind_cg fun p35 => ?_)
    refine Eq.trans (q_istore (lv2 := [some (.ref o), some (v1), some (.int i2), some (.int i3), some (.int i4), some (.int i5), some (.int p35)]) dX8_wordAmong_38 (mk0 rfl) (Nat.le_of_ble_eq_true rfl) rfl) ?_
    refine Eq.trans (q_iload dX8_wordAmong_40 (mk0 rfl) rfl) ?_
    refine Eq.trans (q_bipush (v := 32) dX8_wordAmong_42 (mk0 rfl) rfl) ?_
    refine Eq.trans (q_icmp_eq (t := 84) dX8_wordAmong_44 (mk0 rfl) rfl) (ite_cg ?_ ?_)
    · refine Eq.trans (q_iload dX8_wordAmong_84 (mk0 rfl) rfl) ?_
      refine Eq.trans (q_if_eq (t := 99) dX8_wordAmong_86 (mk0 rfl) rfl) (ite_cg ?_ ?_)
      · rfl
      · refine Eq.trans (q_iload_n dX8_wordAmong_89 (mk0 rfl) rfl) ?_
        refine Eq.trans (q_aload_n dX8_wordAmong_90 (mk0 rfl) rfl rfl) ?_
        refine Eq.trans (q_getI (ci := 8) (k := 6) dX8_wordAmong_91 (mk0 rfl) rfl) (bind_cg fun x91 => ?_)
        refine Eq.trans (q_icmp_ne (t := 99) dX8_wordAmong_94 (mk0 rfl) rfl) (ite_cg ?_ ?_)
        · rfl
        · refine Eq.trans (q_iload_n dX8_wordAmong_97 (mk0 rfl) rfl) ?_
          exact q_ireturn dX8_wordAmong_98 (mk0 rfl) rfl
    · refine Eq.trans (q_iload dX8_wordAmong_47 (mk0 rfl) rfl) ?_
      refine Eq.trans (q_if_eq (t := 75) dX8_wordAmong_49 (mk0 rfl) rfl) (ite_cg ?_ ?_)
      · rfl
      · refine Eq.trans (q_iload_n dX8_wordAmong_52 (mk0 rfl) rfl) ?_
        refine Eq.trans (q_aload_n dX8_wordAmong_53 (mk0 rfl) rfl rfl) ?_
        refine Eq.trans (q_getI (ci := 8) (k := 6) dX8_wordAmong_54 (mk0 rfl) rfl) (bind_cg fun x54 => ?_)
        refine Eq.trans (q_icmp_ge (t := 75) dX8_wordAmong_57 (mk0 rfl) rfl) (ite_cg ?_ ?_)
        · rfl
        · refine Eq.trans (q_aload_n dX8_wordAmong_60 (mk0 rfl) rfl rfl) ?_
          refine Eq.trans (q_getR (ci := 8) (k := 0) dX8_wordAmong_61 (mk0 rfl) rfl) (bind_cg2 fun x61 hx61 => ?_)
          have hx61 := fR_isR hx61
          refine Eq.trans (q_iload_n dX8_wordAmong_64 (mk0 rfl) rfl) ?_
          refine Eq.trans (q_iaload dX8_wordAmong_65 (mk0 rfl) (no_ext hx61)) (bind_cg fun x65 => ?_)
          refine Eq.trans (q_iload dX8_wordAmong_66 (mk0 rfl) rfl) ?_
          refine Eq.trans (q_icmp_ne (t := 75) dX8_wordAmong_68 (mk0 rfl) rfl) (ite_cg ?_ ?_)
          · rfl
          · refine Eq.trans (q_iconst (v := 1) dX8_wordAmong_71 (mk0 rfl) rfl) ?_
            refine Eq.trans (q_goto (t := 76) dX8_wordAmong_72 (mk0 rfl) rfl) ?_
            rfl
set_option maxRecDepth 20000 in
theorem bX8_wordAmong_75 {L : Nat} {xs : Nat → Int32} (d : Nat) (o : Nat) (v1 : Value) (i2 : Int32) (i3 : Int32) (u4 : Option Value) (i5 : Int32) (u6 : Option Value) (hv1 : isA v1 = true) (ph : PH) : RS (ZZ L xs) (d + 1) mX8_wordAmong 75 [some (.ref o), some (v1), some (.int i2), some (.int i3), u4, some (.int i5), u6] [] ph = RS (ZZ L xs) (d + 1) mX8_wordAmong 76 [some (.ref o), some (v1), some (.int i2), some (.int i3), none, some (.int i5), none] [.int 0] ph := by
  refine Eq.trans (q_iconst (v := 0) dX8_wordAmong_75 (show mK mX8_wordAmong 75 [some (.ref o), some (v1), some (.int i2), some (.int i3), u4, some (.int i5), u6] = [some (.ref o), some (v1), some (.int i2), some (.int i3), none, some (.int i5), none] from rfl) rfl) ?_
  rfl
set_option maxRecDepth 20000 in
theorem bX8_wordAmong_76 {L : Nat} {xs : Nat → Int32} (d : Nat) (o : Nat) (v1 : Value) (i2 : Int32) (i3 : Int32) (u4 : Option Value) (i5 : Int32) (u6 : Option Value) (t0 : Int32) (hv1 : isA v1 = true) (ph : PH) : RS (ZZ L xs) (d + 1) mX8_wordAmong 76 [some (.ref o), some (v1), some (.int i2), some (.int i3), u4, some (.int i5), u6] [.int t0] ph = RS (ZZ L xs) (d + 1) mX8_wordAmong 110 [some (.ref o), some (v1), some (.int i2), some (.int (i3 + 1)), some (.int t0), some (.int i5), none] [] ph := by
  refine Eq.trans (q_istore (lv2 := [some (.ref o), some (v1), some (.int i2), some (.int i3), some (.int t0), some (.int i5), none]) dX8_wordAmong_76 (show mK mX8_wordAmong 76 [some (.ref o), some (v1), some (.int i2), some (.int i3), u4, some (.int i5), u6] = [some (.ref o), some (v1), some (.int i2), some (.int i3), none, some (.int i5), none] from rfl) (Nat.le_of_ble_eq_true rfl) rfl) ?_
  refine Eq.trans (q_iinc (v := 1) (lv2 := [some (.ref o), some (v1), some (.int i2), some (.int (i3 + 1)), some (.int t0), some (.int i5), none]) dX8_wordAmong_78 (mk0 rfl) rfl rfl rfl) ?_
  refine Eq.trans (q_goto (t := 110) dX8_wordAmong_81 (mk0 rfl) rfl) ?_
  rfl
set_option maxRecDepth 20000 in
theorem bX8_wordAmong_99 {L : Nat} {xs : Nat → Int32} (d : Nat) (o : Nat) (v1 : Value) (i2 : Int32) (u3 : Option Value) (u4 : Option Value) (i5 : Int32) (u6 : Option Value) (hv1 : isA v1 = true) (ph : PH) : RS (ZZ L xs) (d + 1) mX8_wordAmong 99 [some (.ref o), some (v1), some (.int i2), u3, u4, some (.int i5), u6] [] ph = (fI ph (.ref o) 8 5).bind fun x103 => RS (ZZ L xs) (d + 1) mX8_wordAmong 110 [some (.ref o), some (v1), some (.int (i2 + 1)), some (.int x103), some (.int 1), some (.int i5), none] [] ph := by
  refine Eq.trans (q_iinc (v := 1) (lv2 := [some (.ref o), some (v1), some (.int (i2 + 1)), none, none, some (.int i5), none]) dX8_wordAmong_99 (show mK mX8_wordAmong 99 [some (.ref o), some (v1), some (.int i2), u3, u4, some (.int i5), u6] = [some (.ref o), some (v1), some (.int i2), none, none, some (.int i5), none] from rfl) rfl rfl (by simp [s1, s2, s0, (cat_A hv1)] <;> rfl)) ?_
  refine Eq.trans (q_aload_n dX8_wordAmong_102 (mk0 rfl) rfl rfl) ?_
  refine Eq.trans (q_getI (ci := 8) (k := 5) dX8_wordAmong_103 (mk0 rfl) rfl) (bind_cg fun x103 => ?_)
  refine Eq.trans (q_istore_n (lv2 := [some (.ref o), some (v1), some (.int (i2 + 1)), some (.int x103), none, some (.int i5), none]) dX8_wordAmong_106 (mk0 rfl) (Nat.le_of_ble_eq_true rfl) rfl) ?_
  refine Eq.trans (q_iconst (v := 1) dX8_wordAmong_107 (mk0 rfl) rfl) ?_
  refine Eq.trans (q_istore (lv2 := [some (.ref o), some (v1), some (.int (i2 + 1)), some (.int x103), some (.int 1), some (.int i5), none]) dX8_wordAmong_108 (mk0 rfl) (Nat.le_of_ble_eq_true rfl) rfl) ?_
  rfl
set_option maxRecDepth 20000 in
theorem bX8_wordAmong_110 {L : Nat} {xs : Nat → Int32} (d : Nat) (o : Nat) (v1 : Value) (i2 : Int32) (i3 : Int32) (i4 : Int32) (i5 : Int32) (u6 : Option Value) (hv1 : isA v1 = true) (ph : PH) : RS (ZZ L xs) (d + 1) mX8_wordAmong 110 [some (.ref o), some (v1), some (.int i2), some (.int i3), some (.int i4), some (.int i5), u6] [] ph = RS (ZZ L xs) (d + 1) mX8_wordAmong 23 [some (.ref o), some (v1), some (.int i2), some (.int i3), some (.int i4), some (.int (i5 + 1)), none] [] ph := by
  refine Eq.trans (q_iinc (v := 1) (lv2 := [some (.ref o), some (v1), some (.int i2), some (.int i3), some (.int i4), some (.int (i5 + 1)), none]) dX8_wordAmong_110 (show mK mX8_wordAmong 110 [some (.ref o), some (v1), some (.int i2), some (.int i3), some (.int i4), some (.int i5), u6] = [some (.ref o), some (v1), some (.int i2), some (.int i3), some (.int i4), some (.int i5), none] from rfl) rfl rfl rfl) ?_
  refine Eq.trans (q_goto (t := 23) dX8_wordAmong_113 (mk0 rfl) rfl) ?_
  rfl
set_option maxRecDepth 20000 in
theorem bX8_numberHere_0 {L : Nat} {xs : Nat → Int32} (d : Nat) (o : Nat) (ph : PH) : RS (ZZ L xs) (d + 1) mX8_numberHere 0 [some (.ref o), none, none] [] ph = (fI ph (.ref o) 8 2).bind fun x1 => if ¬ (x1 : Int32) = 2 then RS (ZZ L xs) (d + 1) mX8_numberHere 21 [some (.ref o), none, none] [] ph else (fI ph (.ref o) 8 6).bind fun x9 => (fI ph (.ref o) 8 5).bind fun x13 => if (x9 - x13 : Int32) ≤ 5 then (fI ph (.ref o) 8 5).bind fun x26 => RS (ZZ L xs) (d + 1) mX8_numberHere 30 [some (.ref o), some (.int 0), some (.int x26)] [] ph else RS (ZZ L xs) (d + 1) mX8_numberHere 21 [some (.ref o), none, none] [] ph := by
  refine Eq.trans (q_aload_n dX8_numberHere_0 (mk0 rfl) rfl rfl) ?_
  refine Eq.trans (q_getI (ci := 8) (k := 2) dX8_numberHere_1 (mk0 rfl) rfl) (bind_cg fun x1 => ?_)
  refine Eq.trans (q_iconst (v := 2) dX8_numberHere_4 (mk0 rfl) rfl) ?_
  refine Eq.trans (q_icmp_ne (t := 21) dX8_numberHere_5 (mk0 rfl) rfl) (ite_cg ?_ ?_)
  · rfl
  · refine Eq.trans (q_aload_n dX8_numberHere_8 (mk0 rfl) rfl rfl) ?_
    refine Eq.trans (q_getI (ci := 8) (k := 6) dX8_numberHere_9 (mk0 rfl) rfl) (bind_cg fun x9 => ?_)
    refine Eq.trans (q_aload_n dX8_numberHere_12 (mk0 rfl) rfl rfl) ?_
    refine Eq.trans (q_getI (ci := 8) (k := 5) dX8_numberHere_13 (mk0 rfl) rfl) (bind_cg fun x13 => ?_)
    refine Eq.trans (q_isub dX8_numberHere_16 (mk0 rfl)) ?_
    refine Eq.trans (q_iconst (v := 5) dX8_numberHere_17 (mk0 rfl) rfl) ?_
    refine Eq.trans (q_icmp_le (t := 23) dX8_numberHere_18 (mk0 rfl) rfl) (ite_cg ?_ ?_)
    · refine Eq.trans (q_iconst (v := 0) dX8_numberHere_23 (mk0 rfl) rfl) ?_
      refine Eq.trans (q_istore_n (lv2 := [some (.ref o), some (.int 0), none]) dX8_numberHere_24 (mk0 rfl) (Nat.le_of_ble_eq_true rfl) rfl) ?_
      refine Eq.trans (q_aload_n dX8_numberHere_25 (mk0 rfl) rfl rfl) ?_
      refine Eq.trans (q_getI (ci := 8) (k := 5) dX8_numberHere_26 (mk0 rfl) rfl) (bind_cg fun x26 => ?_)
      refine Eq.trans (q_istore_n (lv2 := [some (.ref o), some (.int 0), some (.int x26)]) dX8_numberHere_29 (mk0 rfl) (Nat.le_of_ble_eq_true rfl) rfl) ?_
      rfl
    · rfl
set_option maxRecDepth 20000 in
theorem bX8_numberHere_21 {L : Nat} {xs : Nat → Int32} (d : Nat) (u0 : Option Value) (u1 : Option Value) (u2 : Option Value) (ph : PH) : RS (ZZ L xs) (d + 1) mX8_numberHere 21 [u0, u1, u2] [] ph = some (ph, some (.int ((-1)))) := by
  refine Eq.trans (q_iconst (v := (-1)) dX8_numberHere_21 (show mK mX8_numberHere 21 [u0, u1, u2] = [none, none, none] from rfl) rfl) ?_
  exact q_ireturn dX8_numberHere_22 (mk0 rfl) rfl
set_option maxRecDepth 20000 in
theorem bX8_numberHere_30 {L : Nat} {xs : Nat → Int32} (d : Nat) (o : Nat) (i1 : Int32) (i2 : Int32) (ph : PH) : RS (ZZ L xs) (d + 1) mX8_numberHere 30 [some (.ref o), some (.int i1), some (.int i2)] [] ph = (fI ph (.ref o) 8 6).bind fun x32 => if (x32 : Int32) ≤ i2 then some (ph, some (.int i1)) else (fR ph (.ref o) 8 0).bind fun x43 => (eI ph x43 i2).bind fun x47 => RS (ZZ L xs) (d + 1) mX8_numberHere 30 [some (.ref o), some (.int ((i1 * 10) + (x47 - 48))), some (.int (i2 + 1))] [] ph := by
  refine Eq.trans (q_iload_n dX8_numberHere_30 (mk0 rfl) rfl) ?_
  refine Eq.trans (q_aload_n dX8_numberHere_31 (mk0 rfl) rfl rfl) ?_
  refine Eq.trans (q_getI (ci := 8) (k := 6) dX8_numberHere_32 (mk0 rfl) rfl) (bind_cg fun x32 => ?_)
  refine Eq.trans (q_icmp_ge (t := 59) dX8_numberHere_35 (mk0 rfl) rfl) (ite_cg ?_ ?_)
  · refine Eq.trans (q_iload_n dX8_numberHere_59 (mk0 rfl) rfl) ?_
    exact q_ireturn dX8_numberHere_60 (mk0 rfl) rfl
  · refine Eq.trans (q_iload_n dX8_numberHere_38 (mk0 rfl) rfl) ?_
    refine Eq.trans (q_bipush (v := 10) dX8_numberHere_39 (mk0 rfl) rfl) ?_
    refine Eq.trans (q_imul dX8_numberHere_41 (mk0 rfl)) ?_
    refine Eq.trans (q_aload_n dX8_numberHere_42 (mk0 rfl) rfl rfl) ?_
    refine Eq.trans (q_getR (ci := 8) (k := 0) dX8_numberHere_43 (mk0 rfl) rfl) (bind_cg2 fun x43 hx43 => ?_)
    have hx43 := fR_isR hx43
    refine Eq.trans (q_iload_n dX8_numberHere_46 (mk0 rfl) rfl) ?_
    refine Eq.trans (q_iaload dX8_numberHere_47 (mk0 rfl) (no_ext hx43)) (bind_cg fun x47 => ?_)
    refine Eq.trans (q_bipush (v := 48) dX8_numberHere_48 (mk0 rfl) rfl) ?_
    refine Eq.trans (q_isub dX8_numberHere_50 (mk0 rfl)) ?_
    refine Eq.trans (q_iadd dX8_numberHere_51 (mk0 rfl)) ?_
    refine Eq.trans (q_istore_n (lv2 := [some (.ref o), some (.int ((i1 * 10) + (x47 - 48))), some (.int i2)]) dX8_numberHere_52 (mk0 rfl) (Nat.le_of_ble_eq_true rfl) rfl) ?_
    refine Eq.trans (q_iinc (v := 1) (lv2 := [some (.ref o), some (.int ((i1 * 10) + (x47 - 48))), some (.int (i2 + 1))]) dX8_numberHere_53 (mk0 rfl) rfl rfl rfl) ?_
    refine Eq.trans (q_goto (t := 30) dX8_numberHere_56 (mk0 rfl) rfl) ?_
    rfl
set_option maxRecDepth 20000 in
theorem bX8_take_0 {L : Nat} {xs : Nat → Int32} (d : Nat) (o : Nat) (i1 : Int32) (i2 : Int32) (i3 : Int32) (ph : PH) : RS (ZZ L xs) (d + 1) mX8_take 0 [some (.ref o), some (.int i1), some (.int i2), some (.int i3), none] [] ph = (fI ph (.ref o) 8 2).bind fun x1 => if (x1 : Int32) = 2 then (iO ph (.ref o) 8).bind fun b15 => (cI (ZZ L xs) d mX8_numberHere [.ref b15] ph).bind fun p15 => if (p15.2 : Int32) < i1 then RS (ZZ L xs) (d + 1) mX8_take 38 [some (.ref o), some (.int i1), some (.int i2), some (.int i3), some (.int p15.2)] [] p15.1 else if (i2 : Int32) < p15.2 then RS (ZZ L xs) (d + 1) mX8_take 38 [some (.ref o), some (.int i1), some (.int i2), some (.int i3), some (.int p15.2)] [] p15.1 else if ¬ (p15.2 : Int32) = i3 then (fP p15.1 (.ref o) 8 3 (.int p15.2)).bind fun h47 => (iO h47 (.ref o) 8).bind fun b51 => (cV (ZZ L xs) d mX8_advance [.ref b51] h47).bind fun p51 => if (1 : Int32) = 0 ∨ (1 : Int32) = 1 then some (p51, some (.int 1)) else none else RS (ZZ L xs) (d + 1) mX8_take 38 [some (.ref o), some (.int i1), some (.int i2), some (.int i3), some (.int p15.2)] [] p15.1 else (iO ph (.ref o) 8).bind fun b10 => (cI (ZZ L xs) d mX8_refuse [.ref b10, .int 0] ph).bind fun p10 => if (p10.2 : Int32) = 0 ∨ (p10.2 : Int32) = 1 then some (p10.1, some (.int p10.2)) else none := by
  refine Eq.trans (q_aload_n dX8_take_0 (mk0 rfl) rfl rfl) ?_
  refine Eq.trans (q_getI (ci := 8) (k := 2) dX8_take_1 (mk0 rfl) rfl) (bind_cg fun x1 => ?_)
  refine Eq.trans (q_iconst (v := 2) dX8_take_4 (mk0 rfl) rfl) ?_
  refine Eq.trans (q_icmp_eq (t := 14) dX8_take_5 (mk0 rfl) rfl) (ite_cg ?_ ?_)
  · refine Eq.trans (q_aload_n dX8_take_14 (mk0 rfl) rfl rfl) ?_
    refine Eq.trans (q_callV (as := []) dX8_take_15 (mk0 rfl) rfl rfl rfl (Nat.le_of_ble_eq_true rfl) (Nat.le_of_ble_eq_true rfl)) (bind_cg fun b15 => ?_)
    refine Eq.trans (cI_bind (Or.inl rfl)) (bind_cg fun p15 => ?_)
    show RS (ZZ L xs) (d + 1) mX8_take 18 [some (.ref o), some (.int i1), some (.int i2), some (.int i3), none] [.int p15.2] p15.1 = _
    refine Eq.trans (q_istore (lv2 := [some (.ref o), some (.int i1), some (.int i2), some (.int i3), some (.int p15.2)]) dX8_take_18 (mk0 rfl) (Nat.le_of_ble_eq_true rfl) rfl) ?_
    refine Eq.trans (q_iload dX8_take_20 (mk0 rfl) rfl) ?_
    refine Eq.trans (q_iload_n dX8_take_22 (mk0 rfl) rfl) ?_
    refine Eq.trans (q_icmp_lt (t := 38) dX8_take_23 (mk0 rfl) rfl) (ite_cg ?_ ?_)
    · rfl
    · refine Eq.trans (q_iload dX8_take_26 (mk0 rfl) rfl) ?_
      refine Eq.trans (q_iload_n dX8_take_28 (mk0 rfl) rfl) ?_
      refine Eq.trans (q_icmp_gt (t := 38) dX8_take_29 (mk0 rfl) rfl) (ite_cg ?_ ?_)
      · rfl
      · refine Eq.trans (q_iload dX8_take_32 (mk0 rfl) rfl) ?_
        refine Eq.trans (q_iload_n dX8_take_34 (mk0 rfl) rfl) ?_
        refine Eq.trans (q_icmp_ne (t := 44) dX8_take_35 (mk0 rfl) rfl) (ite_cg ?_ ?_)
        · refine Eq.trans (q_aload_n dX8_take_44 (mk0 rfl) rfl rfl) ?_
          refine Eq.trans (q_iload dX8_take_45 (mk0 rfl) rfl) ?_
          refine Eq.trans (q_put (ci := 8) (k := 3) (kd := 0) dX8_take_47 (mk0 rfl) rfl rfl (fun h => by cases h)) (bind_cg fun h47 => ?_)
          refine Eq.trans (q_aload_n dX8_take_50 (mk0 rfl) rfl rfl) ?_
          refine Eq.trans (q_callV (as := []) dX8_take_51 (mk0 rfl) rfl rfl rfl (Nat.le_of_ble_eq_true rfl) (Nat.le_of_ble_eq_true rfl)) (bind_cg fun b51 => ?_)
          refine Eq.trans (cV_bind rfl) (bind_cg fun p51 => ?_)
          show RS (ZZ L xs) (d + 1) mX8_take 54 [some (.ref o), some (.int i1), some (.int i2), some (.int i3), some (.int p15.2)] [] p51 = _
          refine Eq.trans (q_iconst (v := 1) dX8_take_54 (mk0 rfl) rfl) ?_
          exact q_zreturn dX8_take_55 (mk0 rfl) rfl
        · rfl
  · refine Eq.trans (q_aload_n dX8_take_8 (mk0 rfl) rfl rfl) ?_
    refine Eq.trans (q_iconst (v := 0) dX8_take_9 (mk0 rfl) rfl) ?_
    refine Eq.trans (q_callV (as := [.int 0]) dX8_take_10 (mk0 rfl) rfl rfl rfl (Nat.le_of_ble_eq_true rfl) (Nat.le_of_ble_eq_true rfl)) (bind_cg fun b10 => ?_)
    refine Eq.trans (cI_bind (Or.inr rfl)) (bind_cg fun p10 => ?_)
    show RS (ZZ L xs) (d + 1) mX8_take 13 [some (.ref o), some (.int i1), some (.int i2), some (.int i3), none] [.int p10.2] p10.1 = _
    exact q_zreturn dX8_take_13 (mk0 rfl) rfl
set_option maxRecDepth 20000 in
theorem bX8_take_38 {L : Nat} {xs : Nat → Int32} (d : Nat) (o : Nat) (u1 : Option Value) (u2 : Option Value) (u3 : Option Value) (u4 : Option Value) (ph : PH) : RS (ZZ L xs) (d + 1) mX8_take 38 [some (.ref o), u1, u2, u3, u4] [] ph = (iO ph (.ref o) 8).bind fun b40 => (cI (ZZ L xs) d mX8_refuse [.ref b40, .int 1] ph).bind fun p40 => if (p40.2 : Int32) = 0 ∨ (p40.2 : Int32) = 1 then some (p40.1, some (.int p40.2)) else none := by
  refine Eq.trans (q_aload_n dX8_take_38 (show mK mX8_take 38 [some (.ref o), u1, u2, u3, u4] = [some (.ref o), none, none, none, none] from rfl) rfl rfl) ?_
  refine Eq.trans (q_iconst (v := 1) dX8_take_39 (mk0 rfl) rfl) ?_
  refine Eq.trans (q_callV (as := [.int 1]) dX8_take_40 (mk0 rfl) rfl rfl rfl (Nat.le_of_ble_eq_true rfl) (Nat.le_of_ble_eq_true rfl)) (bind_cg fun b40 => ?_)
  refine Eq.trans (cI_bind (Or.inr rfl)) (bind_cg fun p40 => ?_)
  show RS (ZZ L xs) (d + 1) mX8_take 43 [some (.ref o), none, none, none, none] [.int p40.2] p40.1 = _
  exact q_zreturn dX8_take_43 (mk0 rfl) rfl
set_option maxRecDepth 20000 in
theorem bX8_clauseFollows_0 {L : Nat} {xs : Nat → Int32} (d : Nat) (o : Nat) (ph : PH) : RS (ZZ L xs) (d + 1) mX8_clauseFollows 0 [some (.ref o)] [] ph = (fI ph (.ref o) 8 2).bind fun x1 => if ¬ (x1 : Int32) = 0 then (iO ph (.ref o) 8).bind fun b12 => (cI (ZZ L xs) d mX8_signAmong [.ref b12, .retAddr 2] ph).bind fun p12 => if ¬ (p12.2 : Int32) = (-1) then (iO p12.1 (.ref o) 8).bind fun b26 => (cV (ZZ L xs) d mX8_advance [.ref b26] p12.1).bind fun p26 => if (1 : Int32) = 0 ∨ (1 : Int32) = 1 then some (p26, some (.int 1)) else none else (iO p12.1 (.ref o) 8).bind fun b21 => (cI (ZZ L xs) d mX8_refuse [.ref b21, .int 0] p12.1).bind fun p21 => if (p21.2 : Int32) = 0 ∨ (p21.2 : Int32) = 1 then some (p21.1, some (.int p21.2)) else none else if (0 : Int32) = 0 ∨ (0 : Int32) = 1 then some (ph, some (.int 0)) else none := by
  refine Eq.trans (q_aload_n dX8_clauseFollows_0 (mk0 rfl) rfl rfl) ?_
  refine Eq.trans (q_getI (ci := 8) (k := 2) dX8_clauseFollows_1 (mk0 rfl) rfl) (bind_cg fun x1 => ?_)
  refine Eq.trans (q_if_ne (t := 9) dX8_clauseFollows_4 (mk0 rfl) rfl) (ite_cg ?_ ?_)
  · refine Eq.trans (q_aload_n dX8_clauseFollows_9 (mk0 rfl) rfl rfl) ?_
    refine Eq.trans (q_ldcS (k := 2) dX8_clauseFollows_10 (mk0 rfl) rfl) ?_
    refine Eq.trans (q_callV (as := [.retAddr 2]) dX8_clauseFollows_12 (mk0 rfl) rfl rfl rfl (Nat.le_of_ble_eq_true rfl) (Nat.le_of_ble_eq_true rfl)) (bind_cg fun b12 => ?_)
    refine Eq.trans (cI_bind (Or.inl rfl)) (bind_cg fun p12 => ?_)
    show RS (ZZ L xs) (d + 1) mX8_clauseFollows 15 [some (.ref o)] [.int p12.2] p12.1 = _
    refine Eq.trans (q_iconst (v := (-1)) dX8_clauseFollows_15 (mk0 rfl) rfl) ?_
    refine Eq.trans (q_icmp_ne (t := 25) dX8_clauseFollows_16 (mk0 rfl) rfl) (ite_cg ?_ ?_)
    · refine Eq.trans (q_aload_n dX8_clauseFollows_25 (mk0 rfl) rfl rfl) ?_
      refine Eq.trans (q_callV (as := []) dX8_clauseFollows_26 (mk0 rfl) rfl rfl rfl (Nat.le_of_ble_eq_true rfl) (Nat.le_of_ble_eq_true rfl)) (bind_cg fun b26 => ?_)
      refine Eq.trans (cV_bind rfl) (bind_cg fun p26 => ?_)
      show RS (ZZ L xs) (d + 1) mX8_clauseFollows 29 [some (.ref o)] [] p26 = _
      refine Eq.trans (q_iconst (v := 1) dX8_clauseFollows_29 (mk0 rfl) rfl) ?_
      exact q_zreturn dX8_clauseFollows_30 (mk0 rfl) rfl
    · refine Eq.trans (q_aload_n dX8_clauseFollows_19 (mk0 rfl) rfl rfl) ?_
      refine Eq.trans (q_iconst (v := 0) dX8_clauseFollows_20 (mk0 rfl) rfl) ?_
      refine Eq.trans (q_callV (as := [.int 0]) dX8_clauseFollows_21 (mk0 rfl) rfl rfl rfl (Nat.le_of_ble_eq_true rfl) (Nat.le_of_ble_eq_true rfl)) (bind_cg fun b21 => ?_)
      refine Eq.trans (cI_bind (Or.inr rfl)) (bind_cg fun p21 => ?_)
      show RS (ZZ L xs) (d + 1) mX8_clauseFollows 24 [some (.ref o)] [.int p21.2] p21.1 = _
      exact q_zreturn dX8_clauseFollows_24 (mk0 rfl) rfl
  · refine Eq.trans (q_iconst (v := 0) dX8_clauseFollows_7 (mk0 rfl) rfl) ?_
    exact q_zreturn dX8_clauseFollows_8 (mk0 rfl) rfl
set_option maxRecDepth 20000 in
theorem bX8_refuse_0 {L : Nat} {xs : Nat → Int32} (d : Nat) (o : Nat) (i1 : Int32) (ph : PH) : RS (ZZ L xs) (d + 1) mX8_refuse 0 [some (.ref o), some (.int i1)] [] ph = (fI ph (.ref o) 8 4).bind fun x1 => if ¬ (x1 : Int32) = 0 then RS (ZZ L xs) (d + 1) mX8_refuse 22 [some (.ref o), some (.int i1)] [] ph else (fI ph (.ref o) 8 5).bind fun x12 => (fP ph (.ref o) 8 4 (.int ((1 + (8 * x12)) + i1))).bind fun h19 => RS (ZZ L xs) (d + 1) mX8_refuse 22 [some (.ref o), some (.int i1)] [] h19 := by
  refine Eq.trans (q_aload_n dX8_refuse_0 (mk0 rfl) rfl rfl) ?_
  refine Eq.trans (q_getI (ci := 8) (k := 4) dX8_refuse_1 (mk0 rfl) rfl) (bind_cg fun x1 => ?_)
  refine Eq.trans (q_if_ne (t := 22) dX8_refuse_4 (mk0 rfl) rfl) (ite_cg ?_ ?_)
  · rfl
  · refine Eq.trans (q_aload_n dX8_refuse_7 (mk0 rfl) rfl rfl) ?_
    refine Eq.trans (q_iconst (v := 1) dX8_refuse_8 (mk0 rfl) rfl) ?_
    refine Eq.trans (q_bipush (v := 8) dX8_refuse_9 (mk0 rfl) rfl) ?_
    refine Eq.trans (q_aload_n dX8_refuse_11 (mk0 rfl) rfl rfl) ?_
    refine Eq.trans (q_getI (ci := 8) (k := 5) dX8_refuse_12 (mk0 rfl) rfl) (bind_cg fun x12 => ?_)
    refine Eq.trans (q_imul dX8_refuse_15 (mk0 rfl)) ?_
    refine Eq.trans (q_iadd dX8_refuse_16 (mk0 rfl)) ?_
    refine Eq.trans (q_iload_n dX8_refuse_17 (mk0 rfl) rfl) ?_
    refine Eq.trans (q_iadd dX8_refuse_18 (mk0 rfl)) ?_
    refine Eq.trans (q_put (ci := 8) (k := 4) (kd := 0) dX8_refuse_19 (mk0 rfl) rfl rfl (fun h => by cases h)) (bind_cg fun h19 => ?_)
    rfl
set_option maxRecDepth 20000 in
theorem bX8_refuse_22 {L : Nat} {xs : Nat → Int32} (d : Nat) (u0 : Option Value) (u1 : Option Value) (ph : PH) : RS (ZZ L xs) (d + 1) mX8_refuse 22 [u0, u1] [] ph = if (0 : Int32) = 0 ∨ (0 : Int32) = 1 then some (ph, some (.int 0)) else none := by
  refine Eq.trans (q_iconst (v := 0) dX8_refuse_22 (show mK mX8_refuse 22 [u0, u1] = [none, none] from rfl) rfl) ?_
  exact q_zreturn dX8_refuse_23 (mk0 rfl) rfl
