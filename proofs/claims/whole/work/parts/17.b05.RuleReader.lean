set_option maxRecDepth 20000 in
theorem bX5_init_0 {L : Nat} {xs : Nat → Int32} (d : Nat) (o : Nat) (v1 : Value) (hv1 : isR v1 = true) (ph : PH) : RS (ZZ L xs) (d + 1) mX5_init 0 [some (.ref o), some (v1)] [] ph = (fP ph (.ref o) 5 0 (v1)).bind fun h6 => some (h6, none) := by
  refine Eq.trans (q_aload_n dX5_init_0 (mk0 rfl) rfl rfl) ?_
  refine Eq.trans (q_obj dX5_init_1 (mk0 rfl) rfl (Nat.le_of_ble_eq_true rfl)) ?_
  refine Eq.trans (q_aload_n dX5_init_4 (mk0 rfl) rfl rfl) ?_
  refine Eq.trans (q_aload_n dX5_init_5 (mk0 rfl) rfl (isA_R hv1)) ?_
  refine Eq.trans (q_put (ci := 5) (k := 0) (kd := 2) dX5_init_6 (mk0 rfl) rfl (kV_2 hv1) (fun _ => ⟨rfl, rfl⟩)) (bind_cg fun h6 => ?_)
  exact q_return dX5_init_9 (mk0 rfl) rfl
set_option maxRecDepth 20000 in
theorem bX5_read_0 {L : Nat} {xs : Nat → Int32} (d : Nat) (o : Nat) (v1 : Value) (hv1 : isR v1 = true) (ph : PH) : RS (ZZ L xs) (d + 1) mX5_read 0 [some (.ref o), some (v1), none, none, none, none, none] [] ph = (fP ph (.ref o) 5 1 (v1)).bind fun h2 => (fR h2 (.ref o) 5 1).bind fun x6 => (iO h2 x6 4).bind fun b9 => (cV (ZZ L xs) d mX4_clear [.ref b9] h2).bind fun p9 => (fR p9 (.ref o) 5 0).bind fun x13 => (iO p9 x13 8).bind fun b16 => (cV (ZZ L xs) d mX8_open [.ref b16] p9).bind fun p16 => RS (ZZ L xs) (d + 1) mX5_read 23 [some (.ref o), some (v1), some (.int 1), some (.int 0), none, none, none] [] p16 := by
  refine Eq.trans (q_aload_n dX5_read_0 (mk0 rfl) rfl rfl) ?_
  refine Eq.trans (q_aload_n dX5_read_1 (mk0 rfl) rfl (isA_R hv1)) ?_
  refine Eq.trans (q_put (ci := 5) (k := 1) (kd := 2) dX5_read_2 (mk0 rfl) rfl (kV_2 hv1) (fun h => by cases h)) (bind_cg fun h2 => ?_)
  refine Eq.trans (q_aload_n dX5_read_5 (mk0 rfl) rfl rfl) ?_
  refine Eq.trans (q_getR (ci := 5) (k := 1) dX5_read_6 (mk0 rfl) rfl) (bind_cg2 fun x6 hx6 => ?_)
  have hx6 := fR_isR hx6
  refine Eq.trans (q_callV (as := []) dX5_read_9 (mk0 rfl) rfl rfl rfl (Nat.le_of_ble_eq_true rfl) (Nat.le_of_ble_eq_true rfl)) (bind_cg fun b9 => ?_)
  refine Eq.trans (cV_bind rfl) (bind_cg fun p9 => ?_)
  show RS (ZZ L xs) (d + 1) mX5_read 12 [some (.ref o), some (v1), none, none, none, none, none] [] p9 = _
  refine Eq.trans (q_aload_n dX5_read_12 (mk0 rfl) rfl rfl) ?_
  refine Eq.trans (q_getR (ci := 5) (k := 0) dX5_read_13 (mk0 rfl) rfl) (bind_cg2 fun x13 hx13 => ?_)
  have hx13 := fR_isR hx13
  refine Eq.trans (q_callV (as := []) dX5_read_16 (mk0 rfl) rfl rfl rfl (Nat.le_of_ble_eq_true rfl) (Nat.le_of_ble_eq_true rfl)) (bind_cg fun b16 => ?_)
  refine Eq.trans (cV_bind rfl) (bind_cg fun p16 => ?_)
  show RS (ZZ L xs) (d + 1) mX5_read 19 [some (.ref o), some (v1), none, none, none, none, none] [] p16 = _
  refine Eq.trans (q_iconst (v := 1) dX5_read_19 (mk0 rfl) rfl) ?_
  refine Eq.trans (q_istore_n (lv2 := [some (.ref o), some (v1), some (.int 1), none, none, none, none]) dX5_read_20 (mk0 rfl) (Nat.le_of_ble_eq_true rfl) (by simp [s1, s2, s0, (cat_R hv1)] <;> rfl)) ?_
  refine Eq.trans (q_iconst (v := 0) dX5_read_21 (mk0 rfl) rfl) ?_
  refine Eq.trans (q_istore_n (lv2 := [some (.ref o), some (v1), some (.int 1), some (.int 0), none, none, none]) dX5_read_22 (mk0 rfl) (Nat.le_of_ble_eq_true rfl) rfl) ?_
  rfl
set_option maxRecDepth 20000 in
theorem bX5_read_23 {L : Nat} {xs : Nat → Int32} (d : Nat) (o : Nat) (u1 : Option Value) (i2 : Int32) (i3 : Int32) (u4 : Option Value) (u5 : Option Value) (u6 : Option Value) (ph : PH) : RS (ZZ L xs) (d + 1) mX5_read 23 [some (.ref o), u1, some (.int i2), some (.int i3), u4, u5, u6] [] ph = if (i2 : Int32) = 0 then RS (ZZ L xs) (d + 1) mX5_read 159 [some (.ref o), none, some (.int i2), some (.int i3), none, none, none] [] ph else if (12 : Int32) < i3 then RS (ZZ L xs) (d + 1) mX5_read 159 [some (.ref o), none, some (.int i2), some (.int i3), none, none, none] [] ph else (fR ph (.ref o) 5 1).bind fun x34 => (iO ph x34 4).bind fun b37 => (cI (ZZ L xs) d mX4_beginSum [.ref b37] ph).bind fun p37 => (iO p37.1 (.ref o) 5).bind fun b44 => (cI (ZZ L xs) d mX5_clauseBegins [.ref b44, .int i3] p37.1).bind fun p44 => if (p44.2 : Int32) = 0 then RS (ZZ L xs) (d + 1) mX5_read 63 [some (.ref o), none, some (.int i2), some (.int i3), some (.int p37.2), none, none] [] p44.1 else (iO p44.1 (.ref o) 5).bind fun b53 => (cI (ZZ L xs) d mX5_sum [.ref b53, .int p37.2] p44.1).bind fun p53 => if (p53.2 : Int32) = 0 then RS (ZZ L xs) (d + 1) mX5_read 63 [some (.ref o), none, some (.int i2), some (.int i3), some (.int p37.2), none, none] [] p53.1 else RS (ZZ L xs) (d + 1) mX5_read 64 [some (.ref o), none, some (.int i2), some (.int i3), some (.int p37.2), none, none] [.int 1] p53.1 := by
  refine Eq.trans (q_iload_n dX5_read_23 (show mK mX5_read 23 [some (.ref o), u1, some (.int i2), some (.int i3), u4, u5, u6] = [some (.ref o), none, some (.int i2), some (.int i3), none, none, none] from rfl) rfl) ?_
  refine Eq.trans (q_if_eq (t := 159) dX5_read_24 (mk0 rfl) rfl) (ite_cg ?_ ?_)
  · rfl
  · refine Eq.trans (q_iload_n dX5_read_27 (mk0 rfl) rfl) ?_
    refine Eq.trans (q_bipush (v := 12) dX5_read_28 (mk0 rfl) rfl) ?_
    refine Eq.trans (q_icmp_gt (t := 159) dX5_read_30 (mk0 rfl) rfl) (ite_cg ?_ ?_)
    · rfl
    · refine Eq.trans (q_aload_n dX5_read_33 (mk0 rfl) rfl rfl) ?_
      refine Eq.trans (q_getR (ci := 5) (k := 1) dX5_read_34 (mk0 rfl) rfl) (bind_cg2 fun x34 hx34 => ?_)
      have hx34 := fR_isR hx34
      refine Eq.trans (q_callV (as := []) dX5_read_37 (mk0 rfl) rfl rfl rfl (Nat.le_of_ble_eq_true rfl) (Nat.le_of_ble_eq_true rfl)) (bind_cg fun b37 => ?_)
      refine Eq.trans (cI_bind (Or.inl rfl)) (bind_cg fun p37 => ?_)
      show RS (ZZ L xs) (d + 1) mX5_read 40 [some (.ref o), none, some (.int i2), some (.int i3), none, none, none] [.int p37.2] p37.1 = _
      refine Eq.trans (q_istore (lv2 := [some (.ref o), none, some (.int i2), some (.int i3), some (.int p37.2), none, none]) dX5_read_40 (mk0 rfl) (Nat.le_of_ble_eq_true rfl) rfl) ?_
      refine Eq.trans (q_aload_n dX5_read_42 (mk0 rfl) rfl rfl) ?_
      refine Eq.trans (q_iload_n dX5_read_43 (mk0 rfl) rfl) ?_
      refine Eq.trans (q_callV (as := [.int i3]) dX5_read_44 (mk0 rfl) rfl rfl rfl (Nat.le_of_ble_eq_true rfl) (Nat.le_of_ble_eq_true rfl)) (bind_cg fun b44 => ?_)
      refine Eq.trans (cI_bind (Or.inr rfl)) (bind_cg fun p44 => ?_)
      show RS (ZZ L xs) (d + 1) mX5_read 47 [some (.ref o), none, some (.int i2), some (.int i3), some (.int p37.2), none, none] [.int p44.2] p44.1 = _
      refine Eq.trans (q_if_eq (t := 63) dX5_read_47 (mk0 rfl) rfl) (ite_cg ?_ ?_)
      · rfl
      · refine Eq.trans (q_aload_n dX5_read_50 (mk0 rfl) rfl rfl) ?_
        refine Eq.trans (q_iload dX5_read_51 (mk0 rfl) rfl) ?_
        refine Eq.trans (q_callV (as := [.int p37.2]) dX5_read_53 (mk0 rfl) rfl rfl rfl (Nat.le_of_ble_eq_true rfl) (Nat.le_of_ble_eq_true rfl)) (bind_cg fun b53 => ?_)
        refine Eq.trans (cI_bind (Or.inr rfl)) (bind_cg fun p53 => ?_)
        show RS (ZZ L xs) (d + 1) mX5_read 56 [some (.ref o), none, some (.int i2), some (.int i3), some (.int p37.2), none, none] [.int p53.2] p53.1 = _
        refine Eq.trans (q_if_eq (t := 63) dX5_read_56 (mk0 rfl) rfl) (ite_cg ?_ ?_)
        · rfl
        · refine Eq.trans (q_iconst (v := 1) dX5_read_59 (mk0 rfl) rfl) ?_
          refine Eq.trans (q_goto (t := 64) dX5_read_60 (mk0 rfl) rfl) ?_
          rfl
set_option maxRecDepth 20000 in
theorem bX5_read_63 {L : Nat} {xs : Nat → Int32} (d : Nat) (o : Nat) (u1 : Option Value) (u2 : Option Value) (i3 : Int32) (i4 : Int32) (u5 : Option Value) (u6 : Option Value) (ph : PH) : RS (ZZ L xs) (d + 1) mX5_read 63 [some (.ref o), u1, u2, some (.int i3), some (.int i4), u5, u6] [] ph = RS (ZZ L xs) (d + 1) mX5_read 64 [some (.ref o), none, none, some (.int i3), some (.int i4), none, none] [.int 0] ph := by
  refine Eq.trans (q_iconst (v := 0) dX5_read_63 (show mK mX5_read 63 [some (.ref o), u1, u2, some (.int i3), some (.int i4), u5, u6] = [some (.ref o), none, none, some (.int i3), some (.int i4), none, none] from rfl) rfl) ?_
  rfl
set_option maxRecDepth 20000 in
theorem bX5_read_64 {L : Nat} {xs : Nat → Int32} (d : Nat) (o : Nat) (u1 : Option Value) (u2 : Option Value) (i3 : Int32) (i4 : Int32) (u5 : Option Value) (u6 : Option Value) (t0 : Int32) (ph : PH) : RS (ZZ L xs) (d + 1) mX5_read 64 [some (.ref o), u1, u2, some (.int i3), some (.int i4), u5, u6] [.int t0] ph = if (t0 : Int32) = 0 then RS (ZZ L xs) (d + 1) mX5_read 112 [some (.ref o), none, none, some (.int i3), some (.int i4), some (.int t0), some (.int ((-1)))] [] ph else (fR ph (.ref o) 5 0).bind fun x75 => (iO ph x75 8).bind fun b80 => (cI (ZZ L xs) d mX8_wordAmong [.ref b80, .retAddr 6] ph).bind fun p80 => if (p80.2 : Int32) = (-1) then RS (ZZ L xs) (d + 1) mX5_read 112 [some (.ref o), none, none, some (.int i3), some (.int i4), some (.int t0), some (.int ((-1)))] [] p80.1 else (fR p80.1 (.ref o) 5 0).bind fun x88 => (iO p80.1 x88 8).bind fun b91 => (cV (ZZ L xs) d mX8_advance [.ref b91] p80.1).bind fun p91 => (iO p91 (.ref o) 5).bind fun b96 => (cI (ZZ L xs) d mX5_test [.ref b96, .int 0] p91).bind fun p96 => (fR p96.1 (.ref o) 5 1).bind fun x102 => (iO p96.1 x102 4).bind fun b107 => (cI (ZZ L xs) d mX4_addStep [.ref b107, .int 2, .int 0] p96.1).bind fun p107 => RS (ZZ L xs) (d + 1) mX5_read 112 [some (.ref o), none, none, some (.int i3), some (.int i4), some (.int p96.2), some (.int p107.2)] [] p107.1 := by
  refine Eq.trans (q_istore (lv2 := [some (.ref o), none, none, some (.int i3), some (.int i4), some (.int t0), none]) dX5_read_64 (show mK mX5_read 64 [some (.ref o), u1, u2, some (.int i3), some (.int i4), u5, u6] = [some (.ref o), none, none, some (.int i3), some (.int i4), none, none] from rfl) (Nat.le_of_ble_eq_true rfl) rfl) ?_
  refine Eq.trans (q_iconst (v := (-1)) dX5_read_66 (mk0 rfl) rfl) ?_
  refine Eq.trans (q_istore (lv2 := [some (.ref o), none, none, some (.int i3), some (.int i4), some (.int t0), some (.int ((-1)))]) dX5_read_67 (mk0 rfl) (Nat.le_of_ble_eq_true rfl) rfl) ?_
  refine Eq.trans (q_iload dX5_read_69 (mk0 rfl) rfl) ?_
  refine Eq.trans (q_if_eq (t := 112) dX5_read_71 (mk0 rfl) rfl) (ite_cg ?_ ?_)
  · rfl
  · refine Eq.trans (q_aload_n dX5_read_74 (mk0 rfl) rfl rfl) ?_
    refine Eq.trans (q_getR (ci := 5) (k := 0) dX5_read_75 (mk0 rfl) rfl) (bind_cg2 fun x75 hx75 => ?_)
    have hx75 := fR_isR hx75
    refine Eq.trans (q_ldcS (k := 6) dX5_read_78 (mk0 rfl) rfl) ?_
    refine Eq.trans (q_callV (as := [.retAddr 6]) dX5_read_80 (mk0 rfl) rfl rfl rfl (Nat.le_of_ble_eq_true rfl) (Nat.le_of_ble_eq_true rfl)) (bind_cg fun b80 => ?_)
    refine Eq.trans (cI_bind (Or.inl rfl)) (bind_cg fun p80 => ?_)
    show RS (ZZ L xs) (d + 1) mX5_read 83 [some (.ref o), none, none, some (.int i3), some (.int i4), some (.int t0), some (.int ((-1)))] [.int p80.2] p80.1 = _
    refine Eq.trans (q_iconst (v := (-1)) dX5_read_83 (mk0 rfl) rfl) ?_
    refine Eq.trans (q_icmp_eq (t := 112) dX5_read_84 (mk0 rfl) rfl) (ite_cg ?_ ?_)
    · rfl
    · refine Eq.trans (q_aload_n dX5_read_87 (mk0 rfl) rfl rfl) ?_
      refine Eq.trans (q_getR (ci := 5) (k := 0) dX5_read_88 (mk0 rfl) rfl) (bind_cg2 fun x88 hx88 => ?_)
      have hx88 := fR_isR hx88
      refine Eq.trans (q_callV (as := []) dX5_read_91 (mk0 rfl) rfl rfl rfl (Nat.le_of_ble_eq_true rfl) (Nat.le_of_ble_eq_true rfl)) (bind_cg fun b91 => ?_)
      refine Eq.trans (cV_bind rfl) (bind_cg fun p91 => ?_)
      show RS (ZZ L xs) (d + 1) mX5_read 94 [some (.ref o), none, none, some (.int i3), some (.int i4), some (.int t0), some (.int ((-1)))] [] p91 = _
      refine Eq.trans (q_aload_n dX5_read_94 (mk0 rfl) rfl rfl) ?_
      refine Eq.trans (q_iconst (v := 0) dX5_read_95 (mk0 rfl) rfl) ?_
      refine Eq.trans (q_callV (as := [.int 0]) dX5_read_96 (mk0 rfl) rfl rfl rfl (Nat.le_of_ble_eq_true rfl) (Nat.le_of_ble_eq_true rfl)) (bind_cg fun b96 => ?_)
      refine Eq.trans (cI_bind (Or.inr rfl)) (bind_cg fun p96 => ?_)
      show RS (ZZ L xs) (d + 1) mX5_read 99 [some (.ref o), none, none, some (.int i3), some (.int i4), some (.int t0), some (.int ((-1)))] [.int p96.2] p96.1 = _
      refine Eq.trans (q_istore (lv2 := [some (.ref o), none, none, some (.int i3), some (.int i4), some (.int p96.2), some (.int ((-1)))]) dX5_read_99 (mk0 rfl) (Nat.le_of_ble_eq_true rfl) rfl) ?_
      refine Eq.trans (q_aload_n dX5_read_101 (mk0 rfl) rfl rfl) ?_
      refine Eq.trans (q_getR (ci := 5) (k := 1) dX5_read_102 (mk0 rfl) rfl) (bind_cg2 fun x102 hx102 => ?_)
      have hx102 := fR_isR hx102
      refine Eq.trans (q_iconst (v := 2) dX5_read_105 (mk0 rfl) rfl) ?_
      refine Eq.trans (q_iconst (v := 0) dX5_read_106 (mk0 rfl) rfl) ?_
      refine Eq.trans (q_callV (as := [.int 2, .int 0]) dX5_read_107 (mk0 rfl) rfl rfl rfl (Nat.le_of_ble_eq_true rfl) (Nat.le_of_ble_eq_true rfl)) (bind_cg fun b107 => ?_)
      refine Eq.trans (cI_bind (Or.inl rfl)) (bind_cg fun p107 => ?_)
      show RS (ZZ L xs) (d + 1) mX5_read 110 [some (.ref o), none, none, some (.int i3), some (.int i4), some (.int p96.2), some (.int ((-1)))] [.int p107.2] p107.1 = _
      refine Eq.trans (q_istore (lv2 := [some (.ref o), none, none, some (.int i3), some (.int i4), some (.int p96.2), some (.int p107.2)]) dX5_read_110 (mk0 rfl) (Nat.le_of_ble_eq_true rfl) rfl) ?_
      rfl
set_option maxRecDepth 20000 in
theorem bX5_read_112 {L : Nat} {xs : Nat → Int32} (d : Nat) (o : Nat) (u1 : Option Value) (u2 : Option Value) (i3 : Int32) (i4 : Int32) (i5 : Int32) (i6 : Int32) (ph : PH) : RS (ZZ L xs) (d + 1) mX5_read 112 [some (.ref o), u1, u2, some (.int i3), some (.int i4), some (.int i5), some (.int i6)] [] ph = (fR ph (.ref o) 5 1).bind fun x113 => (iO ph x113 4).bind fun b119 => (cI (ZZ L xs) d mX4_addStep [.ref b119, .int 4, .int i4] ph).bind fun p119 => (fR p119.1 (.ref o) 5 1).bind fun x124 => (iO p119.1 x124 4).bind fun b129 => (cV (ZZ L xs) d mX4_landHere [.ref b129, .int i6] p119.1).bind fun p129 => if (i5 : Int32) = 0 then RS (ZZ L xs) (d + 1) mX5_read 151 [some (.ref o), none, none, some (.int i3), some (.int i4), some (.int i5), some (.int i6)] [] p129 else (fR p129 (.ref o) 5 0).bind fun x138 => (iO p129 x138 8).bind fun b141 => (cI (ZZ L xs) d mX8_clauseFollows [.ref b141] p129).bind fun p141 => if (p141.2 : Int32) = 0 then RS (ZZ L xs) (d + 1) mX5_read 151 [some (.ref o), none, none, some (.int i3), some (.int i4), some (.int i5), some (.int i6)] [] p141.1 else RS (ZZ L xs) (d + 1) mX5_read 152 [some (.ref o), none, none, some (.int i3), some (.int i4), some (.int i5), some (.int i6)] [.int 1] p141.1 := by
  refine Eq.trans (q_aload_n dX5_read_112 (show mK mX5_read 112 [some (.ref o), u1, u2, some (.int i3), some (.int i4), some (.int i5), some (.int i6)] = [some (.ref o), none, none, some (.int i3), some (.int i4), some (.int i5), some (.int i6)] from rfl) rfl rfl) ?_
  refine Eq.trans (q_getR (ci := 5) (k := 1) dX5_read_113 (mk0 rfl) rfl) (bind_cg2 fun x113 hx113 => ?_)
  have hx113 := fR_isR hx113
  refine Eq.trans (q_iconst (v := 4) dX5_read_116 (mk0 rfl) rfl) ?_
  refine Eq.trans (q_iload dX5_read_117 (mk0 rfl) rfl) ?_
  refine Eq.trans (q_callV (as := [.int 4, .int i4]) dX5_read_119 (mk0 rfl) rfl rfl rfl (Nat.le_of_ble_eq_true rfl) (Nat.le_of_ble_eq_true rfl)) (bind_cg fun b119 => ?_)
  refine Eq.trans (cI_bind (Or.inl rfl)) (bind_cg fun p119 => ?_)
  show RS (ZZ L xs) (d + 1) mX5_read 122 [some (.ref o), none, none, some (.int i3), some (.int i4), some (.int i5), some (.int i6)] [.int p119.2] p119.1 = _
  refine Eq.trans (q_pop dX5_read_122 (mk0 rfl) rfl) ?_
  refine Eq.trans (q_aload_n dX5_read_123 (mk0 rfl) rfl rfl) ?_
  refine Eq.trans (q_getR (ci := 5) (k := 1) dX5_read_124 (mk0 rfl) rfl) (bind_cg2 fun x124 hx124 => ?_)
  have hx124 := fR_isR hx124
  refine Eq.trans (q_iload dX5_read_127 (mk0 rfl) rfl) ?_
  refine Eq.trans (q_callV (as := [.int i6]) dX5_read_129 (mk0 rfl) rfl rfl rfl (Nat.le_of_ble_eq_true rfl) (Nat.le_of_ble_eq_true rfl)) (bind_cg fun b129 => ?_)
  refine Eq.trans (cV_bind rfl) (bind_cg fun p129 => ?_)
  show RS (ZZ L xs) (d + 1) mX5_read 132 [some (.ref o), none, none, some (.int i3), some (.int i4), some (.int i5), some (.int i6)] [] p129 = _
  refine Eq.trans (q_iload dX5_read_132 (mk0 rfl) rfl) ?_
  refine Eq.trans (q_if_eq (t := 151) dX5_read_134 (mk0 rfl) rfl) (ite_cg ?_ ?_)
  · rfl
  · refine Eq.trans (q_aload_n dX5_read_137 (mk0 rfl) rfl rfl) ?_
    refine Eq.trans (q_getR (ci := 5) (k := 0) dX5_read_138 (mk0 rfl) rfl) (bind_cg2 fun x138 hx138 => ?_)
    have hx138 := fR_isR hx138
    refine Eq.trans (q_callV (as := []) dX5_read_141 (mk0 rfl) rfl rfl rfl (Nat.le_of_ble_eq_true rfl) (Nat.le_of_ble_eq_true rfl)) (bind_cg fun b141 => ?_)
    refine Eq.trans (cI_bind (Or.inr rfl)) (bind_cg fun p141 => ?_)
    show RS (ZZ L xs) (d + 1) mX5_read 144 [some (.ref o), none, none, some (.int i3), some (.int i4), some (.int i5), some (.int i6)] [.int p141.2] p141.1 = _
    refine Eq.trans (q_if_eq (t := 151) dX5_read_144 (mk0 rfl) rfl) (ite_cg ?_ ?_)
    · rfl
    · refine Eq.trans (q_iconst (v := 1) dX5_read_147 (mk0 rfl) rfl) ?_
      refine Eq.trans (q_goto (t := 152) dX5_read_148 (mk0 rfl) rfl) ?_
      rfl
set_option maxRecDepth 20000 in
theorem bX5_read_151 {L : Nat} {xs : Nat → Int32} (d : Nat) (o : Nat) (u1 : Option Value) (u2 : Option Value) (i3 : Int32) (u4 : Option Value) (u5 : Option Value) (u6 : Option Value) (ph : PH) : RS (ZZ L xs) (d + 1) mX5_read 151 [some (.ref o), u1, u2, some (.int i3), u4, u5, u6] [] ph = RS (ZZ L xs) (d + 1) mX5_read 152 [some (.ref o), none, none, some (.int i3), none, none, none] [.int 0] ph := by
  refine Eq.trans (q_iconst (v := 0) dX5_read_151 (show mK mX5_read 151 [some (.ref o), u1, u2, some (.int i3), u4, u5, u6] = [some (.ref o), none, none, some (.int i3), none, none, none] from rfl) rfl) ?_
  rfl
set_option maxRecDepth 20000 in
theorem bX5_read_152 {L : Nat} {xs : Nat → Int32} (d : Nat) (o : Nat) (u1 : Option Value) (u2 : Option Value) (i3 : Int32) (u4 : Option Value) (u5 : Option Value) (u6 : Option Value) (t0 : Int32) (ph : PH) : RS (ZZ L xs) (d + 1) mX5_read 152 [some (.ref o), u1, u2, some (.int i3), u4, u5, u6] [.int t0] ph = RS (ZZ L xs) (d + 1) mX5_read 23 [some (.ref o), none, some (.int t0), some (.int (i3 + 1)), none, none, none] [] ph := by
  refine Eq.trans (q_istore_n (lv2 := [some (.ref o), none, some (.int t0), some (.int i3), none, none, none]) dX5_read_152 (show mK mX5_read 152 [some (.ref o), u1, u2, some (.int i3), u4, u5, u6] = [some (.ref o), none, none, some (.int i3), none, none, none] from rfl) (Nat.le_of_ble_eq_true rfl) rfl) ?_
  refine Eq.trans (q_iinc (v := 1) (lv2 := [some (.ref o), none, some (.int t0), some (.int (i3 + 1)), none, none, none]) dX5_read_153 (mk0 rfl) rfl rfl rfl) ?_
  refine Eq.trans (q_goto (t := 23) dX5_read_156 (mk0 rfl) rfl) ?_
  rfl
set_option maxRecDepth 20000 in
theorem bX5_read_159 {L : Nat} {xs : Nat → Int32} (d : Nat) (o : Nat) (u1 : Option Value) (u2 : Option Value) (u3 : Option Value) (u4 : Option Value) (u5 : Option Value) (u6 : Option Value) (ph : PH) : RS (ZZ L xs) (d + 1) mX5_read 159 [some (.ref o), u1, u2, u3, u4, u5, u6] [] ph = (fR ph (.ref o) 5 0).bind fun x160 => (fI ph x160 8 4).bind fun x163 => if ¬ (x163 : Int32) = 0 then RS (ZZ L xs) (d + 1) mX5_read 174 [some (.ref o), none, none, none, none, none, none] [.int 0] ph else RS (ZZ L xs) (d + 1) mX5_read 174 [some (.ref o), none, none, none, none, none, none] [.int 1] ph := by
  refine Eq.trans (q_aload_n dX5_read_159 (show mK mX5_read 159 [some (.ref o), u1, u2, u3, u4, u5, u6] = [some (.ref o), none, none, none, none, none, none] from rfl) rfl rfl) ?_
  refine Eq.trans (q_getR (ci := 5) (k := 0) dX5_read_160 (mk0 rfl) rfl) (bind_cg2 fun x160 hx160 => ?_)
  have hx160 := fR_isR hx160
  refine Eq.trans (q_getI (ci := 8) (k := 4) dX5_read_163 (mk0 rfl) rfl) (bind_cg fun x163 => ?_)
  refine Eq.trans (q_if_ne (t := 173) dX5_read_166 (mk0 rfl) rfl) (ite_cg ?_ ?_)
  · refine Eq.trans (q_iconst (v := 0) dX5_read_173 (mk0 rfl) rfl) ?_
    rfl
  · refine Eq.trans (q_iconst (v := 1) dX5_read_169 (mk0 rfl) rfl) ?_
    refine Eq.trans (q_goto (t := 174) dX5_read_170 (mk0 rfl) rfl) ?_
    rfl
set_option maxRecDepth 20000 in
theorem bX5_read_174 {L : Nat} {xs : Nat → Int32} (d : Nat) (u0 : Option Value) (u1 : Option Value) (u2 : Option Value) (u3 : Option Value) (u4 : Option Value) (u5 : Option Value) (u6 : Option Value) (t0 : Int32) (ph : PH) : RS (ZZ L xs) (d + 1) mX5_read 174 [u0, u1, u2, u3, u4, u5, u6] [.int t0] ph = if (t0 : Int32) = 0 ∨ (t0 : Int32) = 1 then some (ph, some (.int t0)) else none := by
  exact q_zreturn dX5_read_174 (show mK mX5_read 174 [u0, u1, u2, u3, u4, u5, u6] = [none, none, none, none, none, none, none] from rfl) rfl
set_option maxRecDepth 20000 in
theorem bX5_clauseBegins_0 {L : Nat} {xs : Nat → Int32} (d : Nat) (o : Nat) (i1 : Int32) (ph : PH) : RS (ZZ L xs) (d + 1) mX5_clauseBegins 0 [some (.ref o), some (.int i1)] [] ph = (fR ph (.ref o) 5 0).bind fun x1 => (iO ph x1 8).bind fun b6 => (cI (ZZ L xs) d mX8_wordAmong [.ref b6, .retAddr 3] ph).bind fun p6 => if ¬ (p6.2 : Int32) = (-1) then if (i1 : Int32) < 12 then (fR p6.1 (.ref o) 5 0).bind fun x38 => (iO p6.1 x38 8).bind fun b41 => (cV (ZZ L xs) d mX8_advance [.ref b41] p6.1).bind fun p41 => if (1 : Int32) = 0 ∨ (1 : Int32) = 1 then some (p41, some (.int 1)) else none else (fR p6.1 (.ref o) 5 0).bind fun x29 => (iO p6.1 x29 8).bind fun b33 => (cI (ZZ L xs) d mX8_refuse [.ref b33, .int 4] p6.1).bind fun p33 => if (p33.2 : Int32) = 0 ∨ (p33.2 : Int32) = 1 then some (p33.1, some (.int p33.2)) else none else (fR p6.1 (.ref o) 5 0).bind fun x14 => (iO p6.1 x14 8).bind fun b18 => (cI (ZZ L xs) d mX8_refuse [.ref b18, .int 0] p6.1).bind fun p18 => if (p18.2 : Int32) = 0 ∨ (p18.2 : Int32) = 1 then some (p18.1, some (.int p18.2)) else none := by
  refine Eq.trans (q_aload_n dX5_clauseBegins_0 (mk0 rfl) rfl rfl) ?_
  refine Eq.trans (q_getR (ci := 5) (k := 0) dX5_clauseBegins_1 (mk0 rfl) rfl) (bind_cg2 fun x1 hx1 => ?_)
  have hx1 := fR_isR hx1
  refine Eq.trans (q_ldcS (k := 3) dX5_clauseBegins_4 (mk0 rfl) rfl) ?_
  refine Eq.trans (q_callV (as := [.retAddr 3]) dX5_clauseBegins_6 (mk0 rfl) rfl rfl rfl (Nat.le_of_ble_eq_true rfl) (Nat.le_of_ble_eq_true rfl)) (bind_cg fun b6 => ?_)
  refine Eq.trans (cI_bind (Or.inl rfl)) (bind_cg fun p6 => ?_)
  show RS (ZZ L xs) (d + 1) mX5_clauseBegins 9 [some (.ref o), some (.int i1)] [.int p6.2] p6.1 = _
  refine Eq.trans (q_iconst (v := (-1)) dX5_clauseBegins_9 (mk0 rfl) rfl) ?_
  refine Eq.trans (q_icmp_ne (t := 22) dX5_clauseBegins_10 (mk0 rfl) rfl) (ite_cg ?_ ?_)
  · refine Eq.trans (q_iload_n dX5_clauseBegins_22 (mk0 rfl) rfl) ?_
    refine Eq.trans (q_bipush (v := 12) dX5_clauseBegins_23 (mk0 rfl) rfl) ?_
    refine Eq.trans (q_icmp_lt (t := 37) dX5_clauseBegins_25 (mk0 rfl) rfl) (ite_cg ?_ ?_)
    · refine Eq.trans (q_aload_n dX5_clauseBegins_37 (mk0 rfl) rfl rfl) ?_
      refine Eq.trans (q_getR (ci := 5) (k := 0) dX5_clauseBegins_38 (mk0 rfl) rfl) (bind_cg2 fun x38 hx38 => ?_)
      have hx38 := fR_isR hx38
      refine Eq.trans (q_callV (as := []) dX5_clauseBegins_41 (mk0 rfl) rfl rfl rfl (Nat.le_of_ble_eq_true rfl) (Nat.le_of_ble_eq_true rfl)) (bind_cg fun b41 => ?_)
      refine Eq.trans (cV_bind rfl) (bind_cg fun p41 => ?_)
      show RS (ZZ L xs) (d + 1) mX5_clauseBegins 44 [some (.ref o), some (.int i1)] [] p41 = _
      refine Eq.trans (q_iconst (v := 1) dX5_clauseBegins_44 (mk0 rfl) rfl) ?_
      exact q_zreturn dX5_clauseBegins_45 (mk0 rfl) rfl
    · refine Eq.trans (q_aload_n dX5_clauseBegins_28 (mk0 rfl) rfl rfl) ?_
      refine Eq.trans (q_getR (ci := 5) (k := 0) dX5_clauseBegins_29 (mk0 rfl) rfl) (bind_cg2 fun x29 hx29 => ?_)
      have hx29 := fR_isR hx29
      refine Eq.trans (q_iconst (v := 4) dX5_clauseBegins_32 (mk0 rfl) rfl) ?_
      refine Eq.trans (q_callV (as := [.int 4]) dX5_clauseBegins_33 (mk0 rfl) rfl rfl rfl (Nat.le_of_ble_eq_true rfl) (Nat.le_of_ble_eq_true rfl)) (bind_cg fun b33 => ?_)
      refine Eq.trans (cI_bind (Or.inr rfl)) (bind_cg fun p33 => ?_)
      show RS (ZZ L xs) (d + 1) mX5_clauseBegins 36 [some (.ref o), some (.int i1)] [.int p33.2] p33.1 = _
      exact q_zreturn dX5_clauseBegins_36 (mk0 rfl) rfl
  · refine Eq.trans (q_aload_n dX5_clauseBegins_13 (mk0 rfl) rfl rfl) ?_
    refine Eq.trans (q_getR (ci := 5) (k := 0) dX5_clauseBegins_14 (mk0 rfl) rfl) (bind_cg2 fun x14 hx14 => ?_)
    have hx14 := fR_isR hx14
    refine Eq.trans (q_iconst (v := 0) dX5_clauseBegins_17 (mk0 rfl) rfl) ?_
    refine Eq.trans (q_callV (as := [.int 0]) dX5_clauseBegins_18 (mk0 rfl) rfl rfl rfl (Nat.le_of_ble_eq_true rfl) (Nat.le_of_ble_eq_true rfl)) (bind_cg fun b18 => ?_)
    refine Eq.trans (cI_bind (Or.inr rfl)) (bind_cg fun p18 => ?_)
    show RS (ZZ L xs) (d + 1) mX5_clauseBegins 21 [some (.ref o), some (.int i1)] [.int p18.2] p18.1 = _
    exact q_zreturn dX5_clauseBegins_21 (mk0 rfl) rfl
set_option maxRecDepth 20000 in
theorem bX5_test_0 {L : Nat} {xs : Nat → Int32} (d : Nat) (o : Nat) (i1 : Int32) (ph : PH) : RS (ZZ L xs) (d + 1) mX5_test 0 [some (.ref o), some (.int i1), none, none, none, none, none] [] ph = (iO ph (.ref o) 5).bind fun b4 => (cI (ZZ L xs) d mX5_fact [.ref b4, .int i1] ph).bind fun p4 => RS (ZZ L xs) (d + 1) mX5_test 11 [some (.ref o), some (.int i1), some (.int ((-1))), some (.int p4.2), some (.int 0), none, none] [] p4.1 := by
  refine Eq.trans (q_iconst (v := (-1)) dX5_test_0 (mk0 rfl) rfl) ?_
  refine Eq.trans (q_istore_n (lv2 := [some (.ref o), some (.int i1), some (.int ((-1))), none, none, none, none]) dX5_test_1 (mk0 rfl) (Nat.le_of_ble_eq_true rfl) rfl) ?_
  refine Eq.trans (q_aload_n dX5_test_2 (mk0 rfl) rfl rfl) ?_
  refine Eq.trans (q_iload_n dX5_test_3 (mk0 rfl) rfl) ?_
  refine Eq.trans (q_callV (as := [.int i1]) dX5_test_4 (mk0 rfl) rfl rfl rfl (Nat.le_of_ble_eq_true rfl) (Nat.le_of_ble_eq_true rfl)) (bind_cg fun b4 => ?_)
  refine Eq.trans (cI_bind (Or.inr rfl)) (bind_cg fun p4 => ?_)
  show RS (ZZ L xs) (d + 1) mX5_test 7 [some (.ref o), some (.int i1), some (.int ((-1))), none, none, none, none] [.int p4.2] p4.1 = _
  refine Eq.trans (q_istore_n (lv2 := [some (.ref o), some (.int i1), some (.int ((-1))), some (.int p4.2), none, none, none]) dX5_test_7 (mk0 rfl) (Nat.le_of_ble_eq_true rfl) rfl) ?_
  refine Eq.trans (q_iconst (v := 0) dX5_test_8 (mk0 rfl) rfl) ?_
  refine Eq.trans (q_istore (lv2 := [some (.ref o), some (.int i1), some (.int ((-1))), some (.int p4.2), some (.int 0), none, none]) dX5_test_9 (mk0 rfl) (Nat.le_of_ble_eq_true rfl) rfl) ?_
  rfl
set_option maxRecDepth 20000 in
theorem bX5_test_11 {L : Nat} {xs : Nat → Int32} (d : Nat) (o : Nat) (i1 : Int32) (i2 : Int32) (i3 : Int32) (i4 : Int32) (u5 : Option Value) (u6 : Option Value) (ph : PH) : RS (ZZ L xs) (d + 1) mX5_test 11 [some (.ref o), some (.int i1), some (.int i2), some (.int i3), some (.int i4), u5, u6] [] ph = if (i3 : Int32) = 0 then RS (ZZ L xs) (d + 1) mX5_test 114 [some (.ref o), some (.int i1), some (.int i2), some (.int i3), some (.int i4), none, none] [] ph else if (400 : Int32) ≤ i4 then RS (ZZ L xs) (d + 1) mX5_test 114 [some (.ref o), some (.int i1), some (.int i2), some (.int i3), some (.int i4), none, none] [] ph else (fR ph (.ref o) 5 0).bind fun x24 => (iO ph x24 8).bind fun b29 => (cI (ZZ L xs) d mX8_wordAmong [.ref b29, .retAddr 11] ph).bind fun p29 => if ¬ (p29.2 : Int32) = (-1) then (fR p29.1 (.ref o) 5 0).bind fun x44 => (iO p29.1 x44 8).bind fun b47 => (cV (ZZ L xs) d mX8_advance [.ref b47] p29.1).bind fun p47 => if ¬ (p29.2 : Int32) = 0 then (fR p47 (.ref o) 5 1).bind fun x85 => (iO p47 x85 4).bind fun b89 => (cV (ZZ L xs) d mX4_landHere [.ref b89, .int i2] p47).bind fun p89 => (fR p89 (.ref o) 5 1).bind fun x93 => (iO p89 x93 4).bind fun b98 => (cI (ZZ L xs) d mX4_addStep [.ref b98, .int 3, .int 0] p89).bind fun p98 => (iO p98.1 (.ref o) 5).bind fun b104 => (cI (ZZ L xs) d mX5_fact [.ref b104, .int i1] p98.1).bind fun p104 => RS (ZZ L xs) (d + 1) mX5_test 108 [some (.ref o), some (.int i1), some (.int p98.2), some (.int p104.2), some (.int i4), some (.int p29.2), none] [] p104.1 else (fR p47 (.ref o) 5 1).bind fun x56 => (iO p47 x56 4).bind fun b61 => (cI (ZZ L xs) d mX4_addStep [.ref b61, .int 2, .int 0] p47).bind fun p61 => (iO p61.1 (.ref o) 5).bind fun b68 => (cI (ZZ L xs) d mX5_fact [.ref b68, .int i1] p61.1).bind fun p68 => (fR p68.1 (.ref o) 5 1).bind fun x73 => (iO p68.1 x73 4).bind fun b78 => (cV (ZZ L xs) d mX4_landHere [.ref b78, .int p61.2] p68.1).bind fun p78 => RS (ZZ L xs) (d + 1) mX5_test 108 [some (.ref o), some (.int i1), some (.int i2), some (.int p68.2), some (.int i4), some (.int p29.2), some (.int p61.2)] [] p78 else RS (ZZ L xs) (d + 1) mX5_test 114 [some (.ref o), some (.int i1), some (.int i2), some (.int i3), some (.int i4), some (.int p29.2), none] [] p29.1 := by
  refine Eq.trans (q_iload_n dX5_test_11 (show mK mX5_test 11 [some (.ref o), some (.int i1), some (.int i2), some (.int i3), some (.int i4), u5, u6] = [some (.ref o), some (.int i1), some (.int i2), some (.int i3), some (.int i4), none, none] from rfl) rfl) ?_
  refine Eq.trans (q_if_eq (t := 114) dX5_test_12 (mk0 rfl) rfl) (ite_cg ?_ ?_)
  · rfl
  · refine Eq.trans (q_iload dX5_test_15 (mk0 rfl) rfl) ?_
    refine Eq.trans (q_sipush (v := 400) dX5_test_17 (mk0 rfl) rfl) ?_
    refine Eq.trans (q_icmp_ge (t := 114) dX5_test_20 (mk0 rfl) rfl) (ite_cg ?_ ?_)
    · rfl
    · refine Eq.trans (q_aload_n dX5_test_23 (mk0 rfl) rfl rfl) ?_
      refine Eq.trans (q_getR (ci := 5) (k := 0) dX5_test_24 (mk0 rfl) rfl) (bind_cg2 fun x24 hx24 => ?_)
      have hx24 := fR_isR hx24
      refine Eq.trans (q_ldcS (k := 11) dX5_test_27 (mk0 rfl) rfl) ?_
      refine Eq.trans (q_callV (as := [.retAddr 11]) dX5_test_29 (mk0 rfl) rfl rfl rfl (Nat.le_of_ble_eq_true rfl) (Nat.le_of_ble_eq_true rfl)) (bind_cg fun b29 => ?_)
      refine Eq.trans (cI_bind (Or.inl rfl)) (bind_cg fun p29 => ?_)
      show RS (ZZ L xs) (d + 1) mX5_test 32 [some (.ref o), some (.int i1), some (.int i2), some (.int i3), some (.int i4), none, none] [.int p29.2] p29.1 = _
      refine Eq.trans (q_istore (lv2 := [some (.ref o), some (.int i1), some (.int i2), some (.int i3), some (.int i4), some (.int p29.2), none]) dX5_test_32 (mk0 rfl) (Nat.le_of_ble_eq_true rfl) rfl) ?_
      refine Eq.trans (q_iload dX5_test_34 (mk0 rfl) rfl) ?_
      refine Eq.trans (q_iconst (v := (-1)) dX5_test_36 (mk0 rfl) rfl) ?_
      refine Eq.trans (q_icmp_ne (t := 43) dX5_test_37 (mk0 rfl) rfl) (ite_cg ?_ ?_)
      · refine Eq.trans (q_aload_n dX5_test_43 (mk0 rfl) rfl rfl) ?_
        refine Eq.trans (q_getR (ci := 5) (k := 0) dX5_test_44 (mk0 rfl) rfl) (bind_cg2 fun x44 hx44 => ?_)
        have hx44 := fR_isR hx44
        refine Eq.trans (q_callV (as := []) dX5_test_47 (mk0 rfl) rfl rfl rfl (Nat.le_of_ble_eq_true rfl) (Nat.le_of_ble_eq_true rfl)) (bind_cg fun b47 => ?_)
        refine Eq.trans (cV_bind rfl) (bind_cg fun p47 => ?_)
        show RS (ZZ L xs) (d + 1) mX5_test 50 [some (.ref o), some (.int i1), some (.int i2), some (.int i3), some (.int i4), some (.int p29.2), none] [] p47 = _
        refine Eq.trans (q_iload dX5_test_50 (mk0 rfl) rfl) ?_
        refine Eq.trans (q_if_ne (t := 84) dX5_test_52 (mk0 rfl) rfl) (ite_cg ?_ ?_)
        · refine Eq.trans (q_aload_n dX5_test_84 (mk0 rfl) rfl rfl) ?_
          refine Eq.trans (q_getR (ci := 5) (k := 1) dX5_test_85 (mk0 rfl) rfl) (bind_cg2 fun x85 hx85 => ?_)
          have hx85 := fR_isR hx85
          refine Eq.trans (q_iload_n dX5_test_88 (mk0 rfl) rfl) ?_
          refine Eq.trans (q_callV (as := [.int i2]) dX5_test_89 (mk0 rfl) rfl rfl rfl (Nat.le_of_ble_eq_true rfl) (Nat.le_of_ble_eq_true rfl)) (bind_cg fun b89 => ?_)
          refine Eq.trans (cV_bind rfl) (bind_cg fun p89 => ?_)
          show RS (ZZ L xs) (d + 1) mX5_test 92 [some (.ref o), some (.int i1), some (.int i2), some (.int i3), some (.int i4), some (.int p29.2), none] [] p89 = _
          refine Eq.trans (q_aload_n dX5_test_92 (mk0 rfl) rfl rfl) ?_
          refine Eq.trans (q_getR (ci := 5) (k := 1) dX5_test_93 (mk0 rfl) rfl) (bind_cg2 fun x93 hx93 => ?_)
          have hx93 := fR_isR hx93
          refine Eq.trans (q_iconst (v := 3) dX5_test_96 (mk0 rfl) rfl) ?_
          refine Eq.trans (q_iconst (v := 0) dX5_test_97 (mk0 rfl) rfl) ?_
          refine Eq.trans (q_callV (as := [.int 3, .int 0]) dX5_test_98 (mk0 rfl) rfl rfl rfl (Nat.le_of_ble_eq_true rfl) (Nat.le_of_ble_eq_true rfl)) (bind_cg fun b98 => ?_)
          refine Eq.trans (cI_bind (Or.inl rfl)) (bind_cg fun p98 => ?_)
          show RS (ZZ L xs) (d + 1) mX5_test 101 [some (.ref o), some (.int i1), some (.int i2), some (.int i3), some (.int i4), some (.int p29.2), none] [.int p98.2] p98.1 = _
          refine Eq.trans (q_istore_n (lv2 := [some (.ref o), some (.int i1), some (.int p98.2), some (.int i3), some (.int i4), some (.int p29.2), none]) dX5_test_101 (mk0 rfl) (Nat.le_of_ble_eq_true rfl) rfl) ?_
          refine Eq.trans (q_aload_n dX5_test_102 (mk0 rfl) rfl rfl) ?_
          refine Eq.trans (q_iload_n dX5_test_103 (mk0 rfl) rfl) ?_
          refine Eq.trans (q_callV (as := [.int i1]) dX5_test_104 (mk0 rfl) rfl rfl rfl (Nat.le_of_ble_eq_true rfl) (Nat.le_of_ble_eq_true rfl)) (bind_cg fun b104 => ?_)
          refine Eq.trans (cI_bind (Or.inr rfl)) (bind_cg fun p104 => ?_)
          show RS (ZZ L xs) (d + 1) mX5_test 107 [some (.ref o), some (.int i1), some (.int p98.2), some (.int i3), some (.int i4), some (.int p29.2), none] [.int p104.2] p104.1 = _
          refine Eq.trans (q_istore_n (lv2 := [some (.ref o), some (.int i1), some (.int p98.2), some (.int p104.2), some (.int i4), some (.int p29.2), none]) dX5_test_107 (mk0 rfl) (Nat.le_of_ble_eq_true rfl) rfl) ?_
          rfl
        · refine Eq.trans (q_aload_n dX5_test_55 (mk0 rfl) rfl rfl) ?_
          refine Eq.trans (q_getR (ci := 5) (k := 1) dX5_test_56 (mk0 rfl) rfl) (bind_cg2 fun x56 hx56 => ?_)
          have hx56 := fR_isR hx56
          refine Eq.trans (q_iconst (v := 2) dX5_test_59 (mk0 rfl) rfl) ?_
          refine Eq.trans (q_iconst (v := 0) dX5_test_60 (mk0 rfl) rfl) ?_
          refine Eq.trans (q_callV (as := [.int 2, .int 0]) dX5_test_61 (mk0 rfl) rfl rfl rfl (Nat.le_of_ble_eq_true rfl) (Nat.le_of_ble_eq_true rfl)) (bind_cg fun b61 => ?_)
          refine Eq.trans (cI_bind (Or.inl rfl)) (bind_cg fun p61 => ?_)
          show RS (ZZ L xs) (d + 1) mX5_test 64 [some (.ref o), some (.int i1), some (.int i2), some (.int i3), some (.int i4), some (.int p29.2), none] [.int p61.2] p61.1 = _
          refine Eq.trans (q_istore (lv2 := [some (.ref o), some (.int i1), some (.int i2), some (.int i3), some (.int i4), some (.int p29.2), some (.int p61.2)]) dX5_test_64 (mk0 rfl) (Nat.le_of_ble_eq_true rfl) rfl) ?_
          refine Eq.trans (q_aload_n dX5_test_66 (mk0 rfl) rfl rfl) ?_
          refine Eq.trans (q_iload_n dX5_test_67 (mk0 rfl) rfl) ?_
          refine Eq.trans (q_callV (as := [.int i1]) dX5_test_68 (mk0 rfl) rfl rfl rfl (Nat.le_of_ble_eq_true rfl) (Nat.le_of_ble_eq_true rfl)) (bind_cg fun b68 => ?_)
          refine Eq.trans (cI_bind (Or.inr rfl)) (bind_cg fun p68 => ?_)
          show RS (ZZ L xs) (d + 1) mX5_test 71 [some (.ref o), some (.int i1), some (.int i2), some (.int i3), some (.int i4), some (.int p29.2), some (.int p61.2)] [.int p68.2] p68.1 = _
          refine Eq.trans (q_istore_n (lv2 := [some (.ref o), some (.int i1), some (.int i2), some (.int p68.2), some (.int i4), some (.int p29.2), some (.int p61.2)]) dX5_test_71 (mk0 rfl) (Nat.le_of_ble_eq_true rfl) rfl) ?_
          refine Eq.trans (q_aload_n dX5_test_72 (mk0 rfl) rfl rfl) ?_
          refine Eq.trans (q_getR (ci := 5) (k := 1) dX5_test_73 (mk0 rfl) rfl) (bind_cg2 fun x73 hx73 => ?_)
          have hx73 := fR_isR hx73
          refine Eq.trans (q_iload dX5_test_76 (mk0 rfl) rfl) ?_
          refine Eq.trans (q_callV (as := [.int p61.2]) dX5_test_78 (mk0 rfl) rfl rfl rfl (Nat.le_of_ble_eq_true rfl) (Nat.le_of_ble_eq_true rfl)) (bind_cg fun b78 => ?_)
          refine Eq.trans (cV_bind rfl) (bind_cg fun p78 => ?_)
          show RS (ZZ L xs) (d + 1) mX5_test 81 [some (.ref o), some (.int i1), some (.int i2), some (.int p68.2), some (.int i4), some (.int p29.2), some (.int p61.2)] [] p78 = _
          refine Eq.trans (q_goto (t := 108) dX5_test_81 (mk0 rfl) rfl) ?_
          rfl
      · refine Eq.trans (q_goto (t := 114) dX5_test_40 (mk0 rfl) rfl) ?_
        rfl
set_option maxRecDepth 20000 in
theorem bX5_test_108 {L : Nat} {xs : Nat → Int32} (d : Nat) (o : Nat) (i1 : Int32) (i2 : Int32) (i3 : Int32) (i4 : Int32) (u5 : Option Value) (u6 : Option Value) (ph : PH) : RS (ZZ L xs) (d + 1) mX5_test 108 [some (.ref o), some (.int i1), some (.int i2), some (.int i3), some (.int i4), u5, u6] [] ph = RS (ZZ L xs) (d + 1) mX5_test 11 [some (.ref o), some (.int i1), some (.int i2), some (.int i3), some (.int (i4 + 1)), none, none] [] ph := by
  refine Eq.trans (q_iinc (v := 1) (lv2 := [some (.ref o), some (.int i1), some (.int i2), some (.int i3), some (.int (i4 + 1)), none, none]) dX5_test_108 (show mK mX5_test 108 [some (.ref o), some (.int i1), some (.int i2), some (.int i3), some (.int i4), u5, u6] = [some (.ref o), some (.int i1), some (.int i2), some (.int i3), some (.int i4), none, none] from rfl) rfl rfl rfl) ?_
  refine Eq.trans (q_goto (t := 11) dX5_test_111 (mk0 rfl) rfl) ?_
  rfl
set_option maxRecDepth 20000 in
theorem bX5_test_114 {L : Nat} {xs : Nat → Int32} (d : Nat) (o : Nat) (u1 : Option Value) (i2 : Int32) (i3 : Int32) (u4 : Option Value) (u5 : Option Value) (u6 : Option Value) (ph : PH) : RS (ZZ L xs) (d + 1) mX5_test 114 [some (.ref o), u1, some (.int i2), some (.int i3), u4, u5, u6] [] ph = (fR ph (.ref o) 5 1).bind fun x115 => (iO ph x115 4).bind fun b119 => (cV (ZZ L xs) d mX4_landHere [.ref b119, .int i2] ph).bind fun p119 => if (i3 : Int32) = 0 ∨ (i3 : Int32) = 1 then some (p119, some (.int i3)) else none := by
  refine Eq.trans (q_aload_n dX5_test_114 (show mK mX5_test 114 [some (.ref o), u1, some (.int i2), some (.int i3), u4, u5, u6] = [some (.ref o), none, some (.int i2), some (.int i3), none, none, none] from rfl) rfl rfl) ?_
  refine Eq.trans (q_getR (ci := 5) (k := 1) dX5_test_115 (mk0 rfl) rfl) (bind_cg2 fun x115 hx115 => ?_)
  have hx115 := fR_isR hx115
  refine Eq.trans (q_iload_n dX5_test_118 (mk0 rfl) rfl) ?_
  refine Eq.trans (q_callV (as := [.int i2]) dX5_test_119 (mk0 rfl) rfl rfl rfl (Nat.le_of_ble_eq_true rfl) (Nat.le_of_ble_eq_true rfl)) (bind_cg fun b119 => ?_)
  refine Eq.trans (cV_bind rfl) (bind_cg fun p119 => ?_)
  show RS (ZZ L xs) (d + 1) mX5_test 122 [some (.ref o), none, some (.int i2), some (.int i3), none, none, none] [] p119 = _
  refine Eq.trans (q_iload_n dX5_test_122 (mk0 rfl) rfl) ?_
  exact q_zreturn dX5_test_123 (mk0 rfl) rfl
set_option maxRecDepth 20000 in
theorem bX5_fact_0 {L : Nat} {xs : Nat → Int32} (d : Nat) (o : Nat) (i1 : Int32) (ph : PH) : RS (ZZ L xs) (d + 1) mX5_fact 0 [some (.ref o), some (.int i1), none, none] [] ph = (fR ph (.ref o) 5 0).bind fun x1 => (iO ph x1 8).bind fun b6 => (cI (ZZ L xs) d mX8_wordAmong [.ref b6, .retAddr 7] ph).bind fun p6 => if ¬ (p6.2 : Int32) = (-1) then RS (ZZ L xs) (d + 1) mX5_fact 26 [some (.ref o), some (.int i1), none, none] [] p6.1 else (fR p6.1 (.ref o) 5 0).bind fun x14 => (iO p6.1 x14 8).bind fun b19 => (cI (ZZ L xs) d mX8_signAmong [.ref b19, .retAddr 8] p6.1).bind fun p19 => if (p19.2 : Int32) = (-1) then (fR p19.1 (.ref o) 5 1).bind fun x33 => (iO p19.1 x33 4).bind fun b36 => (cI (ZZ L xs) d mX4_beginSum [.ref b36] p19.1).bind fun p36 => (iO p36.1 (.ref o) 5).bind fun b42 => (cI (ZZ L xs) d mX5_sum [.ref b42, .int p36.2] p36.1).bind fun p42 => if ¬ (p42.2 : Int32) = 0 then (fR p42.1 (.ref o) 5 0).bind fun x51 => (iO p42.1 x51 8).bind fun b56 => (cI (ZZ L xs) d mX8_signAmong [.ref b56, .retAddr 10] p42.1).bind fun p56 => if (p56.2 : Int32) = (-1) then RS (ZZ L xs) (d + 1) mX5_fact 75 [some (.ref o), some (.int i1), some (.int p36.2), some (.int p56.2)] [] p56.1 else (fR p56.1 (.ref o) 5 1).bind fun x66 => (iO p56.1 x66 4).bind fun b69 => (cI (ZZ L xs) d mX4_isFull [.ref b69] p56.1).bind fun p69 => if (p69.2 : Int32) = 0 then (fR p69.1 (.ref o) 5 1).bind fun x94 => (iO p69.1 x94 4).bind fun b97 => (cV (ZZ L xs) d mX4_countFact [.ref b97] p69.1).bind fun p97 => (fR p97 (.ref o) 5 0).bind fun x101 => (iO p97 x101 8).bind fun b104 => (cV (ZZ L xs) d mX8_advance [.ref b104] p97).bind fun p104 => (fR p104 (.ref o) 5 1).bind fun x109 => (iO p104 x109 4).bind fun b112 => (cI (ZZ L xs) d mX4_beginSum [.ref b112] p104).bind fun p112 => (iO p112.1 (.ref o) 5).bind fun b115 => (cI (ZZ L xs) d mX5_sum [.ref b115, .int p112.2] p112.1).bind fun p115 => if ¬ (p115.2 : Int32) = 0 then (fR p115.1 (.ref o) 5 1).bind fun x124 => (iO p115.1 x124 4).bind fun b129 => (cI (ZZ L xs) d mX4_addStep [.ref b129, .int p56.2, .int p36.2] p115.1).bind fun p129 => if (1 : Int32) = 0 ∨ (1 : Int32) = 1 then some (p129.1, some (.int 1)) else none else if (0 : Int32) = 0 ∨ (0 : Int32) = 1 then some (p115.1, some (.int 0)) else none else RS (ZZ L xs) (d + 1) mX5_fact 75 [some (.ref o), some (.int i1), some (.int p36.2), some (.int p56.2)] [] p69.1 else if (0 : Int32) = 0 ∨ (0 : Int32) = 1 then some (p42.1, some (.int 0)) else none else RS (ZZ L xs) (d + 1) mX5_fact 26 [some (.ref o), some (.int i1), none, none] [] p19.1 := by
  refine Eq.trans (q_aload_n dX5_fact_0 (mk0 rfl) rfl rfl) ?_
  refine Eq.trans (q_getR (ci := 5) (k := 0) dX5_fact_1 (mk0 rfl) rfl) (bind_cg2 fun x1 hx1 => ?_)
  have hx1 := fR_isR hx1
  refine Eq.trans (q_ldcS (k := 7) dX5_fact_4 (mk0 rfl) rfl) ?_
  refine Eq.trans (q_callV (as := [.retAddr 7]) dX5_fact_6 (mk0 rfl) rfl rfl rfl (Nat.le_of_ble_eq_true rfl) (Nat.le_of_ble_eq_true rfl)) (bind_cg fun b6 => ?_)
  refine Eq.trans (cI_bind (Or.inl rfl)) (bind_cg fun p6 => ?_)
  show RS (ZZ L xs) (d + 1) mX5_fact 9 [some (.ref o), some (.int i1), none, none] [.int p6.2] p6.1 = _
  refine Eq.trans (q_iconst (v := (-1)) dX5_fact_9 (mk0 rfl) rfl) ?_
  refine Eq.trans (q_icmp_ne (t := 26) dX5_fact_10 (mk0 rfl) rfl) (ite_cg ?_ ?_)
  · rfl
  · refine Eq.trans (q_aload_n dX5_fact_13 (mk0 rfl) rfl rfl) ?_
    refine Eq.trans (q_getR (ci := 5) (k := 0) dX5_fact_14 (mk0 rfl) rfl) (bind_cg2 fun x14 hx14 => ?_)
    have hx14 := fR_isR hx14
    refine Eq.trans (q_ldcS (k := 8) dX5_fact_17 (mk0 rfl) rfl) ?_
    refine Eq.trans (q_callV (as := [.retAddr 8]) dX5_fact_19 (mk0 rfl) rfl rfl rfl (Nat.le_of_ble_eq_true rfl) (Nat.le_of_ble_eq_true rfl)) (bind_cg fun b19 => ?_)
    refine Eq.trans (cI_bind (Or.inl rfl)) (bind_cg fun p19 => ?_)
    show RS (ZZ L xs) (d + 1) mX5_fact 22 [some (.ref o), some (.int i1), none, none] [.int p19.2] p19.1 = _
    refine Eq.trans (q_iconst (v := (-1)) dX5_fact_22 (mk0 rfl) rfl) ?_
    refine Eq.trans (q_icmp_eq (t := 32) dX5_fact_23 (mk0 rfl) rfl) (ite_cg ?_ ?_)
    · refine Eq.trans (q_aload_n dX5_fact_32 (mk0 rfl) rfl rfl) ?_
      refine Eq.trans (q_getR (ci := 5) (k := 1) dX5_fact_33 (mk0 rfl) rfl) (bind_cg2 fun x33 hx33 => ?_)
      have hx33 := fR_isR hx33
      refine Eq.trans (q_callV (as := []) dX5_fact_36 (mk0 rfl) rfl rfl rfl (Nat.le_of_ble_eq_true rfl) (Nat.le_of_ble_eq_true rfl)) (bind_cg fun b36 => ?_)
      refine Eq.trans (cI_bind (Or.inl rfl)) (bind_cg fun p36 => ?_)
      show RS (ZZ L xs) (d + 1) mX5_fact 39 [some (.ref o), some (.int i1), none, none] [.int p36.2] p36.1 = _
      refine Eq.trans (q_istore_n (lv2 := [some (.ref o), some (.int i1), some (.int p36.2), none]) dX5_fact_39 (mk0 rfl) (Nat.le_of_ble_eq_true rfl) rfl) ?_
      refine Eq.trans (q_aload_n dX5_fact_40 (mk0 rfl) rfl rfl) ?_
      refine Eq.trans (q_iload_n dX5_fact_41 (mk0 rfl) rfl) ?_
      refine Eq.trans (q_callV (as := [.int p36.2]) dX5_fact_42 (mk0 rfl) rfl rfl rfl (Nat.le_of_ble_eq_true rfl) (Nat.le_of_ble_eq_true rfl)) (bind_cg fun b42 => ?_)
      refine Eq.trans (cI_bind (Or.inr rfl)) (bind_cg fun p42 => ?_)
      show RS (ZZ L xs) (d + 1) mX5_fact 45 [some (.ref o), some (.int i1), some (.int p36.2), none] [.int p42.2] p42.1 = _
      refine Eq.trans (q_if_ne (t := 50) dX5_fact_45 (mk0 rfl) rfl) (ite_cg ?_ ?_)
      · refine Eq.trans (q_aload_n dX5_fact_50 (mk0 rfl) rfl rfl) ?_
        refine Eq.trans (q_getR (ci := 5) (k := 0) dX5_fact_51 (mk0 rfl) rfl) (bind_cg2 fun x51 hx51 => ?_)
        have hx51 := fR_isR hx51
        refine Eq.trans (q_ldcS (k := 10) dX5_fact_54 (mk0 rfl) rfl) ?_
        refine Eq.trans (q_callV (as := [.retAddr 10]) dX5_fact_56 (mk0 rfl) rfl rfl rfl (Nat.le_of_ble_eq_true rfl) (Nat.le_of_ble_eq_true rfl)) (bind_cg fun b56 => ?_)
        refine Eq.trans (cI_bind (Or.inl rfl)) (bind_cg fun p56 => ?_)
        show RS (ZZ L xs) (d + 1) mX5_fact 59 [some (.ref o), some (.int i1), some (.int p36.2), none] [.int p56.2] p56.1 = _
        refine Eq.trans (q_istore_n (lv2 := [some (.ref o), some (.int i1), some (.int p36.2), some (.int p56.2)]) dX5_fact_59 (mk0 rfl) (Nat.le_of_ble_eq_true rfl) rfl) ?_
        refine Eq.trans (q_iload_n dX5_fact_60 (mk0 rfl) rfl) ?_
        refine Eq.trans (q_iconst (v := (-1)) dX5_fact_61 (mk0 rfl) rfl) ?_
        refine Eq.trans (q_icmp_eq (t := 75) dX5_fact_62 (mk0 rfl) rfl) (ite_cg ?_ ?_)
        · rfl
        · refine Eq.trans (q_aload_n dX5_fact_65 (mk0 rfl) rfl rfl) ?_
          refine Eq.trans (q_getR (ci := 5) (k := 1) dX5_fact_66 (mk0 rfl) rfl) (bind_cg2 fun x66 hx66 => ?_)
          have hx66 := fR_isR hx66
          refine Eq.trans (q_callV (as := []) dX5_fact_69 (mk0 rfl) rfl rfl rfl (Nat.le_of_ble_eq_true rfl) (Nat.le_of_ble_eq_true rfl)) (bind_cg fun b69 => ?_)
          refine Eq.trans (cI_bind (Or.inr rfl)) (bind_cg fun p69 => ?_)
          show RS (ZZ L xs) (d + 1) mX5_fact 72 [some (.ref o), some (.int i1), some (.int p36.2), some (.int p56.2)] [.int p69.2] p69.1 = _
          refine Eq.trans (q_if_eq (t := 93) dX5_fact_72 (mk0 rfl) rfl) (ite_cg ?_ ?_)
          · refine Eq.trans (q_aload_n dX5_fact_93 (mk0 rfl) rfl rfl) ?_
            refine Eq.trans (q_getR (ci := 5) (k := 1) dX5_fact_94 (mk0 rfl) rfl) (bind_cg2 fun x94 hx94 => ?_)
            have hx94 := fR_isR hx94
            refine Eq.trans (q_callV (as := []) dX5_fact_97 (mk0 rfl) rfl rfl rfl (Nat.le_of_ble_eq_true rfl) (Nat.le_of_ble_eq_true rfl)) (bind_cg fun b97 => ?_)
            refine Eq.trans (cV_bind rfl) (bind_cg fun p97 => ?_)
            show RS (ZZ L xs) (d + 1) mX5_fact 100 [some (.ref o), some (.int i1), some (.int p36.2), some (.int p56.2)] [] p97 = _
            refine Eq.trans (q_aload_n dX5_fact_100 (mk0 rfl) rfl rfl) ?_
            refine Eq.trans (q_getR (ci := 5) (k := 0) dX5_fact_101 (mk0 rfl) rfl) (bind_cg2 fun x101 hx101 => ?_)
            have hx101 := fR_isR hx101
            refine Eq.trans (q_callV (as := []) dX5_fact_104 (mk0 rfl) rfl rfl rfl (Nat.le_of_ble_eq_true rfl) (Nat.le_of_ble_eq_true rfl)) (bind_cg fun b104 => ?_)
            refine Eq.trans (cV_bind rfl) (bind_cg fun p104 => ?_)
            show RS (ZZ L xs) (d + 1) mX5_fact 107 [some (.ref o), some (.int i1), some (.int p36.2), some (.int p56.2)] [] p104 = _
            refine Eq.trans (q_aload_n dX5_fact_107 (mk0 rfl) rfl rfl) ?_
            refine Eq.trans (q_aload_n dX5_fact_108 (mk0 rfl) rfl rfl) ?_
            refine Eq.trans (q_getR (ci := 5) (k := 1) dX5_fact_109 (mk0 rfl) rfl) (bind_cg2 fun x109 hx109 => ?_)
            have hx109 := fR_isR hx109
            refine Eq.trans (q_callV (as := []) dX5_fact_112 (mk0 rfl) rfl rfl rfl (Nat.le_of_ble_eq_true rfl) (Nat.le_of_ble_eq_true rfl)) (bind_cg fun b112 => ?_)
            refine Eq.trans (cI_bind (Or.inl rfl)) (bind_cg fun p112 => ?_)
            show RS (ZZ L xs) (d + 1) mX5_fact 115 [some (.ref o), some (.int i1), some (.int p36.2), some (.int p56.2)] [.int p112.2, .ref o] p112.1 = _
            refine Eq.trans (q_callV (as := [.int p112.2]) dX5_fact_115 (mk0 rfl) rfl rfl rfl (Nat.le_of_ble_eq_true rfl) (Nat.le_of_ble_eq_true rfl)) (bind_cg fun b115 => ?_)
            refine Eq.trans (cI_bind (Or.inr rfl)) (bind_cg fun p115 => ?_)
            show RS (ZZ L xs) (d + 1) mX5_fact 118 [some (.ref o), some (.int i1), some (.int p36.2), some (.int p56.2)] [.int p115.2] p115.1 = _
            refine Eq.trans (q_if_ne (t := 123) dX5_fact_118 (mk0 rfl) rfl) (ite_cg ?_ ?_)
            · refine Eq.trans (q_aload_n dX5_fact_123 (mk0 rfl) rfl rfl) ?_
              refine Eq.trans (q_getR (ci := 5) (k := 1) dX5_fact_124 (mk0 rfl) rfl) (bind_cg2 fun x124 hx124 => ?_)
              have hx124 := fR_isR hx124
              refine Eq.trans (q_iload_n dX5_fact_127 (mk0 rfl) rfl) ?_
              refine Eq.trans (q_iload_n dX5_fact_128 (mk0 rfl) rfl) ?_
              refine Eq.trans (q_callV (as := [.int p56.2, .int p36.2]) dX5_fact_129 (mk0 rfl) rfl rfl rfl (Nat.le_of_ble_eq_true rfl) (Nat.le_of_ble_eq_true rfl)) (bind_cg fun b129 => ?_)
              refine Eq.trans (cI_bind (Or.inl rfl)) (bind_cg fun p129 => ?_)
              show RS (ZZ L xs) (d + 1) mX5_fact 132 [some (.ref o), some (.int i1), some (.int p36.2), some (.int p56.2)] [.int p129.2] p129.1 = _
              refine Eq.trans (q_pop dX5_fact_132 (mk0 rfl) rfl) ?_
              refine Eq.trans (q_iconst (v := 1) dX5_fact_133 (mk0 rfl) rfl) ?_
              exact q_zreturn dX5_fact_134 (mk0 rfl) rfl
            · refine Eq.trans (q_iconst (v := 0) dX5_fact_121 (mk0 rfl) rfl) ?_
              exact q_zreturn dX5_fact_122 (mk0 rfl) rfl
          · rfl
      · refine Eq.trans (q_iconst (v := 0) dX5_fact_48 (mk0 rfl) rfl) ?_
        exact q_zreturn dX5_fact_49 (mk0 rfl) rfl
    · rfl
set_option maxRecDepth 20000 in
theorem bX5_fact_26 {L : Nat} {xs : Nat → Int32} (d : Nat) (o : Nat) (i1 : Int32) (u2 : Option Value) (u3 : Option Value) (ph : PH) : RS (ZZ L xs) (d + 1) mX5_fact 26 [some (.ref o), some (.int i1), u2, u3] [] ph = (iO ph (.ref o) 5).bind fun b28 => (cI (ZZ L xs) d mX5_innerFact [.ref b28, .int i1] ph).bind fun p28 => if (p28.2 : Int32) = 0 ∨ (p28.2 : Int32) = 1 then some (p28.1, some (.int p28.2)) else none := by
  refine Eq.trans (q_aload_n dX5_fact_26 (show mK mX5_fact 26 [some (.ref o), some (.int i1), u2, u3] = [some (.ref o), some (.int i1), none, none] from rfl) rfl rfl) ?_
  refine Eq.trans (q_iload_n dX5_fact_27 (mk0 rfl) rfl) ?_
  refine Eq.trans (q_callV (as := [.int i1]) dX5_fact_28 (mk0 rfl) rfl rfl rfl (Nat.le_of_ble_eq_true rfl) (Nat.le_of_ble_eq_true rfl)) (bind_cg fun b28 => ?_)
  refine Eq.trans (cI_bind (Or.inr rfl)) (bind_cg fun p28 => ?_)
  show RS (ZZ L xs) (d + 1) mX5_fact 31 [some (.ref o), some (.int i1), none, none] [.int p28.2] p28.1 = _
  exact q_zreturn dX5_fact_31 (mk0 rfl) rfl
set_option maxRecDepth 20000 in
theorem bX5_fact_75 {L : Nat} {xs : Nat → Int32} (d : Nat) (o : Nat) (u1 : Option Value) (u2 : Option Value) (i3 : Int32) (ph : PH) : RS (ZZ L xs) (d + 1) mX5_fact 75 [some (.ref o), u1, u2, some (.int i3)] [] ph = (fR ph (.ref o) 5 0).bind fun x76 => if ¬ (i3 : Int32) = (-1) then RS (ZZ L xs) (d + 1) mX5_fact 89 [some (.ref o), none, none, some (.int i3)] [.int 3, x76] ph else RS (ZZ L xs) (d + 1) mX5_fact 89 [some (.ref o), none, none, some (.int i3)] [.int 0, x76] ph := by
  refine Eq.trans (q_aload_n dX5_fact_75 (show mK mX5_fact 75 [some (.ref o), u1, u2, some (.int i3)] = [some (.ref o), none, none, some (.int i3)] from rfl) rfl rfl) ?_
  refine Eq.trans (q_getR (ci := 5) (k := 0) dX5_fact_76 (mk0 rfl) rfl) (bind_cg2 fun x76 hx76 => ?_)
  have hx76 := fR_isR hx76
  refine Eq.trans (q_iload_n dX5_fact_79 (mk0 rfl) rfl) ?_
  refine Eq.trans (q_iconst (v := (-1)) dX5_fact_80 (mk0 rfl) rfl) ?_
  refine Eq.trans (q_icmp_ne (t := 88) dX5_fact_81 (mk0 rfl) rfl) (ite_cg ?_ ?_)
  · refine Eq.trans (q_iconst (v := 3) dX5_fact_88 (mk0 rfl) rfl) ?_
    rfl
  · refine Eq.trans (q_iconst (v := 0) dX5_fact_84 (mk0 rfl) rfl) ?_
    refine Eq.trans (q_goto (t := 89) dX5_fact_85 (mk0 rfl) rfl) ?_
    rfl
set_option maxRecDepth 20000 in
theorem bX5_fact_89 {L : Nat} {xs : Nat → Int32} (d : Nat) (u0 : Option Value) (u1 : Option Value) (u2 : Option Value) (u3 : Option Value) (t0 : Int32) (w1 : Value) (hw1 : isR w1 = true) (ph : PH) : RS (ZZ L xs) (d + 1) mX5_fact 89 [u0, u1, u2, u3] [.int t0, w1] ph = (iO ph w1 8).bind fun b89 => (cI (ZZ L xs) d mX8_refuse [.ref b89, .int t0] ph).bind fun p89 => if (p89.2 : Int32) = 0 ∨ (p89.2 : Int32) = 1 then some (p89.1, some (.int p89.2)) else none := by
  refine Eq.trans (q_callV (as := [.int t0]) dX5_fact_89 (show mK mX5_fact 89 [u0, u1, u2, u3] = [none, none, none, none] from rfl) rfl rfl rfl (Nat.le_of_ble_eq_true rfl) (Nat.le_of_ble_eq_true rfl)) (bind_cg fun b89 => ?_)
  refine Eq.trans (cI_bind (Or.inr rfl)) (bind_cg fun p89 => ?_)
  show RS (ZZ L xs) (d + 1) mX5_fact 92 [none, none, none, none] [.int p89.2] p89.1 = _
  exact q_zreturn dX5_fact_92 (mk0 rfl) rfl
set_option maxRecDepth 20000 in
theorem bX5_innerFact_0 {L : Nat} {xs : Nat → Int32} (d : Nat) (o : Nat) (i1 : Int32) (ph : PH) : RS (ZZ L xs) (d + 1) mX5_innerFact 0 [some (.ref o), some (.int i1), none, none] [] ph = if (i1 : Int32) < 10 then (fR ph (.ref o) 5 0).bind fun x16 => (fI ph x16 8 2).bind fun x19 => if ¬ (x19 : Int32) = 1 then RS (ZZ L xs) (d + 1) mX5_innerFact 31 [some (.ref o), some (.int i1), none, none] [.int 0] ph else RS (ZZ L xs) (d + 1) mX5_innerFact 31 [some (.ref o), some (.int i1), none, none] [.int 1] ph else (fR ph (.ref o) 5 0).bind fun x7 => (iO ph x7 8).bind fun b11 => (cI (ZZ L xs) d mX8_refuse [.ref b11, .int 2] ph).bind fun p11 => if (p11.2 : Int32) = 0 ∨ (p11.2 : Int32) = 1 then some (p11.1, some (.int p11.2)) else none := by
  refine Eq.trans (q_iload_n dX5_innerFact_0 (mk0 rfl) rfl) ?_
  refine Eq.trans (q_bipush (v := 10) dX5_innerFact_1 (mk0 rfl) rfl) ?_
  refine Eq.trans (q_icmp_lt (t := 15) dX5_innerFact_3 (mk0 rfl) rfl) (ite_cg ?_ ?_)
  · refine Eq.trans (q_aload_n dX5_innerFact_15 (mk0 rfl) rfl rfl) ?_
    refine Eq.trans (q_getR (ci := 5) (k := 0) dX5_innerFact_16 (mk0 rfl) rfl) (bind_cg2 fun x16 hx16 => ?_)
    have hx16 := fR_isR hx16
    refine Eq.trans (q_getI (ci := 8) (k := 2) dX5_innerFact_19 (mk0 rfl) rfl) (bind_cg fun x19 => ?_)
    refine Eq.trans (q_iconst (v := 1) dX5_innerFact_22 (mk0 rfl) rfl) ?_
    refine Eq.trans (q_icmp_ne (t := 30) dX5_innerFact_23 (mk0 rfl) rfl) (ite_cg ?_ ?_)
    · refine Eq.trans (q_iconst (v := 0) dX5_innerFact_30 (mk0 rfl) rfl) ?_
      rfl
    · refine Eq.trans (q_iconst (v := 1) dX5_innerFact_26 (mk0 rfl) rfl) ?_
      refine Eq.trans (q_goto (t := 31) dX5_innerFact_27 (mk0 rfl) rfl) ?_
      rfl
  · refine Eq.trans (q_aload_n dX5_innerFact_6 (mk0 rfl) rfl rfl) ?_
    refine Eq.trans (q_getR (ci := 5) (k := 0) dX5_innerFact_7 (mk0 rfl) rfl) (bind_cg2 fun x7 hx7 => ?_)
    have hx7 := fR_isR hx7
    refine Eq.trans (q_iconst (v := 2) dX5_innerFact_10 (mk0 rfl) rfl) ?_
    refine Eq.trans (q_callV (as := [.int 2]) dX5_innerFact_11 (mk0 rfl) rfl rfl rfl (Nat.le_of_ble_eq_true rfl) (Nat.le_of_ble_eq_true rfl)) (bind_cg fun b11 => ?_)
    refine Eq.trans (cI_bind (Or.inr rfl)) (bind_cg fun p11 => ?_)
    show RS (ZZ L xs) (d + 1) mX5_innerFact 14 [some (.ref o), some (.int i1), none, none] [.int p11.2] p11.1 = _
    exact q_zreturn dX5_innerFact_14 (mk0 rfl) rfl
set_option maxRecDepth 20000 in
theorem bX5_innerFact_31 {L : Nat} {xs : Nat → Int32} (d : Nat) (o : Nat) (i1 : Int32) (u2 : Option Value) (u3 : Option Value) (t0 : Int32) (ph : PH) : RS (ZZ L xs) (d + 1) mX5_innerFact 31 [some (.ref o), some (.int i1), u2, u3] [.int t0] ph = (fR ph (.ref o) 5 0).bind fun x33 => (iO ph x33 8).bind fun b36 => (cV (ZZ L xs) d mX8_advance [.ref b36] ph).bind fun p36 => if (t0 : Int32) = 0 then (iO p36 (.ref o) 5).bind fun b67 => (cI (ZZ L xs) d mX5_test [.ref b67, .int (i1 + 1)] p36).bind fun p67 => if ¬ (p67.2 : Int32) = 0 then (fR p67.1 (.ref o) 5 0).bind fun x76 => (iO p67.1 x76 8).bind fun b81 => (cI (ZZ L xs) d mX8_signAmong [.ref b81, .retAddr 9] p67.1).bind fun p81 => if ¬ (p81.2 : Int32) = (-1) then (fR p81.1 (.ref o) 5 0).bind fun x98 => (iO p81.1 x98 8).bind fun b101 => (cV (ZZ L xs) d mX8_advance [.ref b101] p81.1).bind fun p101 => if (1 : Int32) = 0 ∨ (1 : Int32) = 1 then some (p101, some (.int 1)) else none else (fR p81.1 (.ref o) 5 0).bind fun x89 => (iO p81.1 x89 8).bind fun b93 => (cI (ZZ L xs) d mX8_refuse [.ref b93, .int 0] p81.1).bind fun p93 => if (p93.2 : Int32) = 0 ∨ (p93.2 : Int32) = 1 then some (p93.1, some (.int p93.2)) else none else if (0 : Int32) = 0 ∨ (0 : Int32) = 1 then some (p67.1, some (.int 0)) else none else (iO p36 (.ref o) 5).bind fun b47 => (cI (ZZ L xs) d mX5_fact [.ref b47, .int (i1 + 1)] p36).bind fun p47 => (fR p47.1 (.ref o) 5 1).bind fun x52 => (iO p47.1 x52 4).bind fun b57 => (cI (ZZ L xs) d mX4_addStep [.ref b57, .int 1, .int 0] p47.1).bind fun p57 => if (p47.2 : Int32) = 0 ∨ (p47.2 : Int32) = 1 then some (p57.1, some (.int p47.2)) else none := by
  refine Eq.trans (q_istore_n (lv2 := [some (.ref o), some (.int i1), some (.int t0), none]) dX5_innerFact_31 (show mK mX5_innerFact 31 [some (.ref o), some (.int i1), u2, u3] = [some (.ref o), some (.int i1), none, none] from rfl) (Nat.le_of_ble_eq_true rfl) rfl) ?_
  refine Eq.trans (q_aload_n dX5_innerFact_32 (mk0 rfl) rfl rfl) ?_
  refine Eq.trans (q_getR (ci := 5) (k := 0) dX5_innerFact_33 (mk0 rfl) rfl) (bind_cg2 fun x33 hx33 => ?_)
  have hx33 := fR_isR hx33
  refine Eq.trans (q_callV (as := []) dX5_innerFact_36 (mk0 rfl) rfl rfl rfl (Nat.le_of_ble_eq_true rfl) (Nat.le_of_ble_eq_true rfl)) (bind_cg fun b36 => ?_)
  refine Eq.trans (cV_bind rfl) (bind_cg fun p36 => ?_)
  show RS (ZZ L xs) (d + 1) mX5_innerFact 39 [some (.ref o), some (.int i1), some (.int t0), none] [] p36 = _
  refine Eq.trans (q_iload_n dX5_innerFact_39 (mk0 rfl) rfl) ?_
  refine Eq.trans (q_if_eq (t := 63) dX5_innerFact_40 (mk0 rfl) rfl) (ite_cg ?_ ?_)
  · refine Eq.trans (q_aload_n dX5_innerFact_63 (mk0 rfl) rfl rfl) ?_
    refine Eq.trans (q_iload_n dX5_innerFact_64 (mk0 rfl) rfl) ?_
    refine Eq.trans (q_iconst (v := 1) dX5_innerFact_65 (mk0 rfl) rfl) ?_
    refine Eq.trans (q_iadd dX5_innerFact_66 (mk0 rfl)) ?_
    refine Eq.trans (q_callV (as := [.int (i1 + 1)]) dX5_innerFact_67 (mk0 rfl) rfl rfl rfl (Nat.le_of_ble_eq_true rfl) (Nat.le_of_ble_eq_true rfl)) (bind_cg fun b67 => ?_)
    refine Eq.trans (cI_bind (Or.inr rfl)) (bind_cg fun p67 => ?_)
    show RS (ZZ L xs) (d + 1) mX5_innerFact 70 [some (.ref o), some (.int i1), some (.int t0), none] [.int p67.2] p67.1 = _
    refine Eq.trans (q_if_ne (t := 75) dX5_innerFact_70 (mk0 rfl) rfl) (ite_cg ?_ ?_)
    · refine Eq.trans (q_aload_n dX5_innerFact_75 (mk0 rfl) rfl rfl) ?_
      refine Eq.trans (q_getR (ci := 5) (k := 0) dX5_innerFact_76 (mk0 rfl) rfl) (bind_cg2 fun x76 hx76 => ?_)
      have hx76 := fR_isR hx76
      refine Eq.trans (q_ldcS (k := 9) dX5_innerFact_79 (mk0 rfl) rfl) ?_
      refine Eq.trans (q_callV (as := [.retAddr 9]) dX5_innerFact_81 (mk0 rfl) rfl rfl rfl (Nat.le_of_ble_eq_true rfl) (Nat.le_of_ble_eq_true rfl)) (bind_cg fun b81 => ?_)
      refine Eq.trans (cI_bind (Or.inl rfl)) (bind_cg fun p81 => ?_)
      show RS (ZZ L xs) (d + 1) mX5_innerFact 84 [some (.ref o), some (.int i1), some (.int t0), none] [.int p81.2] p81.1 = _
      refine Eq.trans (q_iconst (v := (-1)) dX5_innerFact_84 (mk0 rfl) rfl) ?_
      refine Eq.trans (q_icmp_ne (t := 97) dX5_innerFact_85 (mk0 rfl) rfl) (ite_cg ?_ ?_)
      · refine Eq.trans (q_aload_n dX5_innerFact_97 (mk0 rfl) rfl rfl) ?_
        refine Eq.trans (q_getR (ci := 5) (k := 0) dX5_innerFact_98 (mk0 rfl) rfl) (bind_cg2 fun x98 hx98 => ?_)
        have hx98 := fR_isR hx98
        refine Eq.trans (q_callV (as := []) dX5_innerFact_101 (mk0 rfl) rfl rfl rfl (Nat.le_of_ble_eq_true rfl) (Nat.le_of_ble_eq_true rfl)) (bind_cg fun b101 => ?_)
        refine Eq.trans (cV_bind rfl) (bind_cg fun p101 => ?_)
        show RS (ZZ L xs) (d + 1) mX5_innerFact 104 [some (.ref o), some (.int i1), some (.int t0), none] [] p101 = _
        refine Eq.trans (q_iconst (v := 1) dX5_innerFact_104 (mk0 rfl) rfl) ?_
        exact q_zreturn dX5_innerFact_105 (mk0 rfl) rfl
      · refine Eq.trans (q_aload_n dX5_innerFact_88 (mk0 rfl) rfl rfl) ?_
        refine Eq.trans (q_getR (ci := 5) (k := 0) dX5_innerFact_89 (mk0 rfl) rfl) (bind_cg2 fun x89 hx89 => ?_)
        have hx89 := fR_isR hx89
        refine Eq.trans (q_iconst (v := 0) dX5_innerFact_92 (mk0 rfl) rfl) ?_
        refine Eq.trans (q_callV (as := [.int 0]) dX5_innerFact_93 (mk0 rfl) rfl rfl rfl (Nat.le_of_ble_eq_true rfl) (Nat.le_of_ble_eq_true rfl)) (bind_cg fun b93 => ?_)
        refine Eq.trans (cI_bind (Or.inr rfl)) (bind_cg fun p93 => ?_)
        show RS (ZZ L xs) (d + 1) mX5_innerFact 96 [some (.ref o), some (.int i1), some (.int t0), none] [.int p93.2] p93.1 = _
        exact q_zreturn dX5_innerFact_96 (mk0 rfl) rfl
    · refine Eq.trans (q_iconst (v := 0) dX5_innerFact_73 (mk0 rfl) rfl) ?_
      exact q_zreturn dX5_innerFact_74 (mk0 rfl) rfl
  · refine Eq.trans (q_aload_n dX5_innerFact_43 (mk0 rfl) rfl rfl) ?_
    refine Eq.trans (q_iload_n dX5_innerFact_44 (mk0 rfl) rfl) ?_
    refine Eq.trans (q_iconst (v := 1) dX5_innerFact_45 (mk0 rfl) rfl) ?_
    refine Eq.trans (q_iadd dX5_innerFact_46 (mk0 rfl)) ?_
    refine Eq.trans (q_callV (as := [.int (i1 + 1)]) dX5_innerFact_47 (mk0 rfl) rfl rfl rfl (Nat.le_of_ble_eq_true rfl) (Nat.le_of_ble_eq_true rfl)) (bind_cg fun b47 => ?_)
    refine Eq.trans (cI_bind (Or.inr rfl)) (bind_cg fun p47 => ?_)
    show RS (ZZ L xs) (d + 1) mX5_innerFact 50 [some (.ref o), some (.int i1), some (.int t0), none] [.int p47.2] p47.1 = _
    refine Eq.trans (q_istore_n (lv2 := [some (.ref o), some (.int i1), some (.int t0), some (.int p47.2)]) dX5_innerFact_50 (mk0 rfl) (Nat.le_of_ble_eq_true rfl) rfl) ?_
    refine Eq.trans (q_aload_n dX5_innerFact_51 (mk0 rfl) rfl rfl) ?_
    refine Eq.trans (q_getR (ci := 5) (k := 1) dX5_innerFact_52 (mk0 rfl) rfl) (bind_cg2 fun x52 hx52 => ?_)
    have hx52 := fR_isR hx52
    refine Eq.trans (q_iconst (v := 1) dX5_innerFact_55 (mk0 rfl) rfl) ?_
    refine Eq.trans (q_iconst (v := 0) dX5_innerFact_56 (mk0 rfl) rfl) ?_
    refine Eq.trans (q_callV (as := [.int 1, .int 0]) dX5_innerFact_57 (mk0 rfl) rfl rfl rfl (Nat.le_of_ble_eq_true rfl) (Nat.le_of_ble_eq_true rfl)) (bind_cg fun b57 => ?_)
    refine Eq.trans (cI_bind (Or.inl rfl)) (bind_cg fun p57 => ?_)
    show RS (ZZ L xs) (d + 1) mX5_innerFact 60 [some (.ref o), some (.int i1), some (.int t0), some (.int p47.2)] [.int p57.2] p57.1 = _
    refine Eq.trans (q_pop dX5_innerFact_60 (mk0 rfl) rfl) ?_
    refine Eq.trans (q_iload_n dX5_innerFact_61 (mk0 rfl) rfl) ?_
    exact q_zreturn dX5_innerFact_62 (mk0 rfl) rfl
set_option maxRecDepth 20000 in
theorem bX5_sum_0 {L : Nat} {xs : Nat → Int32} (d : Nat) (o : Nat) (i1 : Int32) (ph : PH) : RS (ZZ L xs) (d + 1) mX5_sum 0 [some (.ref o), some (.int i1), none, none] [] ph = RS (ZZ L xs) (d + 1) mX5_sum 5 [some (.ref o), some (.int i1), some (.int 43), some (.int 0)] [] ph := by
  refine Eq.trans (q_bipush (v := 43) dX5_sum_0 (mk0 rfl) rfl) ?_
  refine Eq.trans (q_istore_n (lv2 := [some (.ref o), some (.int i1), some (.int 43), none]) dX5_sum_2 (mk0 rfl) (Nat.le_of_ble_eq_true rfl) rfl) ?_
  refine Eq.trans (q_iconst (v := 0) dX5_sum_3 (mk0 rfl) rfl) ?_
  refine Eq.trans (q_istore_n (lv2 := [some (.ref o), some (.int i1), some (.int 43), some (.int 0)]) dX5_sum_4 (mk0 rfl) (Nat.le_of_ble_eq_true rfl) rfl) ?_
  rfl
set_option maxRecDepth 20000 in
theorem bX5_sum_5 {L : Nat} {xs : Nat → Int32} (d : Nat) (o : Nat) (i1 : Int32) (i2 : Int32) (i3 : Int32) (ph : PH) : RS (ZZ L xs) (d + 1) mX5_sum 5 [some (.ref o), some (.int i1), some (.int i2), some (.int i3)] [] ph = if (400 : Int32) ≤ i3 then RS (ZZ L xs) (d + 1) mX5_sum 55 [some (.ref o), some (.int i1), some (.int i2), some (.int i3)] [] ph else if (i2 : Int32) = (-1) then RS (ZZ L xs) (d + 1) mX5_sum 55 [some (.ref o), some (.int i1), some (.int i2), some (.int i3)] [] ph else (iO ph (.ref o) 5).bind fun b19 => (cI (ZZ L xs) d mX5_addValue [.ref b19, .int i2] ph).bind fun p19 => if ¬ (p19.2 : Int32) = 0 then (fR p19.1 (.ref o) 5 0).bind fun x28 => (iO p19.1 x28 8).bind fun b33 => (cI (ZZ L xs) d mX8_signAmong [.ref b33, .retAddr 5] p19.1).bind fun p33 => if (p33.2 : Int32) = (-1) then RS (ZZ L xs) (d + 1) mX5_sum 49 [some (.ref o), some (.int i1), some (.int p33.2), some (.int i3)] [] p33.1 else (fR p33.1 (.ref o) 5 0).bind fun x43 => (iO p33.1 x43 8).bind fun b46 => (cV (ZZ L xs) d mX8_advance [.ref b46] p33.1).bind fun p46 => RS (ZZ L xs) (d + 1) mX5_sum 49 [some (.ref o), some (.int i1), some (.int p33.2), some (.int i3)] [] p46 else if (0 : Int32) = 0 ∨ (0 : Int32) = 1 then some (p19.1, some (.int 0)) else none := by
  refine Eq.trans (q_iload_n dX5_sum_5 (mk0 rfl) rfl) ?_
  refine Eq.trans (q_sipush (v := 400) dX5_sum_6 (mk0 rfl) rfl) ?_
  refine Eq.trans (q_icmp_ge (t := 55) dX5_sum_9 (mk0 rfl) rfl) (ite_cg ?_ ?_)
  · rfl
  · refine Eq.trans (q_iload_n dX5_sum_12 (mk0 rfl) rfl) ?_
    refine Eq.trans (q_iconst (v := (-1)) dX5_sum_13 (mk0 rfl) rfl) ?_
    refine Eq.trans (q_icmp_eq (t := 55) dX5_sum_14 (mk0 rfl) rfl) (ite_cg ?_ ?_)
    · rfl
    · refine Eq.trans (q_aload_n dX5_sum_17 (mk0 rfl) rfl rfl) ?_
      refine Eq.trans (q_iload_n dX5_sum_18 (mk0 rfl) rfl) ?_
      refine Eq.trans (q_callV (as := [.int i2]) dX5_sum_19 (mk0 rfl) rfl rfl rfl (Nat.le_of_ble_eq_true rfl) (Nat.le_of_ble_eq_true rfl)) (bind_cg fun b19 => ?_)
      refine Eq.trans (cI_bind (Or.inr rfl)) (bind_cg fun p19 => ?_)
      show RS (ZZ L xs) (d + 1) mX5_sum 22 [some (.ref o), some (.int i1), some (.int i2), some (.int i3)] [.int p19.2] p19.1 = _
      refine Eq.trans (q_if_ne (t := 27) dX5_sum_22 (mk0 rfl) rfl) (ite_cg ?_ ?_)
      · refine Eq.trans (q_aload_n dX5_sum_27 (mk0 rfl) rfl rfl) ?_
        refine Eq.trans (q_getR (ci := 5) (k := 0) dX5_sum_28 (mk0 rfl) rfl) (bind_cg2 fun x28 hx28 => ?_)
        have hx28 := fR_isR hx28
        refine Eq.trans (q_ldcS (k := 5) dX5_sum_31 (mk0 rfl) rfl) ?_
        refine Eq.trans (q_callV (as := [.retAddr 5]) dX5_sum_33 (mk0 rfl) rfl rfl rfl (Nat.le_of_ble_eq_true rfl) (Nat.le_of_ble_eq_true rfl)) (bind_cg fun b33 => ?_)
        refine Eq.trans (cI_bind (Or.inl rfl)) (bind_cg fun p33 => ?_)
        show RS (ZZ L xs) (d + 1) mX5_sum 36 [some (.ref o), some (.int i1), some (.int i2), some (.int i3)] [.int p33.2] p33.1 = _
        refine Eq.trans (q_istore_n (lv2 := [some (.ref o), some (.int i1), some (.int p33.2), some (.int i3)]) dX5_sum_36 (mk0 rfl) (Nat.le_of_ble_eq_true rfl) rfl) ?_
        refine Eq.trans (q_iload_n dX5_sum_37 (mk0 rfl) rfl) ?_
        refine Eq.trans (q_iconst (v := (-1)) dX5_sum_38 (mk0 rfl) rfl) ?_
        refine Eq.trans (q_icmp_eq (t := 49) dX5_sum_39 (mk0 rfl) rfl) (ite_cg ?_ ?_)
        · rfl
        · refine Eq.trans (q_aload_n dX5_sum_42 (mk0 rfl) rfl rfl) ?_
          refine Eq.trans (q_getR (ci := 5) (k := 0) dX5_sum_43 (mk0 rfl) rfl) (bind_cg2 fun x43 hx43 => ?_)
          have hx43 := fR_isR hx43
          refine Eq.trans (q_callV (as := []) dX5_sum_46 (mk0 rfl) rfl rfl rfl (Nat.le_of_ble_eq_true rfl) (Nat.le_of_ble_eq_true rfl)) (bind_cg fun b46 => ?_)
          refine Eq.trans (cV_bind rfl) (bind_cg fun p46 => ?_)
          show RS (ZZ L xs) (d + 1) mX5_sum 49 [some (.ref o), some (.int i1), some (.int p33.2), some (.int i3)] [] p46 = _
          rfl
      · refine Eq.trans (q_iconst (v := 0) dX5_sum_25 (mk0 rfl) rfl) ?_
        exact q_zreturn dX5_sum_26 (mk0 rfl) rfl
set_option maxRecDepth 20000 in
theorem bX5_sum_49 {L : Nat} {xs : Nat → Int32} (d : Nat) (o : Nat) (i1 : Int32) (i2 : Int32) (i3 : Int32) (ph : PH) : RS (ZZ L xs) (d + 1) mX5_sum 49 [some (.ref o), some (.int i1), some (.int i2), some (.int i3)] [] ph = RS (ZZ L xs) (d + 1) mX5_sum 5 [some (.ref o), some (.int i1), some (.int i2), some (.int (i3 + 1))] [] ph := by
  refine Eq.trans (q_iinc (v := 1) (lv2 := [some (.ref o), some (.int i1), some (.int i2), some (.int (i3 + 1))]) dX5_sum_49 (mk0 rfl) rfl rfl rfl) ?_
  refine Eq.trans (q_goto (t := 5) dX5_sum_52 (mk0 rfl) rfl) ?_
  rfl
set_option maxRecDepth 20000 in
theorem bX5_sum_55 {L : Nat} {xs : Nat → Int32} (d : Nat) (o : Nat) (i1 : Int32) (u2 : Option Value) (u3 : Option Value) (ph : PH) : RS (ZZ L xs) (d + 1) mX5_sum 55 [some (.ref o), some (.int i1), u2, u3] [] ph = (fR ph (.ref o) 5 1).bind fun x56 => (iO ph x56 4).bind fun b60 => (cV (ZZ L xs) d mX4_endSum [.ref b60, .int i1] ph).bind fun p60 => if (1 : Int32) = 0 ∨ (1 : Int32) = 1 then some (p60, some (.int 1)) else none := by
  refine Eq.trans (q_aload_n dX5_sum_55 (show mK mX5_sum 55 [some (.ref o), some (.int i1), u2, u3] = [some (.ref o), some (.int i1), none, none] from rfl) rfl rfl) ?_
  refine Eq.trans (q_getR (ci := 5) (k := 1) dX5_sum_56 (mk0 rfl) rfl) (bind_cg2 fun x56 hx56 => ?_)
  have hx56 := fR_isR hx56
  refine Eq.trans (q_iload_n dX5_sum_59 (mk0 rfl) rfl) ?_
  refine Eq.trans (q_callV (as := [.int i1]) dX5_sum_60 (mk0 rfl) rfl rfl rfl (Nat.le_of_ble_eq_true rfl) (Nat.le_of_ble_eq_true rfl)) (bind_cg fun b60 => ?_)
  refine Eq.trans (cV_bind rfl) (bind_cg fun p60 => ?_)
  show RS (ZZ L xs) (d + 1) mX5_sum 63 [some (.ref o), some (.int i1), none, none] [] p60 = _
  refine Eq.trans (q_iconst (v := 1) dX5_sum_63 (mk0 rfl) rfl) ?_
  exact q_zreturn dX5_sum_64 (mk0 rfl) rfl
set_option maxRecDepth 20000 in
theorem bX5_addValue_0 {L : Nat} {xs : Nat → Int32} (d : Nat) (o : Nat) (i1 : Int32) (ph : PH) : RS (ZZ L xs) (d + 1) mX5_addValue 0 [some (.ref o), some (.int i1), none, none] [] ph = (fR ph (.ref o) 5 0).bind fun x1 => (iO ph x1 8).bind fun b6 => (cI (ZZ L xs) d mX8_wordAmong [.ref b6, .retAddr 4] ph).bind fun p6 => if ¬ (p6.2 : Int32) = (-1) then RS (ZZ L xs) (d + 1) mX5_addValue 35 [some (.ref o), some (.int i1), some (.int p6.2), none] [] p6.1 else (fR p6.1 (.ref o) 5 0).bind fun x16 => (fI p6.1 x16 8 2).bind fun x19 => if (x19 : Int32) = 2 then RS (ZZ L xs) (d + 1) mX5_addValue 35 [some (.ref o), some (.int i1), some (.int p6.2), none] [] p6.1 else (fR p6.1 (.ref o) 5 0).bind fun x27 => (iO p6.1 x27 8).bind fun b31 => (cI (ZZ L xs) d mX8_refuse [.ref b31, .int 0] p6.1).bind fun p31 => if (p31.2 : Int32) = 0 ∨ (p31.2 : Int32) = 1 then some (p31.1, some (.int p31.2)) else none := by
  refine Eq.trans (q_aload_n dX5_addValue_0 (mk0 rfl) rfl rfl) ?_
  refine Eq.trans (q_getR (ci := 5) (k := 0) dX5_addValue_1 (mk0 rfl) rfl) (bind_cg2 fun x1 hx1 => ?_)
  have hx1 := fR_isR hx1
  refine Eq.trans (q_ldcS (k := 4) dX5_addValue_4 (mk0 rfl) rfl) ?_
  refine Eq.trans (q_callV (as := [.retAddr 4]) dX5_addValue_6 (mk0 rfl) rfl rfl rfl (Nat.le_of_ble_eq_true rfl) (Nat.le_of_ble_eq_true rfl)) (bind_cg fun b6 => ?_)
  refine Eq.trans (cI_bind (Or.inl rfl)) (bind_cg fun p6 => ?_)
  show RS (ZZ L xs) (d + 1) mX5_addValue 9 [some (.ref o), some (.int i1), none, none] [.int p6.2] p6.1 = _
  refine Eq.trans (q_istore_n (lv2 := [some (.ref o), some (.int i1), some (.int p6.2), none]) dX5_addValue_9 (mk0 rfl) (Nat.le_of_ble_eq_true rfl) rfl) ?_
  refine Eq.trans (q_iload_n dX5_addValue_10 (mk0 rfl) rfl) ?_
  refine Eq.trans (q_iconst (v := (-1)) dX5_addValue_11 (mk0 rfl) rfl) ?_
  refine Eq.trans (q_icmp_ne (t := 35) dX5_addValue_12 (mk0 rfl) rfl) (ite_cg ?_ ?_)
  · rfl
  · refine Eq.trans (q_aload_n dX5_addValue_15 (mk0 rfl) rfl rfl) ?_
    refine Eq.trans (q_getR (ci := 5) (k := 0) dX5_addValue_16 (mk0 rfl) rfl) (bind_cg2 fun x16 hx16 => ?_)
    have hx16 := fR_isR hx16
    refine Eq.trans (q_getI (ci := 8) (k := 2) dX5_addValue_19 (mk0 rfl) rfl) (bind_cg fun x19 => ?_)
    refine Eq.trans (q_iconst (v := 2) dX5_addValue_22 (mk0 rfl) rfl) ?_
    refine Eq.trans (q_icmp_eq (t := 35) dX5_addValue_23 (mk0 rfl) rfl) (ite_cg ?_ ?_)
    · rfl
    · refine Eq.trans (q_aload_n dX5_addValue_26 (mk0 rfl) rfl rfl) ?_
      refine Eq.trans (q_getR (ci := 5) (k := 0) dX5_addValue_27 (mk0 rfl) rfl) (bind_cg2 fun x27 hx27 => ?_)
      have hx27 := fR_isR hx27
      refine Eq.trans (q_iconst (v := 0) dX5_addValue_30 (mk0 rfl) rfl) ?_
      refine Eq.trans (q_callV (as := [.int 0]) dX5_addValue_31 (mk0 rfl) rfl rfl rfl (Nat.le_of_ble_eq_true rfl) (Nat.le_of_ble_eq_true rfl)) (bind_cg fun b31 => ?_)
      refine Eq.trans (cI_bind (Or.inr rfl)) (bind_cg fun p31 => ?_)
      show RS (ZZ L xs) (d + 1) mX5_addValue 34 [some (.ref o), some (.int i1), some (.int p6.2), none] [.int p31.2] p31.1 = _
      exact q_zreturn dX5_addValue_34 (mk0 rfl) rfl
set_option maxRecDepth 20000 in
theorem bX5_addValue_35 {L : Nat} {xs : Nat → Int32} (d : Nat) (o : Nat) (i1 : Int32) (i2 : Int32) (u3 : Option Value) (ph : PH) : RS (ZZ L xs) (d + 1) mX5_addValue 35 [some (.ref o), some (.int i1), some (.int i2), u3] [] ph = if ¬ (i2 : Int32) = (-1) then RS (ZZ L xs) (d + 1) mX5_addValue 53 [some (.ref o), some (.int i1), some (.int i2), none] [.int (i2 ^^^ ((-1)))] ph else (fR ph (.ref o) 5 0).bind fun x41 => (iO ph x41 8).bind fun b44 => (cI (ZZ L xs) d mX8_numberHere [.ref b44] ph).bind fun p44 => RS (ZZ L xs) (d + 1) mX5_addValue 53 [some (.ref o), some (.int i1), some (.int i2), none] [.int p44.2] p44.1 := by
  refine Eq.trans (q_iload_n dX5_addValue_35 (show mK mX5_addValue 35 [some (.ref o), some (.int i1), some (.int i2), u3] = [some (.ref o), some (.int i1), some (.int i2), none] from rfl) rfl) ?_
  refine Eq.trans (q_iconst (v := (-1)) dX5_addValue_36 (mk0 rfl) rfl) ?_
  refine Eq.trans (q_icmp_ne (t := 50) dX5_addValue_37 (mk0 rfl) rfl) (ite_cg ?_ ?_)
  · refine Eq.trans (q_iload_n dX5_addValue_50 (mk0 rfl) rfl) ?_
    refine Eq.trans (q_iconst (v := (-1)) dX5_addValue_51 (mk0 rfl) rfl) ?_
    refine Eq.trans (q_ixor dX5_addValue_52 (mk0 rfl)) ?_
    rfl
  · refine Eq.trans (q_aload_n dX5_addValue_40 (mk0 rfl) rfl rfl) ?_
    refine Eq.trans (q_getR (ci := 5) (k := 0) dX5_addValue_41 (mk0 rfl) rfl) (bind_cg2 fun x41 hx41 => ?_)
    have hx41 := fR_isR hx41
    refine Eq.trans (q_callV (as := []) dX5_addValue_44 (mk0 rfl) rfl rfl rfl (Nat.le_of_ble_eq_true rfl) (Nat.le_of_ble_eq_true rfl)) (bind_cg fun b44 => ?_)
    refine Eq.trans (cI_bind (Or.inl rfl)) (bind_cg fun p44 => ?_)
    show RS (ZZ L xs) (d + 1) mX5_addValue 47 [some (.ref o), some (.int i1), some (.int i2), none] [.int p44.2] p44.1 = _
    refine Eq.trans (q_goto (t := 53) dX5_addValue_47 (mk0 rfl) rfl) ?_
    rfl
set_option maxRecDepth 20000 in
theorem bX5_addValue_53 {L : Nat} {xs : Nat → Int32} (d : Nat) (o : Nat) (i1 : Int32) (i2 : Int32) (u3 : Option Value) (t0 : Int32) (ph : PH) : RS (ZZ L xs) (d + 1) mX5_addValue 53 [some (.ref o), some (.int i1), some (.int i2), u3] [.int t0] ph = if ¬ (i2 : Int32) = (-1) then RS (ZZ L xs) (d + 1) mX5_addValue 73 [some (.ref o), some (.int i1), some (.int i2), some (.int t0)] [] ph else if ¬ (t0 : Int32) = (-1) then RS (ZZ L xs) (d + 1) mX5_addValue 73 [some (.ref o), some (.int i1), some (.int i2), some (.int t0)] [] ph else (fR ph (.ref o) 5 0).bind fun x65 => (iO ph x65 8).bind fun b69 => (cI (ZZ L xs) d mX8_refuse [.ref b69, .int 1] ph).bind fun p69 => if (p69.2 : Int32) = 0 ∨ (p69.2 : Int32) = 1 then some (p69.1, some (.int p69.2)) else none := by
  refine Eq.trans (q_istore_n (lv2 := [some (.ref o), some (.int i1), some (.int i2), some (.int t0)]) dX5_addValue_53 (show mK mX5_addValue 53 [some (.ref o), some (.int i1), some (.int i2), u3] = [some (.ref o), some (.int i1), some (.int i2), none] from rfl) (Nat.le_of_ble_eq_true rfl) rfl) ?_
  refine Eq.trans (q_iload_n dX5_addValue_54 (mk0 rfl) rfl) ?_
  refine Eq.trans (q_iconst (v := (-1)) dX5_addValue_55 (mk0 rfl) rfl) ?_
  refine Eq.trans (q_icmp_ne (t := 73) dX5_addValue_56 (mk0 rfl) rfl) (ite_cg ?_ ?_)
  · rfl
  · refine Eq.trans (q_iload_n dX5_addValue_59 (mk0 rfl) rfl) ?_
    refine Eq.trans (q_iconst (v := (-1)) dX5_addValue_60 (mk0 rfl) rfl) ?_
    refine Eq.trans (q_icmp_ne (t := 73) dX5_addValue_61 (mk0 rfl) rfl) (ite_cg ?_ ?_)
    · rfl
    · refine Eq.trans (q_aload_n dX5_addValue_64 (mk0 rfl) rfl rfl) ?_
      refine Eq.trans (q_getR (ci := 5) (k := 0) dX5_addValue_65 (mk0 rfl) rfl) (bind_cg2 fun x65 hx65 => ?_)
      have hx65 := fR_isR hx65
      refine Eq.trans (q_iconst (v := 1) dX5_addValue_68 (mk0 rfl) rfl) ?_
      refine Eq.trans (q_callV (as := [.int 1]) dX5_addValue_69 (mk0 rfl) rfl rfl rfl (Nat.le_of_ble_eq_true rfl) (Nat.le_of_ble_eq_true rfl)) (bind_cg fun b69 => ?_)
      refine Eq.trans (cI_bind (Or.inr rfl)) (bind_cg fun p69 => ?_)
      show RS (ZZ L xs) (d + 1) mX5_addValue 72 [some (.ref o), some (.int i1), some (.int i2), some (.int t0)] [.int p69.2] p69.1 = _
      exact q_zreturn dX5_addValue_72 (mk0 rfl) rfl
set_option maxRecDepth 20000 in
theorem bX5_addValue_73 {L : Nat} {xs : Nat → Int32} (d : Nat) (o : Nat) (i1 : Int32) (u2 : Option Value) (i3 : Int32) (ph : PH) : RS (ZZ L xs) (d + 1) mX5_addValue 73 [some (.ref o), some (.int i1), u2, some (.int i3)] [] ph = (fR ph (.ref o) 5 1).bind fun x74 => (iO ph x74 4).bind fun b77 => (cI (ZZ L xs) d mX4_isFull [.ref b77] ph).bind fun p77 => if (p77.2 : Int32) = 0 then (fR p77.1 (.ref o) 5 1).bind fun x93 => (iO p77.1 x93 4).bind fun b98 => (cV (ZZ L xs) d mX4_addValue [.ref b98, .int i1, .int i3] p77.1).bind fun p98 => (fR p98 (.ref o) 5 0).bind fun x102 => (iO p98 x102 8).bind fun b105 => (cV (ZZ L xs) d mX8_advance [.ref b105] p98).bind fun p105 => if (1 : Int32) = 0 ∨ (1 : Int32) = 1 then some (p105, some (.int 1)) else none else (fR p77.1 (.ref o) 5 0).bind fun x84 => (iO p77.1 x84 8).bind fun b88 => (cI (ZZ L xs) d mX8_refuse [.ref b88, .int 3] p77.1).bind fun p88 => if (p88.2 : Int32) = 0 ∨ (p88.2 : Int32) = 1 then some (p88.1, some (.int p88.2)) else none := by
  refine Eq.trans (q_aload_n dX5_addValue_73 (show mK mX5_addValue 73 [some (.ref o), some (.int i1), u2, some (.int i3)] = [some (.ref o), some (.int i1), none, some (.int i3)] from rfl) rfl rfl) ?_
  refine Eq.trans (q_getR (ci := 5) (k := 1) dX5_addValue_74 (mk0 rfl) rfl) (bind_cg2 fun x74 hx74 => ?_)
  have hx74 := fR_isR hx74
  refine Eq.trans (q_callV (as := []) dX5_addValue_77 (mk0 rfl) rfl rfl rfl (Nat.le_of_ble_eq_true rfl) (Nat.le_of_ble_eq_true rfl)) (bind_cg fun b77 => ?_)
  refine Eq.trans (cI_bind (Or.inr rfl)) (bind_cg fun p77 => ?_)
  show RS (ZZ L xs) (d + 1) mX5_addValue 80 [some (.ref o), some (.int i1), none, some (.int i3)] [.int p77.2] p77.1 = _
  refine Eq.trans (q_if_eq (t := 92) dX5_addValue_80 (mk0 rfl) rfl) (ite_cg ?_ ?_)
  · refine Eq.trans (q_aload_n dX5_addValue_92 (mk0 rfl) rfl rfl) ?_
    refine Eq.trans (q_getR (ci := 5) (k := 1) dX5_addValue_93 (mk0 rfl) rfl) (bind_cg2 fun x93 hx93 => ?_)
    have hx93 := fR_isR hx93
    refine Eq.trans (q_iload_n dX5_addValue_96 (mk0 rfl) rfl) ?_
    refine Eq.trans (q_iload_n dX5_addValue_97 (mk0 rfl) rfl) ?_
    refine Eq.trans (q_callV (as := [.int i1, .int i3]) dX5_addValue_98 (mk0 rfl) rfl rfl rfl (Nat.le_of_ble_eq_true rfl) (Nat.le_of_ble_eq_true rfl)) (bind_cg fun b98 => ?_)
    refine Eq.trans (cV_bind rfl) (bind_cg fun p98 => ?_)
    show RS (ZZ L xs) (d + 1) mX5_addValue 101 [some (.ref o), some (.int i1), none, some (.int i3)] [] p98 = _
    refine Eq.trans (q_aload_n dX5_addValue_101 (mk0 rfl) rfl rfl) ?_
    refine Eq.trans (q_getR (ci := 5) (k := 0) dX5_addValue_102 (mk0 rfl) rfl) (bind_cg2 fun x102 hx102 => ?_)
    have hx102 := fR_isR hx102
    refine Eq.trans (q_callV (as := []) dX5_addValue_105 (mk0 rfl) rfl rfl rfl (Nat.le_of_ble_eq_true rfl) (Nat.le_of_ble_eq_true rfl)) (bind_cg fun b105 => ?_)
    refine Eq.trans (cV_bind rfl) (bind_cg fun p105 => ?_)
    show RS (ZZ L xs) (d + 1) mX5_addValue 108 [some (.ref o), some (.int i1), none, some (.int i3)] [] p105 = _
    refine Eq.trans (q_iconst (v := 1) dX5_addValue_108 (mk0 rfl) rfl) ?_
    exact q_zreturn dX5_addValue_109 (mk0 rfl) rfl
  · refine Eq.trans (q_aload_n dX5_addValue_83 (mk0 rfl) rfl rfl) ?_
    refine Eq.trans (q_getR (ci := 5) (k := 0) dX5_addValue_84 (mk0 rfl) rfl) (bind_cg2 fun x84 hx84 => ?_)
    have hx84 := fR_isR hx84
    refine Eq.trans (q_iconst (v := 3) dX5_addValue_87 (mk0 rfl) rfl) ?_
    refine Eq.trans (q_callV (as := [.int 3]) dX5_addValue_88 (mk0 rfl) rfl rfl rfl (Nat.le_of_ble_eq_true rfl) (Nat.le_of_ble_eq_true rfl)) (bind_cg fun b88 => ?_)
    refine Eq.trans (cI_bind (Or.inr rfl)) (bind_cg fun p88 => ?_)
    show RS (ZZ L xs) (d + 1) mX5_addValue 91 [some (.ref o), some (.int i1), none, some (.int i3)] [.int p88.2] p88.1 = _
    exact q_zreturn dX5_addValue_91 (mk0 rfl) rfl
