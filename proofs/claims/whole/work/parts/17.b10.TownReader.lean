set_option maxRecDepth 20000 in
theorem bX10_init_0 {L : Nat} {xs : Nat → Int32} (d : Nat) (o : Nat) (v1 : Value) (hv1 : isR v1 = true) (ph : PH) : RS (ZZ L xs) (d + 1) mX10_init 0 [some (.ref o), some (v1)] [] ph = (fP ph (.ref o) 10 0 (v1)).bind fun h6 => some (h6, none) := by
  refine Eq.trans (q_aload_n dX10_init_0 (mk0 rfl) rfl rfl) ?_
  refine Eq.trans (q_obj dX10_init_1 (mk0 rfl) rfl (Nat.le_of_ble_eq_true rfl)) ?_
  refine Eq.trans (q_aload_n dX10_init_4 (mk0 rfl) rfl rfl) ?_
  refine Eq.trans (q_aload_n dX10_init_5 (mk0 rfl) rfl (isA_R hv1)) ?_
  refine Eq.trans (q_put (ci := 10) (k := 0) (kd := 2) dX10_init_6 (mk0 rfl) rfl (kV_2 hv1) (fun _ => ⟨rfl, rfl⟩)) (bind_cg fun h6 => ?_)
  exact q_return dX10_init_9 (mk0 rfl) rfl
set_option maxRecDepth 20000 in
theorem bX10_read_0 {L : Nat} {xs : Nat → Int32} (d : Nat) (o : Nat) (ph : PH) : RS (ZZ L xs) (d + 1) mX10_read 0 [some (.ref o), none, none, none] [] ph = (dR (.ref ph.length)).bind fun b4 => (cV (ZZ L xs) d mX9_init [.ref b4] (ph ++ [.inr (9, [.int 0, .int 0, .int 0, .int 0, .long 0, .int 0, .null, .null, .null, .null, .null])])).bind fun p4 => (fR p4 (.ref o) 10 0).bind fun x9 => (iO p4 x9 8).bind fun b12 => (cV (ZZ L xs) d mX8_open [.ref b12] p4).bind fun p12 => RS (ZZ L xs) (d + 1) mX10_read 19 [some (.ref o), some (.ref ph.length), some (.int 1), some (.int 0)] [] p12 := by
  refine Eq.trans (q_new dX10_read_0 (mk0 rfl) rfl) ?_
  refine Eq.trans (q_dup dX10_read_3 (mk0 rfl) rfl) ?_
  refine Eq.trans (q_callI (as := []) dX10_read_4 (mk0 rfl) rfl (Or.inr rfl) rfl rfl (Nat.le_of_ble_eq_true rfl) (Nat.le_of_ble_eq_true rfl)) (bind_cg fun b4 => ?_)
  refine Eq.trans (cV_bind rfl) (bind_cg fun p4 => ?_)
  show RS (ZZ L xs) (d + 1) mX10_read 7 [some (.ref o), none, none, none] [.ref ph.length] p4 = _
  refine Eq.trans (q_astore_n (lv2 := [some (.ref o), some (.ref ph.length), none, none]) dX10_read_7 (mk0 rfl) (Nat.le_of_ble_eq_true rfl) rfl rfl) ?_
  refine Eq.trans (q_aload_n dX10_read_8 (mk0 rfl) rfl rfl) ?_
  refine Eq.trans (q_getR (ci := 10) (k := 0) dX10_read_9 (mk0 rfl) rfl) (bind_cg2 fun x9 hx9 => ?_)
  have hx9 := fR_isR hx9
  refine Eq.trans (q_callV (as := []) dX10_read_12 (mk0 rfl) rfl rfl rfl (Nat.le_of_ble_eq_true rfl) (Nat.le_of_ble_eq_true rfl)) (bind_cg fun b12 => ?_)
  refine Eq.trans (cV_bind rfl) (bind_cg fun p12 => ?_)
  show RS (ZZ L xs) (d + 1) mX10_read 15 [some (.ref o), some (.ref ph.length), none, none] [] p12 = _
  refine Eq.trans (q_iconst (v := 1) dX10_read_15 (mk0 rfl) rfl) ?_
  refine Eq.trans (q_istore_n (lv2 := [some (.ref o), some (.ref ph.length), some (.int 1), none]) dX10_read_16 (mk0 rfl) (Nat.le_of_ble_eq_true rfl) rfl) ?_
  refine Eq.trans (q_iconst (v := 0) dX10_read_17 (mk0 rfl) rfl) ?_
  refine Eq.trans (q_istore_n (lv2 := [some (.ref o), some (.ref ph.length), some (.int 1), some (.int 0)]) dX10_read_18 (mk0 rfl) (Nat.le_of_ble_eq_true rfl) rfl) ?_
  rfl
set_option maxRecDepth 20000 in
theorem bX10_read_19 {L : Nat} {xs : Nat → Int32} (d : Nat) (o : Nat) (v1 : Value) (i2 : Int32) (i3 : Int32) (hv1 : isR v1 = true) (ph : PH) : RS (ZZ L xs) (d + 1) mX10_read 19 [some (.ref o), some (v1), some (.int i2), some (.int i3)] [] ph = if (i2 : Int32) = 0 then RS (ZZ L xs) (d + 1) mX10_read 60 [some (.ref o), some (v1), some (.int i2), some (.int i3)] [] ph else if (40 : Int32) < i3 then RS (ZZ L xs) (d + 1) mX10_read 60 [some (.ref o), some (v1), some (.int i2), some (.int i3)] [] ph else (iO ph (.ref o) 10).bind fun b32 => (cI (ZZ L xs) d mX10_clause [.ref b32, v1, .int i3] ph).bind fun p32 => if (p32.2 : Int32) = 0 then RS (ZZ L xs) (d + 1) mX10_read 52 [some (.ref o), some (v1), some (.int i2), some (.int i3)] [] p32.1 else (fR p32.1 (.ref o) 10 0).bind fun x39 => (iO p32.1 x39 8).bind fun b42 => (cI (ZZ L xs) d mX8_clauseFollows [.ref b42] p32.1).bind fun p42 => if (p42.2 : Int32) = 0 then RS (ZZ L xs) (d + 1) mX10_read 52 [some (.ref o), some (v1), some (.int i2), some (.int i3)] [] p42.1 else RS (ZZ L xs) (d + 1) mX10_read 53 [some (.ref o), some (v1), some (.int i2), some (.int i3)] [.int 1] p42.1 := by
  refine Eq.trans (q_iload_n dX10_read_19 (mk0 rfl) rfl) ?_
  refine Eq.trans (q_if_eq (t := 60) dX10_read_20 (mk0 rfl) rfl) (ite_cg ?_ ?_)
  · rfl
  · refine Eq.trans (q_iload_n dX10_read_23 (mk0 rfl) rfl) ?_
    refine Eq.trans (q_bipush (v := 40) dX10_read_24 (mk0 rfl) rfl) ?_
    refine Eq.trans (q_icmp_gt (t := 60) dX10_read_26 (mk0 rfl) rfl) (ite_cg ?_ ?_)
    · rfl
    · refine Eq.trans (q_aload_n dX10_read_29 (mk0 rfl) rfl rfl) ?_
      refine Eq.trans (q_aload_n dX10_read_30 (mk0 rfl) rfl (isA_R hv1)) ?_
      refine Eq.trans (q_iload_n dX10_read_31 (mk0 rfl) rfl) ?_
      refine Eq.trans (q_callV (as := [v1, .int i3]) dX10_read_32 (mk0 rfl) rfl rfl rfl (Nat.le_of_ble_eq_true rfl) (by simp [eA, ct_i, ct_l, ct_r, ct_n, ct_x, mX10_clause, (cat_R hv1)])) (bind_cg fun b32 => ?_)
      refine Eq.trans (cI_bind (Or.inr rfl)) (bind_cg fun p32 => ?_)
      show RS (ZZ L xs) (d + 1) mX10_read 35 [some (.ref o), some (v1), some (.int i2), some (.int i3)] [.int p32.2] p32.1 = _
      refine Eq.trans (q_if_eq (t := 52) dX10_read_35 (mk0 rfl) rfl) (ite_cg ?_ ?_)
      · rfl
      · refine Eq.trans (q_aload_n dX10_read_38 (mk0 rfl) rfl rfl) ?_
        refine Eq.trans (q_getR (ci := 10) (k := 0) dX10_read_39 (mk0 rfl) rfl) (bind_cg2 fun x39 hx39 => ?_)
        have hx39 := fR_isR hx39
        refine Eq.trans (q_callV (as := []) dX10_read_42 (mk0 rfl) rfl rfl rfl (Nat.le_of_ble_eq_true rfl) (Nat.le_of_ble_eq_true rfl)) (bind_cg fun b42 => ?_)
        refine Eq.trans (cI_bind (Or.inr rfl)) (bind_cg fun p42 => ?_)
        show RS (ZZ L xs) (d + 1) mX10_read 45 [some (.ref o), some (v1), some (.int i2), some (.int i3)] [.int p42.2] p42.1 = _
        refine Eq.trans (q_if_eq (t := 52) dX10_read_45 (mk0 rfl) rfl) (ite_cg ?_ ?_)
        · rfl
        · refine Eq.trans (q_iconst (v := 1) dX10_read_48 (mk0 rfl) rfl) ?_
          refine Eq.trans (q_goto (t := 53) dX10_read_49 (mk0 rfl) rfl) ?_
          rfl
set_option maxRecDepth 20000 in
theorem bX10_read_52 {L : Nat} {xs : Nat → Int32} (d : Nat) (o : Nat) (v1 : Value) (u2 : Option Value) (i3 : Int32) (hv1 : isR v1 = true) (ph : PH) : RS (ZZ L xs) (d + 1) mX10_read 52 [some (.ref o), some (v1), u2, some (.int i3)] [] ph = RS (ZZ L xs) (d + 1) mX10_read 53 [some (.ref o), some (v1), none, some (.int i3)] [.int 0] ph := by
  refine Eq.trans (q_iconst (v := 0) dX10_read_52 (show mK mX10_read 52 [some (.ref o), some (v1), u2, some (.int i3)] = [some (.ref o), some (v1), none, some (.int i3)] from rfl) rfl) ?_
  rfl
set_option maxRecDepth 20000 in
theorem bX10_read_53 {L : Nat} {xs : Nat → Int32} (d : Nat) (o : Nat) (v1 : Value) (u2 : Option Value) (i3 : Int32) (t0 : Int32) (hv1 : isR v1 = true) (ph : PH) : RS (ZZ L xs) (d + 1) mX10_read 53 [some (.ref o), some (v1), u2, some (.int i3)] [.int t0] ph = RS (ZZ L xs) (d + 1) mX10_read 19 [some (.ref o), some (v1), some (.int t0), some (.int (i3 + 1))] [] ph := by
  refine Eq.trans (q_istore_n (lv2 := [some (.ref o), some (v1), some (.int t0), some (.int i3)]) dX10_read_53 (show mK mX10_read 53 [some (.ref o), some (v1), u2, some (.int i3)] = [some (.ref o), some (v1), none, some (.int i3)] from rfl) (Nat.le_of_ble_eq_true rfl) (by simp [s1, s2, s0, (cat_R hv1)] <;> rfl)) ?_
  refine Eq.trans (q_iinc (v := 1) (lv2 := [some (.ref o), some (v1), some (.int t0), some (.int (i3 + 1))]) dX10_read_54 (mk0 rfl) rfl rfl rfl) ?_
  refine Eq.trans (q_goto (t := 19) dX10_read_57 (mk0 rfl) rfl) ?_
  rfl
set_option maxRecDepth 20000 in
theorem bX10_read_60 {L : Nat} {xs : Nat → Int32} (d : Nat) (o : Nat) (v1 : Value) (u2 : Option Value) (u3 : Option Value) (hv1 : isR v1 = true) (ph : PH) : RS (ZZ L xs) (d + 1) mX10_read 60 [some (.ref o), some (v1), u2, u3] [] ph = (fR ph (.ref o) 10 0).bind fun x61 => (fI ph x61 8 4).bind fun x64 => if ¬ (x64 : Int32) = 0 then RS (ZZ L xs) (d + 1) mX10_read 75 [some (.ref o), some (v1), none, none] [.null] ph else RS (ZZ L xs) (d + 1) mX10_read 75 [some (.ref o), some (v1), none, none] [v1] ph := by
  refine Eq.trans (q_aload_n dX10_read_60 (show mK mX10_read 60 [some (.ref o), some (v1), u2, u3] = [some (.ref o), some (v1), none, none] from rfl) rfl rfl) ?_
  refine Eq.trans (q_getR (ci := 10) (k := 0) dX10_read_61 (mk0 rfl) rfl) (bind_cg2 fun x61 hx61 => ?_)
  have hx61 := fR_isR hx61
  refine Eq.trans (q_getI (ci := 8) (k := 4) dX10_read_64 (mk0 rfl) rfl) (bind_cg fun x64 => ?_)
  refine Eq.trans (q_if_ne (t := 74) dX10_read_67 (mk0 rfl) rfl) (ite_cg ?_ ?_)
  · refine Eq.trans (q_aconst_null dX10_read_74 (mk0 rfl)) ?_
    rfl
  · refine Eq.trans (q_aload_n dX10_read_70 (mk0 rfl) rfl (isA_R hv1)) ?_
    refine Eq.trans (q_goto (t := 75) dX10_read_71 (mk0 rfl) rfl) ?_
    rfl
set_option maxRecDepth 20000 in
theorem bX10_read_75 {L : Nat} {xs : Nat → Int32} (d : Nat) (u0 : Option Value) (u1 : Option Value) (u2 : Option Value) (u3 : Option Value) (w0 : Value) (hw0 : isR w0 = true) (ph : PH) : RS (ZZ L xs) (d + 1) mX10_read 75 [u0, u1, u2, u3] [w0] ph = some (ph, some (w0)) := by
  exact q_areturn dX10_read_75 (show mK mX10_read 75 [u0, u1, u2, u3] = [none, none, none, none] from rfl) rfl (isA_R hw0)
set_option maxRecDepth 20000 in
theorem bX10_clause_0 {L : Nat} {xs : Nat → Int32} (d : Nat) (o : Nat) (v1 : Value) (i2 : Int32) (hv1 : isR v1 = true) (ph : PH) : RS (ZZ L xs) (d + 1) mX10_clause 0 [some (.ref o), some (v1), some (.int i2), none, none] [] ph = (fR ph (.ref o) 10 0).bind fun x1 => (iO ph x1 8).bind fun b6 => (cI (ZZ L xs) d mX8_wordAmong [.ref b6, .retAddr 1] ph).bind fun p6 => if ¬ (p6.2 : Int32) = (-1) then if ¬ (i2 : Int32) = 0 then RS (ZZ L xs) (d + 1) mX10_clause 33 [some (.ref o), some (v1), some (.int i2), some (.int p6.2), none] [.int 0] p6.1 else RS (ZZ L xs) (d + 1) mX10_clause 33 [some (.ref o), some (v1), some (.int i2), some (.int p6.2), none] [.int 1] p6.1 else (fR p6.1 (.ref o) 10 0).bind fun x16 => (iO p6.1 x16 8).bind fun b20 => (cI (ZZ L xs) d mX8_refuse [.ref b20, .int 0] p6.1).bind fun p20 => if (p20.2 : Int32) = 0 ∨ (p20.2 : Int32) = 1 then some (p20.1, some (.int p20.2)) else none := by
  refine Eq.trans (q_aload_n dX10_clause_0 (mk0 rfl) rfl rfl) ?_
  refine Eq.trans (q_getR (ci := 10) (k := 0) dX10_clause_1 (mk0 rfl) rfl) (bind_cg2 fun x1 hx1 => ?_)
  have hx1 := fR_isR hx1
  refine Eq.trans (q_ldcS (k := 1) dX10_clause_4 (mk0 rfl) rfl) ?_
  refine Eq.trans (q_callV (as := [.retAddr 1]) dX10_clause_6 (mk0 rfl) rfl rfl rfl (Nat.le_of_ble_eq_true rfl) (Nat.le_of_ble_eq_true rfl)) (bind_cg fun b6 => ?_)
  refine Eq.trans (cI_bind (Or.inl rfl)) (bind_cg fun p6 => ?_)
  show RS (ZZ L xs) (d + 1) mX10_clause 9 [some (.ref o), some (v1), some (.int i2), none, none] [.int p6.2] p6.1 = _
  refine Eq.trans (q_istore_n (lv2 := [some (.ref o), some (v1), some (.int i2), some (.int p6.2), none]) dX10_clause_9 (mk0 rfl) (Nat.le_of_ble_eq_true rfl) rfl) ?_
  refine Eq.trans (q_iload_n dX10_clause_10 (mk0 rfl) rfl) ?_
  refine Eq.trans (q_iconst (v := (-1)) dX10_clause_11 (mk0 rfl) rfl) ?_
  refine Eq.trans (q_icmp_ne (t := 24) dX10_clause_12 (mk0 rfl) rfl) (ite_cg ?_ ?_)
  · refine Eq.trans (q_iload_n dX10_clause_24 (mk0 rfl) rfl) ?_
    refine Eq.trans (q_if_ne (t := 32) dX10_clause_25 (mk0 rfl) rfl) (ite_cg ?_ ?_)
    · refine Eq.trans (q_iconst (v := 0) dX10_clause_32 (mk0 rfl) rfl) ?_
      rfl
    · refine Eq.trans (q_iconst (v := 1) dX10_clause_28 (mk0 rfl) rfl) ?_
      refine Eq.trans (q_goto (t := 33) dX10_clause_29 (mk0 rfl) rfl) ?_
      rfl
  · refine Eq.trans (q_aload_n dX10_clause_15 (mk0 rfl) rfl rfl) ?_
    refine Eq.trans (q_getR (ci := 10) (k := 0) dX10_clause_16 (mk0 rfl) rfl) (bind_cg2 fun x16 hx16 => ?_)
    have hx16 := fR_isR hx16
    refine Eq.trans (q_iconst (v := 0) dX10_clause_19 (mk0 rfl) rfl) ?_
    refine Eq.trans (q_callV (as := [.int 0]) dX10_clause_20 (mk0 rfl) rfl rfl rfl (Nat.le_of_ble_eq_true rfl) (Nat.le_of_ble_eq_true rfl)) (bind_cg fun b20 => ?_)
    refine Eq.trans (cI_bind (Or.inr rfl)) (bind_cg fun p20 => ?_)
    show RS (ZZ L xs) (d + 1) mX10_clause 23 [some (.ref o), some (v1), some (.int i2), some (.int p6.2), none] [.int p20.2] p20.1 = _
    exact q_zreturn dX10_clause_23 (mk0 rfl) rfl
set_option maxRecDepth 20000 in
theorem bX10_clause_33 {L : Nat} {xs : Nat → Int32} (d : Nat) (o : Nat) (v1 : Value) (i2 : Int32) (i3 : Int32) (u4 : Option Value) (t0 : Int32) (hv1 : isR v1 = true) (ph : PH) : RS (ZZ L xs) (d + 1) mX10_clause 33 [some (.ref o), some (v1), some (.int i2), some (.int i3), u4] [.int t0] ph = if ¬ (i3 : Int32) = 0 then RS (ZZ L xs) (d + 1) mX10_clause 42 [some (.ref o), some (v1), some (.int i2), some (.int i3), none] [.int 0, .int t0] ph else RS (ZZ L xs) (d + 1) mX10_clause 42 [some (.ref o), some (v1), some (.int i2), some (.int i3), none] [.int 1, .int t0] ph := by
  refine Eq.trans (q_iload_n dX10_clause_33 (show mK mX10_clause 33 [some (.ref o), some (v1), some (.int i2), some (.int i3), u4] = [some (.ref o), some (v1), some (.int i2), some (.int i3), none] from rfl) rfl) ?_
  refine Eq.trans (q_if_ne (t := 41) dX10_clause_34 (mk0 rfl) rfl) (ite_cg ?_ ?_)
  · refine Eq.trans (q_iconst (v := 0) dX10_clause_41 (mk0 rfl) rfl) ?_
    rfl
  · refine Eq.trans (q_iconst (v := 1) dX10_clause_37 (mk0 rfl) rfl) ?_
    refine Eq.trans (q_goto (t := 42) dX10_clause_38 (mk0 rfl) rfl) ?_
    rfl
set_option maxRecDepth 20000 in
theorem bX10_clause_42 {L : Nat} {xs : Nat → Int32} (d : Nat) (o : Nat) (v1 : Value) (i2 : Int32) (i3 : Int32) (u4 : Option Value) (t0 : Int32) (t1 : Int32) (hv1 : isR v1 = true) (ph : PH) : RS (ZZ L xs) (d + 1) mX10_clause 42 [some (.ref o), some (v1), some (.int i2), some (.int i3), u4] [.int t0, .int t1] ph = if ¬ (t1 : Int32) = t0 then RS (ZZ L xs) (d + 1) mX10_clause 50 [some (.ref o), some (v1), some (.int i2), some (.int i3), none] [.int 0] ph else RS (ZZ L xs) (d + 1) mX10_clause 50 [some (.ref o), some (v1), some (.int i2), some (.int i3), none] [.int 1] ph := by
  refine Eq.trans (q_icmp_ne (t := 49) dX10_clause_42 (show mK mX10_clause 42 [some (.ref o), some (v1), some (.int i2), some (.int i3), u4] = [some (.ref o), some (v1), some (.int i2), some (.int i3), none] from rfl) rfl) (ite_cg ?_ ?_)
  · refine Eq.trans (q_iconst (v := 0) dX10_clause_49 (mk0 rfl) rfl) ?_
    rfl
  · refine Eq.trans (q_iconst (v := 1) dX10_clause_45 (mk0 rfl) rfl) ?_
    refine Eq.trans (q_goto (t := 50) dX10_clause_46 (mk0 rfl) rfl) ?_
    rfl
set_option maxRecDepth 20000 in
theorem bX10_clause_50 {L : Nat} {xs : Nat → Int32} (d : Nat) (o : Nat) (v1 : Value) (i2 : Int32) (i3 : Int32) (u4 : Option Value) (t0 : Int32) (hv1 : isR v1 = true) (ph : PH) : RS (ZZ L xs) (d + 1) mX10_clause 50 [some (.ref o), some (v1), some (.int i2), some (.int i3), u4] [.int t0] ph = if (40 : Int32) ≤ i2 then RS (ZZ L xs) (d + 1) mX10_clause 71 [some (.ref o), some (v1), some (.int i2), some (.int i3), some (.int t0)] [] ph else if (t0 : Int32) = 0 then RS (ZZ L xs) (d + 1) mX10_clause 71 [some (.ref o), some (v1), some (.int i2), some (.int i3), some (.int t0)] [] ph else (cI (ZZ L xs) d mX10_isFull [v1, .int i3] ph).bind fun p65 => if (p65.2 : Int32) = 0 then (fR p65.1 (.ref o) 10 0).bind fun x81 => (iO p65.1 x81 8).bind fun b84 => (cV (ZZ L xs) d mX8_advance [.ref b84] p65.1).bind fun p84 => if (i3 : Int32) = 0 then RS (ZZ L xs) (d + 1) mX10_clause 116 [some (.ref o), some (v1), some (.int i2), some (.int i3), some (.int t0)] [] p84 else if (i3 : Int32) = 1 then RS (ZZ L xs) (d + 1) mX10_clause 122 [some (.ref o), some (v1), some (.int i2), some (.int i3), some (.int t0)] [] p84 else if (i3 : Int32) = 2 then RS (ZZ L xs) (d + 1) mX10_clause 128 [some (.ref o), some (v1), some (.int i2), some (.int i3), some (.int t0)] [] p84 else RS (ZZ L xs) (d + 1) mX10_clause 134 [some (.ref o), some (v1), some (.int i2), some (.int i3), some (.int t0)] [] p84 else RS (ZZ L xs) (d + 1) mX10_clause 71 [some (.ref o), some (v1), some (.int i2), some (.int i3), some (.int t0)] [] p65.1 := by
  refine Eq.trans (q_istore (lv2 := [some (.ref o), some (v1), some (.int i2), some (.int i3), some (.int t0)]) dX10_clause_50 (show mK mX10_clause 50 [some (.ref o), some (v1), some (.int i2), some (.int i3), u4] = [some (.ref o), some (v1), some (.int i2), some (.int i3), none] from rfl) (Nat.le_of_ble_eq_true rfl) rfl) ?_
  refine Eq.trans (q_iload_n dX10_clause_52 (mk0 rfl) rfl) ?_
  refine Eq.trans (q_bipush (v := 40) dX10_clause_53 (mk0 rfl) rfl) ?_
  refine Eq.trans (q_icmp_ge (t := 71) dX10_clause_55 (mk0 rfl) rfl) (ite_cg ?_ ?_)
  · rfl
  · refine Eq.trans (q_iload dX10_clause_58 (mk0 rfl) rfl) ?_
    refine Eq.trans (q_if_eq (t := 71) dX10_clause_60 (mk0 rfl) rfl) (ite_cg ?_ ?_)
    · rfl
    · refine Eq.trans (q_aload_n dX10_clause_63 (mk0 rfl) rfl (isA_R hv1)) ?_
      refine Eq.trans (q_iload_n dX10_clause_64 (mk0 rfl) rfl) ?_
      refine Eq.trans (q_callS (as := [v1, .int i3]) dX10_clause_65 (mk0 rfl) rfl (Or.inl rfl) rfl rfl (Nat.le_of_ble_eq_true rfl) (by simp [eA, ct_i, ct_l, ct_r, ct_n, ct_x, mX10_isFull, (cat_R hv1)])) ?_
      refine Eq.trans (cI_bind (Or.inr rfl)) (bind_cg fun p65 => ?_)
      show RS (ZZ L xs) (d + 1) mX10_clause 68 [some (.ref o), some (v1), some (.int i2), some (.int i3), some (.int t0)] [.int p65.2] p65.1 = _
      refine Eq.trans (q_if_eq (t := 80) dX10_clause_68 (mk0 rfl) rfl) (ite_cg ?_ ?_)
      · refine Eq.trans (q_aload_n dX10_clause_80 (mk0 rfl) rfl rfl) ?_
        refine Eq.trans (q_getR (ci := 10) (k := 0) dX10_clause_81 (mk0 rfl) rfl) (bind_cg2 fun x81 hx81 => ?_)
        have hx81 := fR_isR hx81
        refine Eq.trans (q_callV (as := []) dX10_clause_84 (mk0 rfl) rfl rfl rfl (Nat.le_of_ble_eq_true rfl) (Nat.le_of_ble_eq_true rfl)) (bind_cg fun b84 => ?_)
        refine Eq.trans (cV_bind rfl) (bind_cg fun p84 => ?_)
        show RS (ZZ L xs) (d + 1) mX10_clause 87 [some (.ref o), some (v1), some (.int i2), some (.int i3), some (.int t0)] [] p84 = _
        refine Eq.trans (q_iload_n dX10_clause_87 (mk0 rfl) rfl) ?_
        refine Eq.trans (q_tableswitch dX10_clause_88 (mk0 rfl)) ?_
        generalize (i3 : Int32) = y88
        by_cases hy0 : y88 = 0
        · rw [if_pos hy0, hy0]; rfl
        rw [if_neg hy0]
        by_cases hy1 : y88 = 1
        · rw [if_pos hy1, hy1]; rfl
        rw [if_neg hy1]
        by_cases hy2 : y88 = 2
        · rw [if_pos hy2, hy2]; rfl
        rw [if_neg hy2]
        have ny0 := i32_ne hy0 (n := 0) rfl
        have ny1 := i32_ne hy1 (n := 1) rfl
        have ny2 := i32_ne hy2 (n := 2) rfl
        rw [sw_out (t := 134) (by omega) rfl]
        rfl
      · rfl
set_option maxRecDepth 20000 in
theorem bX10_clause_71 {L : Nat} {xs : Nat → Int32} (d : Nat) (o : Nat) (u1 : Option Value) (u2 : Option Value) (u3 : Option Value) (u4 : Option Value) (ph : PH) : RS (ZZ L xs) (d + 1) mX10_clause 71 [some (.ref o), u1, u2, u3, u4] [] ph = (fR ph (.ref o) 10 0).bind fun x72 => (iO ph x72 8).bind fun b76 => (cI (ZZ L xs) d mX8_refuse [.ref b76, .int 4] ph).bind fun p76 => if (p76.2 : Int32) = 0 ∨ (p76.2 : Int32) = 1 then some (p76.1, some (.int p76.2)) else none := by
  refine Eq.trans (q_aload_n dX10_clause_71 (show mK mX10_clause 71 [some (.ref o), u1, u2, u3, u4] = [some (.ref o), none, none, none, none] from rfl) rfl rfl) ?_
  refine Eq.trans (q_getR (ci := 10) (k := 0) dX10_clause_72 (mk0 rfl) rfl) (bind_cg2 fun x72 hx72 => ?_)
  have hx72 := fR_isR hx72
  refine Eq.trans (q_iconst (v := 4) dX10_clause_75 (mk0 rfl) rfl) ?_
  refine Eq.trans (q_callV (as := [.int 4]) dX10_clause_76 (mk0 rfl) rfl rfl rfl (Nat.le_of_ble_eq_true rfl) (Nat.le_of_ble_eq_true rfl)) (bind_cg fun b76 => ?_)
  refine Eq.trans (cI_bind (Or.inr rfl)) (bind_cg fun p76 => ?_)
  show RS (ZZ L xs) (d + 1) mX10_clause 79 [some (.ref o), none, none, none, none] [.int p76.2] p76.1 = _
  exact q_zreturn dX10_clause_79 (mk0 rfl) rfl
set_option maxRecDepth 20000 in
theorem bX10_clause_116 {L : Nat} {xs : Nat → Int32} (d : Nat) (o : Nat) (v1 : Value) (u2 : Option Value) (u3 : Option Value) (u4 : Option Value) (hv1 : isR v1 = true) (ph : PH) : RS (ZZ L xs) (d + 1) mX10_clause 116 [some (.ref o), some (v1), u2, u3, u4] [] ph = (iO ph (.ref o) 10).bind fun b118 => (cI (ZZ L xs) d mX10_tellSize [.ref b118, v1] ph).bind fun p118 => if (p118.2 : Int32) = 0 ∨ (p118.2 : Int32) = 1 then some (p118.1, some (.int p118.2)) else none := by
  refine Eq.trans (q_aload_n dX10_clause_116 (show mK mX10_clause 116 [some (.ref o), some (v1), u2, u3, u4] = [some (.ref o), some (v1), none, none, none] from rfl) rfl rfl) ?_
  refine Eq.trans (q_aload_n dX10_clause_117 (mk0 rfl) rfl (isA_R hv1)) ?_
  refine Eq.trans (q_callV (as := [v1]) dX10_clause_118 (mk0 rfl) rfl rfl rfl (Nat.le_of_ble_eq_true rfl) (by simp [eA, ct_i, ct_l, ct_r, ct_n, ct_x, mX10_tellSize, (cat_R hv1)])) (bind_cg fun b118 => ?_)
  refine Eq.trans (cI_bind (Or.inr rfl)) (bind_cg fun p118 => ?_)
  show RS (ZZ L xs) (d + 1) mX10_clause 121 [some (.ref o), some (v1), none, none, none] [.int p118.2] p118.1 = _
  exact q_zreturn dX10_clause_121 (mk0 rfl) rfl
set_option maxRecDepth 20000 in
theorem bX10_clause_122 {L : Nat} {xs : Nat → Int32} (d : Nat) (o : Nat) (v1 : Value) (u2 : Option Value) (u3 : Option Value) (u4 : Option Value) (hv1 : isR v1 = true) (ph : PH) : RS (ZZ L xs) (d + 1) mX10_clause 122 [some (.ref o), some (v1), u2, u3, u4] [] ph = (iO ph (.ref o) 10).bind fun b124 => (cI (ZZ L xs) d mX10_tellStreet [.ref b124, v1] ph).bind fun p124 => if (p124.2 : Int32) = 0 ∨ (p124.2 : Int32) = 1 then some (p124.1, some (.int p124.2)) else none := by
  refine Eq.trans (q_aload_n dX10_clause_122 (show mK mX10_clause 122 [some (.ref o), some (v1), u2, u3, u4] = [some (.ref o), some (v1), none, none, none] from rfl) rfl rfl) ?_
  refine Eq.trans (q_aload_n dX10_clause_123 (mk0 rfl) rfl (isA_R hv1)) ?_
  refine Eq.trans (q_callV (as := [v1]) dX10_clause_124 (mk0 rfl) rfl rfl rfl (Nat.le_of_ble_eq_true rfl) (by simp [eA, ct_i, ct_l, ct_r, ct_n, ct_x, mX10_tellStreet, (cat_R hv1)])) (bind_cg fun b124 => ?_)
  refine Eq.trans (cI_bind (Or.inr rfl)) (bind_cg fun p124 => ?_)
  show RS (ZZ L xs) (d + 1) mX10_clause 127 [some (.ref o), some (v1), none, none, none] [.int p124.2] p124.1 = _
  exact q_zreturn dX10_clause_127 (mk0 rfl) rfl
set_option maxRecDepth 20000 in
theorem bX10_clause_128 {L : Nat} {xs : Nat → Int32} (d : Nat) (o : Nat) (v1 : Value) (u2 : Option Value) (u3 : Option Value) (u4 : Option Value) (hv1 : isR v1 = true) (ph : PH) : RS (ZZ L xs) (d + 1) mX10_clause 128 [some (.ref o), some (v1), u2, u3, u4] [] ph = (iO ph (.ref o) 10).bind fun b130 => (cI (ZZ L xs) d mX10_tellPerson [.ref b130, v1] ph).bind fun p130 => if (p130.2 : Int32) = 0 ∨ (p130.2 : Int32) = 1 then some (p130.1, some (.int p130.2)) else none := by
  refine Eq.trans (q_aload_n dX10_clause_128 (show mK mX10_clause 128 [some (.ref o), some (v1), u2, u3, u4] = [some (.ref o), some (v1), none, none, none] from rfl) rfl rfl) ?_
  refine Eq.trans (q_aload_n dX10_clause_129 (mk0 rfl) rfl (isA_R hv1)) ?_
  refine Eq.trans (q_callV (as := [v1]) dX10_clause_130 (mk0 rfl) rfl rfl rfl (Nat.le_of_ble_eq_true rfl) (by simp [eA, ct_i, ct_l, ct_r, ct_n, ct_x, mX10_tellPerson, (cat_R hv1)])) (bind_cg fun b130 => ?_)
  refine Eq.trans (cI_bind (Or.inr rfl)) (bind_cg fun p130 => ?_)
  show RS (ZZ L xs) (d + 1) mX10_clause 133 [some (.ref o), some (v1), none, none, none] [.int p130.2] p130.1 = _
  exact q_zreturn dX10_clause_133 (mk0 rfl) rfl
set_option maxRecDepth 20000 in
theorem bX10_clause_134 {L : Nat} {xs : Nat → Int32} (d : Nat) (o : Nat) (v1 : Value) (u2 : Option Value) (u3 : Option Value) (u4 : Option Value) (hv1 : isR v1 = true) (ph : PH) : RS (ZZ L xs) (d + 1) mX10_clause 134 [some (.ref o), some (v1), u2, u3, u4] [] ph = (iO ph (.ref o) 10).bind fun b136 => (cI (ZZ L xs) d mX10_tellStranger [.ref b136, v1] ph).bind fun p136 => if (p136.2 : Int32) = 0 ∨ (p136.2 : Int32) = 1 then some (p136.1, some (.int p136.2)) else none := by
  refine Eq.trans (q_aload_n dX10_clause_134 (show mK mX10_clause 134 [some (.ref o), some (v1), u2, u3, u4] = [some (.ref o), some (v1), none, none, none] from rfl) rfl rfl) ?_
  refine Eq.trans (q_aload_n dX10_clause_135 (mk0 rfl) rfl (isA_R hv1)) ?_
  refine Eq.trans (q_callV (as := [v1]) dX10_clause_136 (mk0 rfl) rfl rfl rfl (Nat.le_of_ble_eq_true rfl) (by simp [eA, ct_i, ct_l, ct_r, ct_n, ct_x, mX10_tellStranger, (cat_R hv1)])) (bind_cg fun b136 => ?_)
  refine Eq.trans (cI_bind (Or.inr rfl)) (bind_cg fun p136 => ?_)
  show RS (ZZ L xs) (d + 1) mX10_clause 139 [some (.ref o), some (v1), none, none, none] [.int p136.2] p136.1 = _
  exact q_zreturn dX10_clause_139 (mk0 rfl) rfl
set_option maxRecDepth 20000 in
theorem bX10_isFull_0 {L : Nat} {xs : Nat → Int32} (d : Nat) (v0 : Value) (i1 : Int32) (hv0 : isR v0 = true) (ph : PH) : RS (ZZ L xs) (d + 1) mX10_isFull 0 [some (v0), some (.int i1)] [] ph = if (i1 : Int32) = 0 then RS (ZZ L xs) (d + 1) mX10_isFull 9 [some (v0), some (.int i1)] [] ph else if ¬ (i1 : Int32) = 1 then if ¬ (i1 : Int32) = 2 then (fI ph v0 9 3).bind fun x34 => if (x34 : Int32) < 5 then RS (ZZ L xs) (d + 1) mX10_isFull 46 [some (v0), some (.int i1)] [.int 0] ph else RS (ZZ L xs) (d + 1) mX10_isFull 46 [some (v0), some (.int i1)] [.int 1] ph else (fI ph v0 9 2).bind fun x17 => if (x17 : Int32) < 6 then RS (ZZ L xs) (d + 1) mX10_isFull 46 [some (v0), some (.int i1)] [.int 0] ph else RS (ZZ L xs) (d + 1) mX10_isFull 46 [some (v0), some (.int i1)] [.int 1] ph else RS (ZZ L xs) (d + 1) mX10_isFull 9 [some (v0), some (.int i1)] [] ph := by
  refine Eq.trans (q_iload_n dX10_isFull_0 (mk0 rfl) rfl) ?_
  refine Eq.trans (q_if_eq (t := 9) dX10_isFull_1 (mk0 rfl) rfl) (ite_cg ?_ ?_)
  · rfl
  · refine Eq.trans (q_iload_n dX10_isFull_4 (mk0 rfl) rfl) ?_
    refine Eq.trans (q_iconst (v := 1) dX10_isFull_5 (mk0 rfl) rfl) ?_
    refine Eq.trans (q_icmp_ne (t := 11) dX10_isFull_6 (mk0 rfl) rfl) (ite_cg ?_ ?_)
    · refine Eq.trans (q_iload_n dX10_isFull_11 (mk0 rfl) rfl) ?_
      refine Eq.trans (q_iconst (v := 2) dX10_isFull_12 (mk0 rfl) rfl) ?_
      refine Eq.trans (q_icmp_ne (t := 33) dX10_isFull_13 (mk0 rfl) rfl) (ite_cg ?_ ?_)
      · refine Eq.trans (q_aload_n dX10_isFull_33 (mk0 rfl) rfl (isA_R hv0)) ?_
        refine Eq.trans (q_getI (ci := 9) (k := 3) dX10_isFull_34 (mk0 rfl) rfl) (bind_cg fun x34 => ?_)
        refine Eq.trans (q_iconst (v := 5) dX10_isFull_37 (mk0 rfl) rfl) ?_
        refine Eq.trans (q_icmp_lt (t := 45) dX10_isFull_38 (mk0 rfl) rfl) (ite_cg ?_ ?_)
        · refine Eq.trans (q_iconst (v := 0) dX10_isFull_45 (mk0 rfl) rfl) ?_
          rfl
        · refine Eq.trans (q_iconst (v := 1) dX10_isFull_41 (mk0 rfl) rfl) ?_
          refine Eq.trans (q_goto (t := 46) dX10_isFull_42 (mk0 rfl) rfl) ?_
          rfl
      · refine Eq.trans (q_aload_n dX10_isFull_16 (mk0 rfl) rfl (isA_R hv0)) ?_
        refine Eq.trans (q_getI (ci := 9) (k := 2) dX10_isFull_17 (mk0 rfl) rfl) (bind_cg fun x17 => ?_)
        refine Eq.trans (q_bipush (v := 6) dX10_isFull_20 (mk0 rfl) rfl) ?_
        refine Eq.trans (q_icmp_lt (t := 29) dX10_isFull_22 (mk0 rfl) rfl) (ite_cg ?_ ?_)
        · refine Eq.trans (q_iconst (v := 0) dX10_isFull_29 (mk0 rfl) rfl) ?_
          refine Eq.trans (q_goto (t := 46) dX10_isFull_30 (mk0 rfl) rfl) ?_
          rfl
        · refine Eq.trans (q_iconst (v := 1) dX10_isFull_25 (mk0 rfl) rfl) ?_
          refine Eq.trans (q_goto (t := 46) dX10_isFull_26 (mk0 rfl) rfl) ?_
          rfl
    · rfl
set_option maxRecDepth 20000 in
theorem bX10_isFull_9 {L : Nat} {xs : Nat → Int32} (d : Nat) (u0 : Option Value) (u1 : Option Value) (ph : PH) : RS (ZZ L xs) (d + 1) mX10_isFull 9 [u0, u1] [] ph = if (0 : Int32) = 0 ∨ (0 : Int32) = 1 then some (ph, some (.int 0)) else none := by
  refine Eq.trans (q_iconst (v := 0) dX10_isFull_9 (show mK mX10_isFull 9 [u0, u1] = [none, none] from rfl) rfl) ?_
  exact q_zreturn dX10_isFull_10 (mk0 rfl) rfl
set_option maxRecDepth 20000 in
theorem bX10_isFull_46 {L : Nat} {xs : Nat → Int32} (d : Nat) (u0 : Option Value) (u1 : Option Value) (t0 : Int32) (ph : PH) : RS (ZZ L xs) (d + 1) mX10_isFull 46 [u0, u1] [.int t0] ph = if (t0 : Int32) = 0 ∨ (t0 : Int32) = 1 then some (ph, some (.int t0)) else none := by
  exact q_zreturn dX10_isFull_46 (show mK mX10_isFull 46 [u0, u1] = [none, none] from rfl) rfl
set_option maxRecDepth 20000 in
theorem bX10_tellSize_0 {L : Nat} {xs : Nat → Int32} (d : Nat) (o : Nat) (v1 : Value) (hv1 : isR v1 = true) (ph : PH) : RS (ZZ L xs) (d + 1) mX10_tellSize 0 [some (.ref o), some (v1)] [] ph = (fR ph (.ref o) 10 0).bind fun x1 => (iO ph x1 8).bind fun b8 => (cI (ZZ L xs) d mX8_take [.ref b8, .int 2, .int 8, .int ((-1))] ph).bind fun p8 => if ¬ (p8.2 : Int32) = 0 then (fR p8.1 (.ref o) 10 0).bind fun x18 => (fI p8.1 x18 8 3).bind fun x21 => (fP p8.1 v1 9 0 (.int x21)).bind fun h24 => (fR h24 (.ref o) 10 0).bind fun x28 => (iO h24 x28 8).bind fun b35 => (cI (ZZ L xs) d mX8_take [.ref b35, .int 1, .int 30, .int ((-1))] h24).bind fun p35 => if ¬ (p35.2 : Int32) = 0 then (fR p35.1 (.ref o) 10 0).bind fun x45 => (fI p35.1 x45 8 3).bind fun x48 => (fP p35.1 v1 9 1 (.int x48)).bind fun h51 => if (1 : Int32) = 0 ∨ (1 : Int32) = 1 then some (h51, some (.int 1)) else none else if (0 : Int32) = 0 ∨ (0 : Int32) = 1 then some (p35.1, some (.int 0)) else none else if (0 : Int32) = 0 ∨ (0 : Int32) = 1 then some (p8.1, some (.int 0)) else none := by
  refine Eq.trans (q_aload_n dX10_tellSize_0 (mk0 rfl) rfl rfl) ?_
  refine Eq.trans (q_getR (ci := 10) (k := 0) dX10_tellSize_1 (mk0 rfl) rfl) (bind_cg2 fun x1 hx1 => ?_)
  have hx1 := fR_isR hx1
  refine Eq.trans (q_iconst (v := 2) dX10_tellSize_4 (mk0 rfl) rfl) ?_
  refine Eq.trans (q_bipush (v := 8) dX10_tellSize_5 (mk0 rfl) rfl) ?_
  refine Eq.trans (q_iconst (v := (-1)) dX10_tellSize_7 (mk0 rfl) rfl) ?_
  refine Eq.trans (q_callV (as := [.int 2, .int 8, .int ((-1))]) dX10_tellSize_8 (mk0 rfl) rfl rfl rfl (Nat.le_of_ble_eq_true rfl) (Nat.le_of_ble_eq_true rfl)) (bind_cg fun b8 => ?_)
  refine Eq.trans (cI_bind (Or.inr rfl)) (bind_cg fun p8 => ?_)
  show RS (ZZ L xs) (d + 1) mX10_tellSize 11 [some (.ref o), some (v1)] [.int p8.2] p8.1 = _
  refine Eq.trans (q_if_ne (t := 16) dX10_tellSize_11 (mk0 rfl) rfl) (ite_cg ?_ ?_)
  · refine Eq.trans (q_aload_n dX10_tellSize_16 (mk0 rfl) rfl (isA_R hv1)) ?_
    refine Eq.trans (q_aload_n dX10_tellSize_17 (mk0 rfl) rfl rfl) ?_
    refine Eq.trans (q_getR (ci := 10) (k := 0) dX10_tellSize_18 (mk0 rfl) rfl) (bind_cg2 fun x18 hx18 => ?_)
    have hx18 := fR_isR hx18
    refine Eq.trans (q_getI (ci := 8) (k := 3) dX10_tellSize_21 (mk0 rfl) rfl) (bind_cg fun x21 => ?_)
    refine Eq.trans (q_put (ci := 9) (k := 0) (kd := 0) dX10_tellSize_24 (mk0 rfl) rfl rfl (fun h => by cases h)) (bind_cg fun h24 => ?_)
    refine Eq.trans (q_aload_n dX10_tellSize_27 (mk0 rfl) rfl rfl) ?_
    refine Eq.trans (q_getR (ci := 10) (k := 0) dX10_tellSize_28 (mk0 rfl) rfl) (bind_cg2 fun x28 hx28 => ?_)
    have hx28 := fR_isR hx28
    refine Eq.trans (q_iconst (v := 1) dX10_tellSize_31 (mk0 rfl) rfl) ?_
    refine Eq.trans (q_bipush (v := 30) dX10_tellSize_32 (mk0 rfl) rfl) ?_
    refine Eq.trans (q_iconst (v := (-1)) dX10_tellSize_34 (mk0 rfl) rfl) ?_
    refine Eq.trans (q_callV (as := [.int 1, .int 30, .int ((-1))]) dX10_tellSize_35 (mk0 rfl) rfl rfl rfl (Nat.le_of_ble_eq_true rfl) (Nat.le_of_ble_eq_true rfl)) (bind_cg fun b35 => ?_)
    refine Eq.trans (cI_bind (Or.inr rfl)) (bind_cg fun p35 => ?_)
    show RS (ZZ L xs) (d + 1) mX10_tellSize 38 [some (.ref o), some (v1)] [.int p35.2] p35.1 = _
    refine Eq.trans (q_if_ne (t := 43) dX10_tellSize_38 (mk0 rfl) rfl) (ite_cg ?_ ?_)
    · refine Eq.trans (q_aload_n dX10_tellSize_43 (mk0 rfl) rfl (isA_R hv1)) ?_
      refine Eq.trans (q_aload_n dX10_tellSize_44 (mk0 rfl) rfl rfl) ?_
      refine Eq.trans (q_getR (ci := 10) (k := 0) dX10_tellSize_45 (mk0 rfl) rfl) (bind_cg2 fun x45 hx45 => ?_)
      have hx45 := fR_isR hx45
      refine Eq.trans (q_getI (ci := 8) (k := 3) dX10_tellSize_48 (mk0 rfl) rfl) (bind_cg fun x48 => ?_)
      refine Eq.trans (q_put (ci := 9) (k := 1) (kd := 0) dX10_tellSize_51 (mk0 rfl) rfl rfl (fun h => by cases h)) (bind_cg fun h51 => ?_)
      refine Eq.trans (q_iconst (v := 1) dX10_tellSize_54 (mk0 rfl) rfl) ?_
      exact q_zreturn dX10_tellSize_55 (mk0 rfl) rfl
    · refine Eq.trans (q_iconst (v := 0) dX10_tellSize_41 (mk0 rfl) rfl) ?_
      exact q_zreturn dX10_tellSize_42 (mk0 rfl) rfl
  · refine Eq.trans (q_iconst (v := 0) dX10_tellSize_14 (mk0 rfl) rfl) ?_
    exact q_zreturn dX10_tellSize_15 (mk0 rfl) rfl
set_option maxRecDepth 20000 in
theorem bX10_tellStreet_0 {L : Nat} {xs : Nat → Int32} (d : Nat) (o : Nat) (v1 : Value) (hv1 : isR v1 = true) (ph : PH) : RS (ZZ L xs) (d + 1) mX10_tellStreet 0 [some (.ref o), some (v1), none] [] ph = (fR ph (.ref o) 10 0).bind fun x1 => (fI ph v1 9 0).bind fun x6 => (iO ph x1 8).bind fun b12 => (cI (ZZ L xs) d mX8_take [.ref b12, .int 0, .int (x6 - 1), .int ((-1))] ph).bind fun p12 => if ¬ (p12.2 : Int32) = 0 then (fR p12.1 (.ref o) 10 0).bind fun x21 => (fI p12.1 x21 8 3).bind fun x24 => (fR p12.1 (.ref o) 10 0).bind fun x29 => (fI p12.1 v1 9 0).bind fun x34 => (iO p12.1 x29 8).bind fun b40 => (cI (ZZ L xs) d mX8_take [.ref b40, .int 0, .int (x34 - 1), .int x24] p12.1).bind fun p40 => if ¬ (p40.2 : Int32) = 0 then (fL p40.1 v1 9 4).bind fun x50 => (fR p40.1 (.ref o) 10 0).bind fun x55 => (fI p40.1 x55 8 3).bind fun x58 => (cJ (ZZ L xs) d mX11_street [.int x24, .int x58] p40.1).bind fun p61 => (fP p61.1 v1 9 4 (.long (x50 ||| p61.2))).bind fun h65 => if (1 : Int32) = 0 ∨ (1 : Int32) = 1 then some (h65, some (.int 1)) else none else if (0 : Int32) = 0 ∨ (0 : Int32) = 1 then some (p40.1, some (.int 0)) else none else if (0 : Int32) = 0 ∨ (0 : Int32) = 1 then some (p12.1, some (.int 0)) else none := by
  refine Eq.trans (q_aload_n dX10_tellStreet_0 (mk0 rfl) rfl rfl) ?_
  refine Eq.trans (q_getR (ci := 10) (k := 0) dX10_tellStreet_1 (mk0 rfl) rfl) (bind_cg2 fun x1 hx1 => ?_)
  have hx1 := fR_isR hx1
  refine Eq.trans (q_iconst (v := 0) dX10_tellStreet_4 (mk0 rfl) rfl) ?_
  refine Eq.trans (q_aload_n dX10_tellStreet_5 (mk0 rfl) rfl (isA_R hv1)) ?_
  refine Eq.trans (q_getI (ci := 9) (k := 0) dX10_tellStreet_6 (mk0 rfl) rfl) (bind_cg fun x6 => ?_)
  refine Eq.trans (q_iconst (v := 1) dX10_tellStreet_9 (mk0 rfl) rfl) ?_
  refine Eq.trans (q_isub dX10_tellStreet_10 (mk0 rfl)) ?_
  refine Eq.trans (q_iconst (v := (-1)) dX10_tellStreet_11 (mk0 rfl) rfl) ?_
  refine Eq.trans (q_callV (as := [.int 0, .int (x6 - 1), .int ((-1))]) dX10_tellStreet_12 (mk0 rfl) rfl rfl rfl (Nat.le_of_ble_eq_true rfl) (Nat.le_of_ble_eq_true rfl)) (bind_cg fun b12 => ?_)
  refine Eq.trans (cI_bind (Or.inr rfl)) (bind_cg fun p12 => ?_)
  show RS (ZZ L xs) (d + 1) mX10_tellStreet 15 [some (.ref o), some (v1), none] [.int p12.2] p12.1 = _
  refine Eq.trans (q_if_ne (t := 20) dX10_tellStreet_15 (mk0 rfl) rfl) (ite_cg ?_ ?_)
  · refine Eq.trans (q_aload_n dX10_tellStreet_20 (mk0 rfl) rfl rfl) ?_
    refine Eq.trans (q_getR (ci := 10) (k := 0) dX10_tellStreet_21 (mk0 rfl) rfl) (bind_cg2 fun x21 hx21 => ?_)
    have hx21 := fR_isR hx21
    refine Eq.trans (q_getI (ci := 8) (k := 3) dX10_tellStreet_24 (mk0 rfl) rfl) (bind_cg fun x24 => ?_)
    refine Eq.trans (q_istore_n (lv2 := [some (.ref o), some (v1), some (.int x24)]) dX10_tellStreet_27 (mk0 rfl) (Nat.le_of_ble_eq_true rfl) (by simp [s1, s2, s0, (cat_R hv1)] <;> rfl)) ?_
    refine Eq.trans (q_aload_n dX10_tellStreet_28 (mk0 rfl) rfl rfl) ?_
    refine Eq.trans (q_getR (ci := 10) (k := 0) dX10_tellStreet_29 (mk0 rfl) rfl) (bind_cg2 fun x29 hx29 => ?_)
    have hx29 := fR_isR hx29
    refine Eq.trans (q_iconst (v := 0) dX10_tellStreet_32 (mk0 rfl) rfl) ?_
    refine Eq.trans (q_aload_n dX10_tellStreet_33 (mk0 rfl) rfl (isA_R hv1)) ?_
    refine Eq.trans (q_getI (ci := 9) (k := 0) dX10_tellStreet_34 (mk0 rfl) rfl) (bind_cg fun x34 => ?_)
    refine Eq.trans (q_iconst (v := 1) dX10_tellStreet_37 (mk0 rfl) rfl) ?_
    refine Eq.trans (q_isub dX10_tellStreet_38 (mk0 rfl)) ?_
    refine Eq.trans (q_iload_n dX10_tellStreet_39 (mk0 rfl) rfl) ?_
    refine Eq.trans (q_callV (as := [.int 0, .int (x34 - 1), .int x24]) dX10_tellStreet_40 (mk0 rfl) rfl rfl rfl (Nat.le_of_ble_eq_true rfl) (Nat.le_of_ble_eq_true rfl)) (bind_cg fun b40 => ?_)
    refine Eq.trans (cI_bind (Or.inr rfl)) (bind_cg fun p40 => ?_)
    show RS (ZZ L xs) (d + 1) mX10_tellStreet 43 [some (.ref o), some (v1), some (.int x24)] [.int p40.2] p40.1 = _
    refine Eq.trans (q_if_ne (t := 48) dX10_tellStreet_43 (mk0 rfl) rfl) (ite_cg ?_ ?_)
    · refine Eq.trans (q_aload_n dX10_tellStreet_48 (mk0 rfl) rfl (isA_R hv1)) ?_
      refine Eq.trans (q_dup dX10_tellStreet_49 (mk0 rfl) (cat_R hv1)) ?_
      refine Eq.trans (q_getL (ci := 9) (k := 4) dX10_tellStreet_50 (mk0 rfl) rfl) (bind_cg fun x50 => ?_)
      refine Eq.trans (q_iload_n dX10_tellStreet_53 (mk0 rfl) rfl) ?_
      refine Eq.trans (q_aload_n dX10_tellStreet_54 (mk0 rfl) rfl rfl) ?_
      refine Eq.trans (q_getR (ci := 10) (k := 0) dX10_tellStreet_55 (mk0 rfl) rfl) (bind_cg2 fun x55 hx55 => ?_)
      have hx55 := fR_isR hx55
      refine Eq.trans (q_getI (ci := 8) (k := 3) dX10_tellStreet_58 (mk0 rfl) rfl) (bind_cg fun x58 => ?_)
      refine Eq.trans (q_callS (as := [.int x24, .int x58]) dX10_tellStreet_61 (mk0 rfl) rfl (Or.inl rfl) rfl rfl (by simp [catS, ct_i, ct_l, ct_r, ct_n, ct_x, (cat_R hv1)]) (Nat.le_of_ble_eq_true rfl)) ?_
      refine Eq.trans (cJ_bind rfl) (bind_cg fun p61 => ?_)
      show RS (ZZ L xs) (d + 1) mX10_tellStreet 64 [some (.ref o), some (v1), some (.int x24)] [.long p61.2, .long x50, v1] p61.1 = _
      refine Eq.trans (q_lor dX10_tellStreet_64 (mk0 rfl)) ?_
      refine Eq.trans (q_put (ci := 9) (k := 4) (kd := 1) dX10_tellStreet_65 (mk0 rfl) rfl rfl (fun h => by cases h)) (bind_cg fun h65 => ?_)
      refine Eq.trans (q_iconst (v := 1) dX10_tellStreet_68 (mk0 rfl) rfl) ?_
      exact q_zreturn dX10_tellStreet_69 (mk0 rfl) rfl
    · refine Eq.trans (q_iconst (v := 0) dX10_tellStreet_46 (mk0 rfl) rfl) ?_
      exact q_zreturn dX10_tellStreet_47 (mk0 rfl) rfl
  · refine Eq.trans (q_iconst (v := 0) dX10_tellStreet_18 (mk0 rfl) rfl) ?_
    exact q_zreturn dX10_tellStreet_19 (mk0 rfl) rfl
set_option maxRecDepth 20000 in
theorem bX10_tellPerson_0 {L : Nat} {xs : Nat → Int32} (d : Nat) (o : Nat) (v1 : Value) (hv1 : isR v1 = true) (ph : PH) : RS (ZZ L xs) (d + 1) mX10_tellPerson 0 [some (.ref o), some (v1), none] [] ph = (fI ph v1 9 2).bind fun x1 => (fR ph (.ref o) 10 0).bind fun x6 => (fI ph v1 9 0).bind fun x11 => (iO ph x6 8).bind fun b17 => (cI (ZZ L xs) d mX8_take [.ref b17, .int 0, .int (x11 - 1), .int ((-1))] ph).bind fun p17 => if ¬ (p17.2 : Int32) = 0 then (fR p17.1 v1 9 6).bind fun x26 => (fR p17.1 (.ref o) 10 0).bind fun x31 => (fI p17.1 x31 8 3).bind fun x34 => (wI p17.1 x26 x1 x34).bind fun h37 => (fR h37 (.ref o) 10 0).bind fun x39 => (iO h37 x39 8).bind fun b46 => (cI (ZZ L xs) d mX8_take [.ref b46, .int 0, .int 9, .int ((-1))] h37).bind fun p46 => if ¬ (p46.2 : Int32) = 0 then (fR p46.1 v1 9 7).bind fun x55 => (fR p46.1 (.ref o) 10 0).bind fun x60 => (fI p46.1 x60 8 3).bind fun x63 => (wI p46.1 x55 x1 x63).bind fun h66 => (fR h66 (.ref o) 10 0).bind fun x68 => (iO h66 x68 8).bind fun b74 => (cI (ZZ L xs) d mX8_take [.ref b74, .int 0, .int 1, .int ((-1))] h66).bind fun p74 => if ¬ (p74.2 : Int32) = 0 then (fI p74.1 v1 9 5).bind fun x84 => (fR p74.1 (.ref o) 10 0).bind fun x88 => (fI p74.1 x88 8 3).bind fun x91 => (fP p74.1 v1 9 5 (.int (x84 ||| (iShl x91 x1)))).bind fun h97 => (fI h97 v1 9 2).bind fun x102 => (fP h97 v1 9 2 (.int (x102 + 1))).bind fun h107 => if (1 : Int32) = 0 ∨ (1 : Int32) = 1 then some (h107, some (.int 1)) else none else if (0 : Int32) = 0 ∨ (0 : Int32) = 1 then some (p74.1, some (.int 0)) else none else if (0 : Int32) = 0 ∨ (0 : Int32) = 1 then some (p46.1, some (.int 0)) else none else if (0 : Int32) = 0 ∨ (0 : Int32) = 1 then some (p17.1, some (.int 0)) else none := by
  refine Eq.trans (q_aload_n dX10_tellPerson_0 (mk0 rfl) rfl (isA_R hv1)) ?_
  refine Eq.trans (q_getI (ci := 9) (k := 2) dX10_tellPerson_1 (mk0 rfl) rfl) (bind_cg fun x1 => ?_)
  refine Eq.trans (q_istore_n (lv2 := [some (.ref o), some (v1), some (.int x1)]) dX10_tellPerson_4 (mk0 rfl) (Nat.le_of_ble_eq_true rfl) (by simp [s1, s2, s0, (cat_R hv1)] <;> rfl)) ?_
  refine Eq.trans (q_aload_n dX10_tellPerson_5 (mk0 rfl) rfl rfl) ?_
  refine Eq.trans (q_getR (ci := 10) (k := 0) dX10_tellPerson_6 (mk0 rfl) rfl) (bind_cg2 fun x6 hx6 => ?_)
  have hx6 := fR_isR hx6
  refine Eq.trans (q_iconst (v := 0) dX10_tellPerson_9 (mk0 rfl) rfl) ?_
  refine Eq.trans (q_aload_n dX10_tellPerson_10 (mk0 rfl) rfl (isA_R hv1)) ?_
  refine Eq.trans (q_getI (ci := 9) (k := 0) dX10_tellPerson_11 (mk0 rfl) rfl) (bind_cg fun x11 => ?_)
  refine Eq.trans (q_iconst (v := 1) dX10_tellPerson_14 (mk0 rfl) rfl) ?_
  refine Eq.trans (q_isub dX10_tellPerson_15 (mk0 rfl)) ?_
  refine Eq.trans (q_iconst (v := (-1)) dX10_tellPerson_16 (mk0 rfl) rfl) ?_
  refine Eq.trans (q_callV (as := [.int 0, .int (x11 - 1), .int ((-1))]) dX10_tellPerson_17 (mk0 rfl) rfl rfl rfl (Nat.le_of_ble_eq_true rfl) (Nat.le_of_ble_eq_true rfl)) (bind_cg fun b17 => ?_)
  refine Eq.trans (cI_bind (Or.inr rfl)) (bind_cg fun p17 => ?_)
  show RS (ZZ L xs) (d + 1) mX10_tellPerson 20 [some (.ref o), some (v1), some (.int x1)] [.int p17.2] p17.1 = _
  refine Eq.trans (q_if_ne (t := 25) dX10_tellPerson_20 (mk0 rfl) rfl) (ite_cg ?_ ?_)
  · refine Eq.trans (q_aload_n dX10_tellPerson_25 (mk0 rfl) rfl (isA_R hv1)) ?_
    refine Eq.trans (q_getR (ci := 9) (k := 6) dX10_tellPerson_26 (mk0 rfl) rfl) (bind_cg2 fun x26 hx26 => ?_)
    have hx26 := fR_isR hx26
    refine Eq.trans (q_iload_n dX10_tellPerson_29 (mk0 rfl) rfl) ?_
    refine Eq.trans (q_aload_n dX10_tellPerson_30 (mk0 rfl) rfl rfl) ?_
    refine Eq.trans (q_getR (ci := 10) (k := 0) dX10_tellPerson_31 (mk0 rfl) rfl) (bind_cg2 fun x31 hx31 => ?_)
    have hx31 := fR_isR hx31
    refine Eq.trans (q_getI (ci := 8) (k := 3) dX10_tellPerson_34 (mk0 rfl) rfl) (bind_cg fun x34 => ?_)
    refine Eq.trans (q_iastore dX10_tellPerson_37 (mk0 rfl)) (bind_cg fun h37 => ?_)
    refine Eq.trans (q_aload_n dX10_tellPerson_38 (mk0 rfl) rfl rfl) ?_
    refine Eq.trans (q_getR (ci := 10) (k := 0) dX10_tellPerson_39 (mk0 rfl) rfl) (bind_cg2 fun x39 hx39 => ?_)
    have hx39 := fR_isR hx39
    refine Eq.trans (q_iconst (v := 0) dX10_tellPerson_42 (mk0 rfl) rfl) ?_
    refine Eq.trans (q_bipush (v := 9) dX10_tellPerson_43 (mk0 rfl) rfl) ?_
    refine Eq.trans (q_iconst (v := (-1)) dX10_tellPerson_45 (mk0 rfl) rfl) ?_
    refine Eq.trans (q_callV (as := [.int 0, .int 9, .int ((-1))]) dX10_tellPerson_46 (mk0 rfl) rfl rfl rfl (Nat.le_of_ble_eq_true rfl) (Nat.le_of_ble_eq_true rfl)) (bind_cg fun b46 => ?_)
    refine Eq.trans (cI_bind (Or.inr rfl)) (bind_cg fun p46 => ?_)
    show RS (ZZ L xs) (d + 1) mX10_tellPerson 49 [some (.ref o), some (v1), some (.int x1)] [.int p46.2] p46.1 = _
    refine Eq.trans (q_if_ne (t := 54) dX10_tellPerson_49 (mk0 rfl) rfl) (ite_cg ?_ ?_)
    · refine Eq.trans (q_aload_n dX10_tellPerson_54 (mk0 rfl) rfl (isA_R hv1)) ?_
      refine Eq.trans (q_getR (ci := 9) (k := 7) dX10_tellPerson_55 (mk0 rfl) rfl) (bind_cg2 fun x55 hx55 => ?_)
      have hx55 := fR_isR hx55
      refine Eq.trans (q_iload_n dX10_tellPerson_58 (mk0 rfl) rfl) ?_
      refine Eq.trans (q_aload_n dX10_tellPerson_59 (mk0 rfl) rfl rfl) ?_
      refine Eq.trans (q_getR (ci := 10) (k := 0) dX10_tellPerson_60 (mk0 rfl) rfl) (bind_cg2 fun x60 hx60 => ?_)
      have hx60 := fR_isR hx60
      refine Eq.trans (q_getI (ci := 8) (k := 3) dX10_tellPerson_63 (mk0 rfl) rfl) (bind_cg fun x63 => ?_)
      refine Eq.trans (q_iastore dX10_tellPerson_66 (mk0 rfl)) (bind_cg fun h66 => ?_)
      refine Eq.trans (q_aload_n dX10_tellPerson_67 (mk0 rfl) rfl rfl) ?_
      refine Eq.trans (q_getR (ci := 10) (k := 0) dX10_tellPerson_68 (mk0 rfl) rfl) (bind_cg2 fun x68 hx68 => ?_)
      have hx68 := fR_isR hx68
      refine Eq.trans (q_iconst (v := 0) dX10_tellPerson_71 (mk0 rfl) rfl) ?_
      refine Eq.trans (q_iconst (v := 1) dX10_tellPerson_72 (mk0 rfl) rfl) ?_
      refine Eq.trans (q_iconst (v := (-1)) dX10_tellPerson_73 (mk0 rfl) rfl) ?_
      refine Eq.trans (q_callV (as := [.int 0, .int 1, .int ((-1))]) dX10_tellPerson_74 (mk0 rfl) rfl rfl rfl (Nat.le_of_ble_eq_true rfl) (Nat.le_of_ble_eq_true rfl)) (bind_cg fun b74 => ?_)
      refine Eq.trans (cI_bind (Or.inr rfl)) (bind_cg fun p74 => ?_)
      show RS (ZZ L xs) (d + 1) mX10_tellPerson 77 [some (.ref o), some (v1), some (.int x1)] [.int p74.2] p74.1 = _
      refine Eq.trans (q_if_ne (t := 82) dX10_tellPerson_77 (mk0 rfl) rfl) (ite_cg ?_ ?_)
      · refine Eq.trans (q_aload_n dX10_tellPerson_82 (mk0 rfl) rfl (isA_R hv1)) ?_
        refine Eq.trans (q_dup dX10_tellPerson_83 (mk0 rfl) (cat_R hv1)) ?_
        refine Eq.trans (q_getI (ci := 9) (k := 5) dX10_tellPerson_84 (mk0 rfl) rfl) (bind_cg fun x84 => ?_)
        refine Eq.trans (q_aload_n dX10_tellPerson_87 (mk0 rfl) rfl rfl) ?_
        refine Eq.trans (q_getR (ci := 10) (k := 0) dX10_tellPerson_88 (mk0 rfl) rfl) (bind_cg2 fun x88 hx88 => ?_)
        have hx88 := fR_isR hx88
        refine Eq.trans (q_getI (ci := 8) (k := 3) dX10_tellPerson_91 (mk0 rfl) rfl) (bind_cg fun x91 => ?_)
        refine Eq.trans (q_iload_n dX10_tellPerson_94 (mk0 rfl) rfl) ?_
        refine Eq.trans (q_ishl dX10_tellPerson_95 (mk0 rfl)) ?_
        refine Eq.trans (q_ior dX10_tellPerson_96 (mk0 rfl)) ?_
        refine Eq.trans (q_put (ci := 9) (k := 5) (kd := 0) dX10_tellPerson_97 (mk0 rfl) rfl rfl (fun h => by cases h)) (bind_cg fun h97 => ?_)
        refine Eq.trans (q_aload_n dX10_tellPerson_100 (mk0 rfl) rfl (isA_R hv1)) ?_
        refine Eq.trans (q_dup dX10_tellPerson_101 (mk0 rfl) (cat_R hv1)) ?_
        refine Eq.trans (q_getI (ci := 9) (k := 2) dX10_tellPerson_102 (mk0 rfl) rfl) (bind_cg fun x102 => ?_)
        refine Eq.trans (q_iconst (v := 1) dX10_tellPerson_105 (mk0 rfl) rfl) ?_
        refine Eq.trans (q_iadd dX10_tellPerson_106 (mk0 rfl)) ?_
        refine Eq.trans (q_put (ci := 9) (k := 2) (kd := 0) dX10_tellPerson_107 (mk0 rfl) rfl rfl (fun h => by cases h)) (bind_cg fun h107 => ?_)
        refine Eq.trans (q_iconst (v := 1) dX10_tellPerson_110 (mk0 rfl) rfl) ?_
        exact q_zreturn dX10_tellPerson_111 (mk0 rfl) rfl
      · refine Eq.trans (q_iconst (v := 0) dX10_tellPerson_80 (mk0 rfl) rfl) ?_
        exact q_zreturn dX10_tellPerson_81 (mk0 rfl) rfl
    · refine Eq.trans (q_iconst (v := 0) dX10_tellPerson_52 (mk0 rfl) rfl) ?_
      exact q_zreturn dX10_tellPerson_53 (mk0 rfl) rfl
  · refine Eq.trans (q_iconst (v := 0) dX10_tellPerson_23 (mk0 rfl) rfl) ?_
    exact q_zreturn dX10_tellPerson_24 (mk0 rfl) rfl
set_option maxRecDepth 20000 in
theorem bX10_tellStranger_0 {L : Nat} {xs : Nat → Int32} (d : Nat) (o : Nat) (v1 : Value) (hv1 : isR v1 = true) (ph : PH) : RS (ZZ L xs) (d + 1) mX10_tellStranger 0 [some (.ref o), some (v1), none, none] [] ph = (fI ph v1 9 3).bind fun x1 => (fR ph (.ref o) 10 0).bind fun x6 => (fI ph v1 9 0).bind fun x11 => (iO ph x6 8).bind fun b17 => (cI (ZZ L xs) d mX8_take [.ref b17, .int 0, .int (x11 - 1), .int ((-1))] ph).bind fun p17 => if ¬ (p17.2 : Int32) = 0 then (fR p17.1 (.ref o) 10 0).bind fun x26 => (fI p17.1 x26 8 3).bind fun x29 => (fR p17.1 v1 9 8).bind fun x34 => (wI p17.1 x34 x1 x29).bind fun h39 => (fR h39 (.ref o) 10 0).bind fun x41 => (fI h39 v1 9 0).bind fun x46 => (iO h39 x41 8).bind fun b52 => (cI (ZZ L xs) d mX8_take [.ref b52, .int 0, .int (x46 - 1), .int x29] h39).bind fun p52 => if ¬ (p52.2 : Int32) = 0 then (fR p52.1 v1 9 9).bind fun x61 => (fR p52.1 (.ref o) 10 0).bind fun x66 => (fI p52.1 x66 8 3).bind fun x69 => (wI p52.1 x61 x1 x69).bind fun h72 => (fR h72 (.ref o) 10 0).bind fun x74 => (iO h72 x74 8).bind fun b81 => (cI (ZZ L xs) d mX8_take [.ref b81, .int 1, .int 20, .int ((-1))] h72).bind fun p81 => if ¬ (p81.2 : Int32) = 0 then (fR p81.1 v1 9 10).bind fun x90 => (fR p81.1 (.ref o) 10 0).bind fun x95 => (fI p81.1 x95 8 3).bind fun x98 => (wI p81.1 x90 x1 x98).bind fun h101 => (fI h101 v1 9 3).bind fun x104 => (fP h101 v1 9 3 (.int (x104 + 1))).bind fun h109 => if (1 : Int32) = 0 ∨ (1 : Int32) = 1 then some (h109, some (.int 1)) else none else if (0 : Int32) = 0 ∨ (0 : Int32) = 1 then some (p81.1, some (.int 0)) else none else if (0 : Int32) = 0 ∨ (0 : Int32) = 1 then some (p52.1, some (.int 0)) else none else if (0 : Int32) = 0 ∨ (0 : Int32) = 1 then some (p17.1, some (.int 0)) else none := by
  refine Eq.trans (q_aload_n dX10_tellStranger_0 (mk0 rfl) rfl (isA_R hv1)) ?_
  refine Eq.trans (q_getI (ci := 9) (k := 3) dX10_tellStranger_1 (mk0 rfl) rfl) (bind_cg fun x1 => ?_)
  refine Eq.trans (q_istore_n (lv2 := [some (.ref o), some (v1), some (.int x1), none]) dX10_tellStranger_4 (mk0 rfl) (Nat.le_of_ble_eq_true rfl) (by simp [s1, s2, s0, (cat_R hv1)] <;> rfl)) ?_
  refine Eq.trans (q_aload_n dX10_tellStranger_5 (mk0 rfl) rfl rfl) ?_
  refine Eq.trans (q_getR (ci := 10) (k := 0) dX10_tellStranger_6 (mk0 rfl) rfl) (bind_cg2 fun x6 hx6 => ?_)
  have hx6 := fR_isR hx6
  refine Eq.trans (q_iconst (v := 0) dX10_tellStranger_9 (mk0 rfl) rfl) ?_
  refine Eq.trans (q_aload_n dX10_tellStranger_10 (mk0 rfl) rfl (isA_R hv1)) ?_
  refine Eq.trans (q_getI (ci := 9) (k := 0) dX10_tellStranger_11 (mk0 rfl) rfl) (bind_cg fun x11 => ?_)
  refine Eq.trans (q_iconst (v := 1) dX10_tellStranger_14 (mk0 rfl) rfl) ?_
  refine Eq.trans (q_isub dX10_tellStranger_15 (mk0 rfl)) ?_
  refine Eq.trans (q_iconst (v := (-1)) dX10_tellStranger_16 (mk0 rfl) rfl) ?_
  refine Eq.trans (q_callV (as := [.int 0, .int (x11 - 1), .int ((-1))]) dX10_tellStranger_17 (mk0 rfl) rfl rfl rfl (Nat.le_of_ble_eq_true rfl) (Nat.le_of_ble_eq_true rfl)) (bind_cg fun b17 => ?_)
  refine Eq.trans (cI_bind (Or.inr rfl)) (bind_cg fun p17 => ?_)
  show RS (ZZ L xs) (d + 1) mX10_tellStranger 20 [some (.ref o), some (v1), some (.int x1), none] [.int p17.2] p17.1 = _
  refine Eq.trans (q_if_ne (t := 25) dX10_tellStranger_20 (mk0 rfl) rfl) (ite_cg ?_ ?_)
  · refine Eq.trans (q_aload_n dX10_tellStranger_25 (mk0 rfl) rfl rfl) ?_
    refine Eq.trans (q_getR (ci := 10) (k := 0) dX10_tellStranger_26 (mk0 rfl) rfl) (bind_cg2 fun x26 hx26 => ?_)
    have hx26 := fR_isR hx26
    refine Eq.trans (q_getI (ci := 8) (k := 3) dX10_tellStranger_29 (mk0 rfl) rfl) (bind_cg fun x29 => ?_)
    refine Eq.trans (q_istore_n (lv2 := [some (.ref o), some (v1), some (.int x1), some (.int x29)]) dX10_tellStranger_32 (mk0 rfl) (Nat.le_of_ble_eq_true rfl) rfl) ?_
    refine Eq.trans (q_aload_n dX10_tellStranger_33 (mk0 rfl) rfl (isA_R hv1)) ?_
    refine Eq.trans (q_getR (ci := 9) (k := 8) dX10_tellStranger_34 (mk0 rfl) rfl) (bind_cg2 fun x34 hx34 => ?_)
    have hx34 := fR_isR hx34
    refine Eq.trans (q_iload_n dX10_tellStranger_37 (mk0 rfl) rfl) ?_
    refine Eq.trans (q_iload_n dX10_tellStranger_38 (mk0 rfl) rfl) ?_
    refine Eq.trans (q_iastore dX10_tellStranger_39 (mk0 rfl)) (bind_cg fun h39 => ?_)
    refine Eq.trans (q_aload_n dX10_tellStranger_40 (mk0 rfl) rfl rfl) ?_
    refine Eq.trans (q_getR (ci := 10) (k := 0) dX10_tellStranger_41 (mk0 rfl) rfl) (bind_cg2 fun x41 hx41 => ?_)
    have hx41 := fR_isR hx41
    refine Eq.trans (q_iconst (v := 0) dX10_tellStranger_44 (mk0 rfl) rfl) ?_
    refine Eq.trans (q_aload_n dX10_tellStranger_45 (mk0 rfl) rfl (isA_R hv1)) ?_
    refine Eq.trans (q_getI (ci := 9) (k := 0) dX10_tellStranger_46 (mk0 rfl) rfl) (bind_cg fun x46 => ?_)
    refine Eq.trans (q_iconst (v := 1) dX10_tellStranger_49 (mk0 rfl) rfl) ?_
    refine Eq.trans (q_isub dX10_tellStranger_50 (mk0 rfl)) ?_
    refine Eq.trans (q_iload_n dX10_tellStranger_51 (mk0 rfl) rfl) ?_
    refine Eq.trans (q_callV (as := [.int 0, .int (x46 - 1), .int x29]) dX10_tellStranger_52 (mk0 rfl) rfl rfl rfl (Nat.le_of_ble_eq_true rfl) (Nat.le_of_ble_eq_true rfl)) (bind_cg fun b52 => ?_)
    refine Eq.trans (cI_bind (Or.inr rfl)) (bind_cg fun p52 => ?_)
    show RS (ZZ L xs) (d + 1) mX10_tellStranger 55 [some (.ref o), some (v1), some (.int x1), some (.int x29)] [.int p52.2] p52.1 = _
    refine Eq.trans (q_if_ne (t := 60) dX10_tellStranger_55 (mk0 rfl) rfl) (ite_cg ?_ ?_)
    · refine Eq.trans (q_aload_n dX10_tellStranger_60 (mk0 rfl) rfl (isA_R hv1)) ?_
      refine Eq.trans (q_getR (ci := 9) (k := 9) dX10_tellStranger_61 (mk0 rfl) rfl) (bind_cg2 fun x61 hx61 => ?_)
      have hx61 := fR_isR hx61
      refine Eq.trans (q_iload_n dX10_tellStranger_64 (mk0 rfl) rfl) ?_
      refine Eq.trans (q_aload_n dX10_tellStranger_65 (mk0 rfl) rfl rfl) ?_
      refine Eq.trans (q_getR (ci := 10) (k := 0) dX10_tellStranger_66 (mk0 rfl) rfl) (bind_cg2 fun x66 hx66 => ?_)
      have hx66 := fR_isR hx66
      refine Eq.trans (q_getI (ci := 8) (k := 3) dX10_tellStranger_69 (mk0 rfl) rfl) (bind_cg fun x69 => ?_)
      refine Eq.trans (q_iastore dX10_tellStranger_72 (mk0 rfl)) (bind_cg fun h72 => ?_)
      refine Eq.trans (q_aload_n dX10_tellStranger_73 (mk0 rfl) rfl rfl) ?_
      refine Eq.trans (q_getR (ci := 10) (k := 0) dX10_tellStranger_74 (mk0 rfl) rfl) (bind_cg2 fun x74 hx74 => ?_)
      have hx74 := fR_isR hx74
      refine Eq.trans (q_iconst (v := 1) dX10_tellStranger_77 (mk0 rfl) rfl) ?_
      refine Eq.trans (q_bipush (v := 20) dX10_tellStranger_78 (mk0 rfl) rfl) ?_
      refine Eq.trans (q_iconst (v := (-1)) dX10_tellStranger_80 (mk0 rfl) rfl) ?_
      refine Eq.trans (q_callV (as := [.int 1, .int 20, .int ((-1))]) dX10_tellStranger_81 (mk0 rfl) rfl rfl rfl (Nat.le_of_ble_eq_true rfl) (Nat.le_of_ble_eq_true rfl)) (bind_cg fun b81 => ?_)
      refine Eq.trans (cI_bind (Or.inr rfl)) (bind_cg fun p81 => ?_)
      show RS (ZZ L xs) (d + 1) mX10_tellStranger 84 [some (.ref o), some (v1), some (.int x1), some (.int x29)] [.int p81.2] p81.1 = _
      refine Eq.trans (q_if_ne (t := 89) dX10_tellStranger_84 (mk0 rfl) rfl) (ite_cg ?_ ?_)
      · refine Eq.trans (q_aload_n dX10_tellStranger_89 (mk0 rfl) rfl (isA_R hv1)) ?_
        refine Eq.trans (q_getR (ci := 9) (k := 10) dX10_tellStranger_90 (mk0 rfl) rfl) (bind_cg2 fun x90 hx90 => ?_)
        have hx90 := fR_isR hx90
        refine Eq.trans (q_iload_n dX10_tellStranger_93 (mk0 rfl) rfl) ?_
        refine Eq.trans (q_aload_n dX10_tellStranger_94 (mk0 rfl) rfl rfl) ?_
        refine Eq.trans (q_getR (ci := 10) (k := 0) dX10_tellStranger_95 (mk0 rfl) rfl) (bind_cg2 fun x95 hx95 => ?_)
        have hx95 := fR_isR hx95
        refine Eq.trans (q_getI (ci := 8) (k := 3) dX10_tellStranger_98 (mk0 rfl) rfl) (bind_cg fun x98 => ?_)
        refine Eq.trans (q_iastore dX10_tellStranger_101 (mk0 rfl)) (bind_cg fun h101 => ?_)
        refine Eq.trans (q_aload_n dX10_tellStranger_102 (mk0 rfl) rfl (isA_R hv1)) ?_
        refine Eq.trans (q_dup dX10_tellStranger_103 (mk0 rfl) (cat_R hv1)) ?_
        refine Eq.trans (q_getI (ci := 9) (k := 3) dX10_tellStranger_104 (mk0 rfl) rfl) (bind_cg fun x104 => ?_)
        refine Eq.trans (q_iconst (v := 1) dX10_tellStranger_107 (mk0 rfl) rfl) ?_
        refine Eq.trans (q_iadd dX10_tellStranger_108 (mk0 rfl)) ?_
        refine Eq.trans (q_put (ci := 9) (k := 3) (kd := 0) dX10_tellStranger_109 (mk0 rfl) rfl rfl (fun h => by cases h)) (bind_cg fun h109 => ?_)
        refine Eq.trans (q_iconst (v := 1) dX10_tellStranger_112 (mk0 rfl) rfl) ?_
        exact q_zreturn dX10_tellStranger_113 (mk0 rfl) rfl
      · refine Eq.trans (q_iconst (v := 0) dX10_tellStranger_87 (mk0 rfl) rfl) ?_
        exact q_zreturn dX10_tellStranger_88 (mk0 rfl) rfl
    · refine Eq.trans (q_iconst (v := 0) dX10_tellStranger_58 (mk0 rfl) rfl) ?_
      exact q_zreturn dX10_tellStranger_59 (mk0 rfl) rfl
  · refine Eq.trans (q_iconst (v := 0) dX10_tellStranger_23 (mk0 rfl) rfl) ?_
    exact q_zreturn dX10_tellStranger_24 (mk0 rfl) rfl
