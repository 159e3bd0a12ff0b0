set_option maxRecDepth 20000 in
theorem bX0_init_0 {L : Nat} {xs : Nat → Int32} (d : Nat) (o : Nat) (ph : PH) : RS (ZZ L xs) (d + 1) mX0_init 0 [some (.ref o)] [] ph = (dR (.ref ph.length)).bind fun b9 => (cV (ZZ L xs) d mX11_init [.ref b9] (ph ++ [.inr (11, [.long 0, .null])])).bind fun p9 => (fP p9 (.ref o) 0 0 (.ref ph.length)).bind fun h12 => (fP (h12 ++ [nwAr 0 5]) (.ref o) 0 1 (.ref h12.length)).bind fun h19 => (fP (h19 ++ [nwAr 0 12]) (.ref o) 0 2 (.ref h19.length)).bind fun h27 => (dR (.ref h27.length)).bind fun b35 => (cV (ZZ L xs) d mX9_init [.ref b35] (h27 ++ [.inr (9, [.int 0, .int 0, .int 0, .int 0, .long 0, .int 0, .null, .null, .null, .null, .null])])).bind fun p35 => (fP p35 (.ref o) 0 3 (.ref h27.length)).bind fun h38 => some (h38, none) := by
  refine Eq.trans (q_aload_n dX0_init_0 (mk0 rfl) rfl rfl) ?_
  refine Eq.trans (q_obj dX0_init_1 (mk0 rfl) rfl (Nat.le_of_ble_eq_true rfl)) ?_
  refine Eq.trans (q_aload_n dX0_init_4 (mk0 rfl) rfl rfl) ?_
  refine Eq.trans (q_new dX0_init_5 (mk0 rfl) rfl) ?_
  refine Eq.trans (q_dup dX0_init_8 (mk0 rfl) rfl) ?_
  refine Eq.trans (q_callI (as := []) dX0_init_9 (mk0 rfl) rfl (Or.inl rfl) rfl rfl (Nat.le_of_ble_eq_true rfl) (Nat.le_of_ble_eq_true rfl)) (bind_cg fun b9 => ?_)
  refine Eq.trans (cV_bind rfl) (bind_cg fun p9 => ?_)
  show RS (ZZ L xs) (d + 1) mX0_init 12 [some (.ref o)] [.ref ph.length, .ref o] p9 = _
  refine Eq.trans (q_put (ci := 0) (k := 0) (kd := 2) dX0_init_12 (mk0 rfl) rfl rfl (fun _ => ⟨rfl, rfl⟩)) (bind_cg fun h12 => ?_)
  refine Eq.trans (q_aload_n dX0_init_15 (mk0 rfl) rfl rfl) ?_
  refine Eq.trans (q_iconst (v := 5) dX0_init_16 (mk0 rfl) rfl) ?_
  refine Eq.trans (q_newarray (t := 0) (e := nwAr 0 5) dX0_init_17 (mk0 rfl) (Or.inl ⟨rfl, rfl⟩) ⟨by decide, by decide⟩ rfl) ?_
  refine Eq.trans (q_put (ci := 0) (k := 1) (kd := 2) dX0_init_19 (mk0 rfl) rfl rfl (fun _ => ⟨rfl, rfl⟩)) (bind_cg fun h19 => ?_)
  refine Eq.trans (q_aload_n dX0_init_22 (mk0 rfl) rfl rfl) ?_
  refine Eq.trans (q_bipush (v := 12) dX0_init_23 (mk0 rfl) rfl) ?_
  refine Eq.trans (q_newarray (t := 0) (e := nwAr 0 12) dX0_init_25 (mk0 rfl) (Or.inl ⟨rfl, rfl⟩) ⟨by decide, by decide⟩ rfl) ?_
  refine Eq.trans (q_put (ci := 0) (k := 2) (kd := 2) dX0_init_27 (mk0 rfl) rfl rfl (fun _ => ⟨rfl, rfl⟩)) (bind_cg fun h27 => ?_)
  refine Eq.trans (q_aload_n dX0_init_30 (mk0 rfl) rfl rfl) ?_
  refine Eq.trans (q_new dX0_init_31 (mk0 rfl) rfl) ?_
  refine Eq.trans (q_dup dX0_init_34 (mk0 rfl) rfl) ?_
  refine Eq.trans (q_callI (as := []) dX0_init_35 (mk0 rfl) rfl (Or.inr rfl) rfl rfl (Nat.le_of_ble_eq_true rfl) (Nat.le_of_ble_eq_true rfl)) (bind_cg fun b35 => ?_)
  refine Eq.trans (cV_bind rfl) (bind_cg fun p35 => ?_)
  show RS (ZZ L xs) (d + 1) mX0_init 38 [some (.ref o)] [.ref h27.length, .ref o] p35 = _
  refine Eq.trans (q_put (ci := 0) (k := 3) (kd := 2) dX0_init_38 (mk0 rfl) rfl rfl (fun h => by cases h)) (bind_cg fun h38 => ?_)
  exact q_return dX0_init_41 (mk0 rfl) rfl
set_option maxRecDepth 20000 in
theorem bX0_wind_0 {L : Nat} {xs : Nat → Int32} (d : Nat) (o : Nat) (v1 : Value) (v2 : Value) (i3 : Int32) (hv1 : isR v1 = true) (hv2 : isR v2 = true) (ph : PH) : RS (ZZ L xs) (d + 1) mX0_wind 0 [some (.ref o), some (v1), some (v2), some (.int i3)] [] ph = (fP ph (.ref o) 0 3 (v1)).bind fun h2 => (fP h2 (.ref o) 0 4 (v2)).bind fun h7 => (fP h7 (.ref o) 0 5 (.int i3)).bind fun h12 => some (h12, none) := by
  refine Eq.trans (q_aload_n dX0_wind_0 (mk0 rfl) rfl rfl) ?_
  refine Eq.trans (q_aload_n dX0_wind_1 (mk0 rfl) rfl (isA_R hv1)) ?_
  refine Eq.trans (q_put (ci := 0) (k := 3) (kd := 2) dX0_wind_2 (mk0 rfl) rfl (kV_2 hv1) (fun h => by cases h)) (bind_cg fun h2 => ?_)
  refine Eq.trans (q_aload_n dX0_wind_5 (mk0 rfl) rfl rfl) ?_
  refine Eq.trans (q_aload_n dX0_wind_6 (mk0 rfl) rfl (isA_R hv2)) ?_
  refine Eq.trans (q_put (ci := 0) (k := 4) (kd := 2) dX0_wind_7 (mk0 rfl) rfl (kV_2 hv2) (fun h => by cases h)) (bind_cg fun h7 => ?_)
  refine Eq.trans (q_aload_n dX0_wind_10 (mk0 rfl) rfl rfl) ?_
  refine Eq.trans (q_iload_n dX0_wind_11 (mk0 rfl) rfl) ?_
  refine Eq.trans (q_put (ci := 0) (k := 5) (kd := 0) dX0_wind_12 (mk0 rfl) rfl rfl (fun h => by cases h)) (bind_cg fun h12 => ?_)
  exact q_return dX0_wind_15 (mk0 rfl) rfl
set_option maxRecDepth 20000 in
theorem bX0_run_0 {L : Nat} {xs : Nat → Int32} (d : Nat) (o : Nat) (v1 : Value) (i2 : Int32) (hv1 : isR v1 = true) (ph : PH) : RS (ZZ L xs) (d + 1) mX0_run 0 [some (.ref o), some (v1), some (.int i2), none] [] ph = RS (ZZ L xs) (d + 1) mX0_run 2 [some (.ref o), some (v1), some (.int i2), some (.int 0)] [] ph := by
  refine Eq.trans (q_iconst (v := 0) dX0_run_0 (mk0 rfl) rfl) ?_
  refine Eq.trans (q_istore_n (lv2 := [some (.ref o), some (v1), some (.int i2), some (.int 0)]) dX0_run_1 (mk0 rfl) (Nat.le_of_ble_eq_true rfl) rfl) ?_
  rfl
set_option maxRecDepth 20000 in
theorem bX0_run_2 {L : Nat} {xs : Nat → Int32} (d : Nat) (o : Nat) (v1 : Value) (i2 : Int32) (i3 : Int32) (hv1 : isR v1 = true) (ph : PH) : RS (ZZ L xs) (d + 1) mX0_run 2 [some (.ref o), some (v1), some (.int i2), some (.int i3)] [] ph = if (i2 : Int32) ≤ i3 then some (ph, none) else (iO ph (.ref o) 0).bind fun b9 => (cI (ZZ L xs) d mX0_pass [.ref b9, v1] ph).bind fun p9 => RS (ZZ L xs) (d + 1) mX0_run 2 [some (.ref o), some (v1), some (.int i2), some (.int (i3 + 1))] [] p9.1 := by
  refine Eq.trans (q_iload_n dX0_run_2 (mk0 rfl) rfl) ?_
  refine Eq.trans (q_iload_n dX0_run_3 (mk0 rfl) rfl) ?_
  refine Eq.trans (q_icmp_ge (t := 19) dX0_run_4 (mk0 rfl) rfl) (ite_cg ?_ ?_)
  · exact q_return dX0_run_19 (mk0 rfl) rfl
  · refine Eq.trans (q_aload_n dX0_run_7 (mk0 rfl) rfl rfl) ?_
    refine Eq.trans (q_aload_n dX0_run_8 (mk0 rfl) rfl (isA_R hv1)) ?_
    refine Eq.trans (q_callV (as := [v1]) dX0_run_9 (mk0 rfl) rfl rfl rfl (Nat.le_of_ble_eq_true rfl) (by simp [eA, ct_i, ct_l, ct_r, ct_n, ct_x, mX0_pass, (cat_R hv1)])) (bind_cg fun b9 => ?_)
    refine Eq.trans (cI_bind (Or.inl rfl)) (bind_cg fun p9 => ?_)
    show RS (ZZ L xs) (d + 1) mX0_run 12 [some (.ref o), some (v1), some (.int i2), some (.int i3)] [.int p9.2] p9.1 = _
    refine Eq.trans (q_pop dX0_run_12 (mk0 rfl) rfl) ?_
    refine Eq.trans (q_iinc (v := 1) (lv2 := [some (.ref o), some (v1), some (.int i2), some (.int (i3 + 1))]) dX0_run_13 (mk0 rfl) rfl rfl rfl) ?_
    refine Eq.trans (q_goto (t := 2) dX0_run_16 (mk0 rfl) rfl) ?_
    rfl
set_option maxRecDepth 20000 in
theorem bX0_pass_0 {L : Nat} {xs : Nat → Int32} (d : Nat) (o : Nat) (v1 : Value) (hv1 : isR v1 = true) (ph : PH) : RS (ZZ L xs) (d + 1) mX0_pass 0 [some (.ref o), some (v1), none, none] [] ph = (fR ph (.ref o) 0 0).bind fun x1 => (fL ph v1 7 3).bind fun x5 => (iO ph x1 11).bind fun b8 => (cV (ZZ L xs) d mX11_follow [.ref b8, .long x5] ph).bind fun p8 => (iO p8 (.ref o) 0).bind fun b13 => (cV (ZZ L xs) d mX0_arrive [.ref b13, v1] p8).bind fun p13 => RS (ZZ L xs) (d + 1) mX0_pass 20 [some (.ref o), some (v1), some (.int 0), some (.int 0)] [] p13 := by
  refine Eq.trans (q_aload_n dX0_pass_0 (mk0 rfl) rfl rfl) ?_
  refine Eq.trans (q_getR (ci := 0) (k := 0) dX0_pass_1 (mk0 rfl) rfl) (bind_cg2 fun x1 hx1 => ?_)
  have hx1 := fR_isR hx1
  refine Eq.trans (q_aload_n dX0_pass_4 (mk0 rfl) rfl (isA_R hv1)) ?_
  refine Eq.trans (q_getL (ci := 7) (k := 3) dX0_pass_5 (mk0 rfl) rfl) (bind_cg fun x5 => ?_)
  refine Eq.trans (q_callV (as := [.long x5]) dX0_pass_8 (mk0 rfl) rfl rfl rfl (Nat.le_of_ble_eq_true rfl) (Nat.le_of_ble_eq_true rfl)) (bind_cg fun b8 => ?_)
  refine Eq.trans (cV_bind rfl) (bind_cg fun p8 => ?_)
  show RS (ZZ L xs) (d + 1) mX0_pass 11 [some (.ref o), some (v1), none, none] [] p8 = _
  refine Eq.trans (q_aload_n dX0_pass_11 (mk0 rfl) rfl rfl) ?_
  refine Eq.trans (q_aload_n dX0_pass_12 (mk0 rfl) rfl (isA_R hv1)) ?_
  refine Eq.trans (q_callV (as := [v1]) dX0_pass_13 (mk0 rfl) rfl rfl rfl (Nat.le_of_ble_eq_true rfl) (by simp [eA, ct_i, ct_l, ct_r, ct_n, ct_x, mX0_arrive, (cat_R hv1)])) (bind_cg fun b13 => ?_)
  refine Eq.trans (cV_bind rfl) (bind_cg fun p13 => ?_)
  show RS (ZZ L xs) (d + 1) mX0_pass 16 [some (.ref o), some (v1), none, none] [] p13 = _
  refine Eq.trans (q_iconst (v := 0) dX0_pass_16 (mk0 rfl) rfl) ?_
  refine Eq.trans (q_istore_n (lv2 := [some (.ref o), some (v1), some (.int 0), none]) dX0_pass_17 (mk0 rfl) (Nat.le_of_ble_eq_true rfl) (by simp [s1, s2, s0, (cat_R hv1)] <;> rfl)) ?_
  refine Eq.trans (q_iconst (v := 0) dX0_pass_18 (mk0 rfl) rfl) ?_
  refine Eq.trans (q_istore_n (lv2 := [some (.ref o), some (v1), some (.int 0), some (.int 0)]) dX0_pass_19 (mk0 rfl) (Nat.le_of_ble_eq_true rfl) rfl) ?_
  rfl
set_option maxRecDepth 20000 in
theorem bX0_pass_20 {L : Nat} {xs : Nat → Int32} (d : Nat) (o : Nat) (v1 : Value) (i2 : Int32) (i3 : Int32) (hv1 : isR v1 = true) (ph : PH) : RS (ZZ L xs) (d + 1) mX0_pass 20 [some (.ref o), some (v1), some (.int i2), some (.int i3)] [] ph = (fR ph (.ref o) 0 3).bind fun x22 => (fI ph x22 9 3).bind fun x25 => if (x25 : Int32) ≤ i3 then (iO ph (.ref o) 0).bind fun b142 => (cV (ZZ L xs) d mX0_closeTerm [.ref b142, v1] ph).bind fun p142 => (fI p142 v1 7 0).bind fun x147 => (fP p142 v1 7 0 (.int (x147 + 1))).bind fun h152 => some (h152, some (.int i2)) else (fR ph (.ref o) 0 1).bind fun x32 => (wI ph x32 i3 ((-1))).bind fun h37 => (fR h37 v1 7 9).bind fun x39 => (eI h37 x39 i3).bind fun x43 => (fR h37 (.ref o) 0 3).bind fun x45 => (fR h37 x45 9 9).bind fun x48 => (eI h37 x48 i3).bind fun x52 => if ¬ (x43 : Int32) = x52 then (fR h37 v1 7 9).bind fun x77 => (eI h37 x77 i3).bind fun x81 => if (x81 : Int32) = (-1) then RS (ZZ L xs) (d + 1) mX0_pass 134 [some (.ref o), some (v1), some (.int i2), some (.int i3)] [] h37 else (fR h37 (.ref o) 0 1).bind fun x87 => (iO h37 (.ref o) 0).bind fun b94 => (cI (ZZ L xs) d mX0_choose [.ref b94, v1, .int i3] h37).bind fun p94 => (wI p94.1 x87 i3 p94.2).bind fun h97 => (fR h97 (.ref o) 0 1).bind fun x100 => (eI h97 x100 i3).bind fun x104 => if ¬ (x104 : Int32) = (-1) then RS (ZZ L xs) (d + 1) mX0_pass 114 [some (.ref o), some (v1), some (.int i2), some (.int i3)] [.int 1, .int i2] h97 else RS (ZZ L xs) (d + 1) mX0_pass 114 [some (.ref o), some (v1), some (.int i2), some (.int i3)] [.int 0, .int i2] h97 else (fR h37 v1 7 9).bind fun x57 => (wI h37 x57 i3 ((-1))).bind fun h62 => (fI h62 v1 7 2).bind fun x65 => (fP h62 v1 7 2 (.int (x65 + 1))).bind fun h70 => RS (ZZ L xs) (d + 1) mX0_pass 134 [some (.ref o), some (v1), some (.int i2), some (.int i3)] [] h70 := by
  refine Eq.trans (q_iload_n dX0_pass_20 (mk0 rfl) rfl) ?_
  refine Eq.trans (q_aload_n dX0_pass_21 (mk0 rfl) rfl rfl) ?_
  refine Eq.trans (q_getR (ci := 0) (k := 3) dX0_pass_22 (mk0 rfl) rfl) (bind_cg2 fun x22 hx22 => ?_)
  have hx22 := fR_isR hx22
  refine Eq.trans (q_getI (ci := 9) (k := 3) dX0_pass_25 (mk0 rfl) rfl) (bind_cg fun x25 => ?_)
  refine Eq.trans (q_icmp_ge (t := 140) dX0_pass_28 (mk0 rfl) rfl) (ite_cg ?_ ?_)
  · refine Eq.trans (q_aload_n dX0_pass_140 (mk0 rfl) rfl rfl) ?_
    refine Eq.trans (q_aload_n dX0_pass_141 (mk0 rfl) rfl (isA_R hv1)) ?_
    refine Eq.trans (q_callV (as := [v1]) dX0_pass_142 (mk0 rfl) rfl rfl rfl (Nat.le_of_ble_eq_true rfl) (by simp [eA, ct_i, ct_l, ct_r, ct_n, ct_x, mX0_closeTerm, (cat_R hv1)])) (bind_cg fun b142 => ?_)
    refine Eq.trans (cV_bind rfl) (bind_cg fun p142 => ?_)
    show RS (ZZ L xs) (d + 1) mX0_pass 145 [some (.ref o), some (v1), some (.int i2), some (.int i3)] [] p142 = _
    refine Eq.trans (q_aload_n dX0_pass_145 (mk0 rfl) rfl (isA_R hv1)) ?_
    refine Eq.trans (q_dup dX0_pass_146 (mk0 rfl) (cat_R hv1)) ?_
    refine Eq.trans (q_getI (ci := 7) (k := 0) dX0_pass_147 (mk0 rfl) rfl) (bind_cg fun x147 => ?_)
    refine Eq.trans (q_iconst (v := 1) dX0_pass_150 (mk0 rfl) rfl) ?_
    refine Eq.trans (q_iadd dX0_pass_151 (mk0 rfl)) ?_
    refine Eq.trans (q_put (ci := 7) (k := 0) (kd := 0) dX0_pass_152 (mk0 rfl) rfl rfl (fun h => by cases h)) (bind_cg fun h152 => ?_)
    refine Eq.trans (q_iload_n dX0_pass_155 (mk0 rfl) rfl) ?_
    exact q_ireturn dX0_pass_156 (mk0 rfl) rfl
  · refine Eq.trans (q_aload_n dX0_pass_31 (mk0 rfl) rfl rfl) ?_
    refine Eq.trans (q_getR (ci := 0) (k := 1) dX0_pass_32 (mk0 rfl) rfl) (bind_cg2 fun x32 hx32 => ?_)
    have hx32 := fR_isR hx32
    refine Eq.trans (q_iload_n dX0_pass_35 (mk0 rfl) rfl) ?_
    refine Eq.trans (q_iconst (v := (-1)) dX0_pass_36 (mk0 rfl) rfl) ?_
    refine Eq.trans (q_iastore dX0_pass_37 (mk0 rfl)) (bind_cg fun h37 => ?_)
    refine Eq.trans (q_aload_n dX0_pass_38 (mk0 rfl) rfl (isA_R hv1)) ?_
    refine Eq.trans (q_getR (ci := 7) (k := 9) dX0_pass_39 (mk0 rfl) rfl) (bind_cg2 fun x39 hx39 => ?_)
    have hx39 := fR_isR hx39
    refine Eq.trans (q_iload_n dX0_pass_42 (mk0 rfl) rfl) ?_
    refine Eq.trans (q_iaload dX0_pass_43 (mk0 rfl) (no_ext hx39)) (bind_cg fun x43 => ?_)
    refine Eq.trans (q_aload_n dX0_pass_44 (mk0 rfl) rfl rfl) ?_
    refine Eq.trans (q_getR (ci := 0) (k := 3) dX0_pass_45 (mk0 rfl) rfl) (bind_cg2 fun x45 hx45 => ?_)
    have hx45 := fR_isR hx45
    refine Eq.trans (q_getR (ci := 9) (k := 9) dX0_pass_48 (mk0 rfl) rfl) (bind_cg2 fun x48 hx48 => ?_)
    have hx48 := fR_isR hx48
    refine Eq.trans (q_iload_n dX0_pass_51 (mk0 rfl) rfl) ?_
    refine Eq.trans (q_iaload dX0_pass_52 (mk0 rfl) (no_ext hx48)) (bind_cg fun x52 => ?_)
    refine Eq.trans (q_icmp_ne (t := 76) dX0_pass_53 (mk0 rfl) rfl) (ite_cg ?_ ?_)
    · refine Eq.trans (q_aload_n dX0_pass_76 (mk0 rfl) rfl (isA_R hv1)) ?_
      refine Eq.trans (q_getR (ci := 7) (k := 9) dX0_pass_77 (mk0 rfl) rfl) (bind_cg2 fun x77 hx77 => ?_)
      have hx77 := fR_isR hx77
      refine Eq.trans (q_iload_n dX0_pass_80 (mk0 rfl) rfl) ?_
      refine Eq.trans (q_iaload dX0_pass_81 (mk0 rfl) (no_ext hx77)) (bind_cg fun x81 => ?_)
      refine Eq.trans (q_iconst (v := (-1)) dX0_pass_82 (mk0 rfl) rfl) ?_
      refine Eq.trans (q_icmp_eq (t := 134) dX0_pass_83 (mk0 rfl) rfl) (ite_cg ?_ ?_)
      · rfl
      · refine Eq.trans (q_aload_n dX0_pass_86 (mk0 rfl) rfl rfl) ?_
        refine Eq.trans (q_getR (ci := 0) (k := 1) dX0_pass_87 (mk0 rfl) rfl) (bind_cg2 fun x87 hx87 => ?_)
        have hx87 := fR_isR hx87
        refine Eq.trans (q_iload_n dX0_pass_90 (mk0 rfl) rfl) ?_
        refine Eq.trans (q_aload_n dX0_pass_91 (mk0 rfl) rfl rfl) ?_
        refine Eq.trans (q_aload_n dX0_pass_92 (mk0 rfl) rfl (isA_R hv1)) ?_
        refine Eq.trans (q_iload_n dX0_pass_93 (mk0 rfl) rfl) ?_
        refine Eq.trans (q_callV (as := [v1, .int i3]) dX0_pass_94 (mk0 rfl) rfl rfl rfl (by simp [catS, ct_i, ct_l, ct_r, ct_n, ct_x, (cat_R hx87)]) (by simp [eA, ct_i, ct_l, ct_r, ct_n, ct_x, mX0_choose, (cat_R hv1)])) (bind_cg fun b94 => ?_)
        refine Eq.trans (cI_bind (Or.inl rfl)) (bind_cg fun p94 => ?_)
        show RS (ZZ L xs) (d + 1) mX0_pass 97 [some (.ref o), some (v1), some (.int i2), some (.int i3)] [.int p94.2, .int i3, x87] p94.1 = _
        refine Eq.trans (q_iastore dX0_pass_97 (mk0 rfl)) (bind_cg fun h97 => ?_)
        refine Eq.trans (q_iload_n dX0_pass_98 (mk0 rfl) rfl) ?_
        refine Eq.trans (q_aload_n dX0_pass_99 (mk0 rfl) rfl rfl) ?_
        refine Eq.trans (q_getR (ci := 0) (k := 1) dX0_pass_100 (mk0 rfl) rfl) (bind_cg2 fun x100 hx100 => ?_)
        have hx100 := fR_isR hx100
        refine Eq.trans (q_iload_n dX0_pass_103 (mk0 rfl) rfl) ?_
        refine Eq.trans (q_iaload dX0_pass_104 (mk0 rfl) (no_ext hx100)) (bind_cg fun x104 => ?_)
        refine Eq.trans (q_iconst (v := (-1)) dX0_pass_105 (mk0 rfl) rfl) ?_
        refine Eq.trans (q_icmp_ne (t := 113) dX0_pass_106 (mk0 rfl) rfl) (ite_cg ?_ ?_)
        · refine Eq.trans (q_iconst (v := 1) dX0_pass_113 (mk0 rfl) rfl) ?_
          rfl
        · refine Eq.trans (q_iconst (v := 0) dX0_pass_109 (mk0 rfl) rfl) ?_
          refine Eq.trans (q_goto (t := 114) dX0_pass_110 (mk0 rfl) rfl) ?_
          rfl
    · refine Eq.trans (q_aload_n dX0_pass_56 (mk0 rfl) rfl (isA_R hv1)) ?_
      refine Eq.trans (q_getR (ci := 7) (k := 9) dX0_pass_57 (mk0 rfl) rfl) (bind_cg2 fun x57 hx57 => ?_)
      have hx57 := fR_isR hx57
      refine Eq.trans (q_iload_n dX0_pass_60 (mk0 rfl) rfl) ?_
      refine Eq.trans (q_iconst (v := (-1)) dX0_pass_61 (mk0 rfl) rfl) ?_
      refine Eq.trans (q_iastore dX0_pass_62 (mk0 rfl)) (bind_cg fun h62 => ?_)
      refine Eq.trans (q_aload_n dX0_pass_63 (mk0 rfl) rfl (isA_R hv1)) ?_
      refine Eq.trans (q_dup dX0_pass_64 (mk0 rfl) (cat_R hv1)) ?_
      refine Eq.trans (q_getI (ci := 7) (k := 2) dX0_pass_65 (mk0 rfl) rfl) (bind_cg fun x65 => ?_)
      refine Eq.trans (q_iconst (v := 1) dX0_pass_68 (mk0 rfl) rfl) ?_
      refine Eq.trans (q_iadd dX0_pass_69 (mk0 rfl)) ?_
      refine Eq.trans (q_put (ci := 7) (k := 2) (kd := 0) dX0_pass_70 (mk0 rfl) rfl rfl (fun h => by cases h)) (bind_cg fun h70 => ?_)
      refine Eq.trans (q_goto (t := 134) dX0_pass_73 (mk0 rfl) rfl) ?_
      rfl
set_option maxRecDepth 20000 in
theorem bX0_pass_114 {L : Nat} {xs : Nat → Int32} (d : Nat) (o : Nat) (v1 : Value) (u2 : Option Value) (i3 : Int32) (t0 : Int32) (t1 : Int32) (hv1 : isR v1 = true) (ph : PH) : RS (ZZ L xs) (d + 1) mX0_pass 114 [some (.ref o), some (v1), u2, some (.int i3)] [.int t0, .int t1] ph = (iO ph (.ref o) 0).bind fun b119 => (cV (ZZ L xs) d mX0_countAsked [.ref b119, v1, .int i3] ph).bind fun p119 => (fR p119 v1 7 9).bind fun x123 => (iO p119 (.ref o) 0).bind fun b130 => (cI (ZZ L xs) d mX0_whereTo [.ref b130, v1, .int i3] p119).bind fun p130 => (wI p130.1 x123 i3 p130.2).bind fun h133 => RS (ZZ L xs) (d + 1) mX0_pass 134 [some (.ref o), some (v1), some (.int (t1 + t0)), some (.int i3)] [] h133 := by
  refine Eq.trans (q_iadd dX0_pass_114 (show mK mX0_pass 114 [some (.ref o), some (v1), u2, some (.int i3)] = [some (.ref o), some (v1), none, some (.int i3)] from rfl)) ?_
  refine Eq.trans (q_istore_n (lv2 := [some (.ref o), some (v1), some (.int (t1 + t0)), some (.int i3)]) dX0_pass_115 (mk0 rfl) (Nat.le_of_ble_eq_true rfl) (by simp [s1, s2, s0, (cat_R hv1)] <;> rfl)) ?_
  refine Eq.trans (q_aload_n dX0_pass_116 (mk0 rfl) rfl rfl) ?_
  refine Eq.trans (q_aload_n dX0_pass_117 (mk0 rfl) rfl (isA_R hv1)) ?_
  refine Eq.trans (q_iload_n dX0_pass_118 (mk0 rfl) rfl) ?_
  refine Eq.trans (q_callV (as := [v1, .int i3]) dX0_pass_119 (mk0 rfl) rfl rfl rfl (Nat.le_of_ble_eq_true rfl) (by simp [eA, ct_i, ct_l, ct_r, ct_n, ct_x, mX0_countAsked, (cat_R hv1)])) (bind_cg fun b119 => ?_)
  refine Eq.trans (cV_bind rfl) (bind_cg fun p119 => ?_)
  show RS (ZZ L xs) (d + 1) mX0_pass 122 [some (.ref o), some (v1), some (.int (t1 + t0)), some (.int i3)] [] p119 = _
  refine Eq.trans (q_aload_n dX0_pass_122 (mk0 rfl) rfl (isA_R hv1)) ?_
  refine Eq.trans (q_getR (ci := 7) (k := 9) dX0_pass_123 (mk0 rfl) rfl) (bind_cg2 fun x123 hx123 => ?_)
  have hx123 := fR_isR hx123
  refine Eq.trans (q_iload_n dX0_pass_126 (mk0 rfl) rfl) ?_
  refine Eq.trans (q_aload_n dX0_pass_127 (mk0 rfl) rfl rfl) ?_
  refine Eq.trans (q_aload_n dX0_pass_128 (mk0 rfl) rfl (isA_R hv1)) ?_
  refine Eq.trans (q_iload_n dX0_pass_129 (mk0 rfl) rfl) ?_
  refine Eq.trans (q_callV (as := [v1, .int i3]) dX0_pass_130 (mk0 rfl) rfl rfl rfl (by simp [catS, ct_i, ct_l, ct_r, ct_n, ct_x, (cat_R hx123)]) (by simp [eA, ct_i, ct_l, ct_r, ct_n, ct_x, mX0_whereTo, (cat_R hv1)])) (bind_cg fun b130 => ?_)
  refine Eq.trans (cI_bind (Or.inl rfl)) (bind_cg fun p130 => ?_)
  show RS (ZZ L xs) (d + 1) mX0_pass 133 [some (.ref o), some (v1), some (.int (t1 + t0)), some (.int i3)] [.int p130.2, .int i3, x123] p130.1 = _
  refine Eq.trans (q_iastore dX0_pass_133 (mk0 rfl)) (bind_cg fun h133 => ?_)
  rfl
set_option maxRecDepth 20000 in
theorem bX0_pass_134 {L : Nat} {xs : Nat → Int32} (d : Nat) (o : Nat) (v1 : Value) (i2 : Int32) (i3 : Int32) (hv1 : isR v1 = true) (ph : PH) : RS (ZZ L xs) (d + 1) mX0_pass 134 [some (.ref o), some (v1), some (.int i2), some (.int i3)] [] ph = RS (ZZ L xs) (d + 1) mX0_pass 20 [some (.ref o), some (v1), some (.int i2), some (.int (i3 + 1))] [] ph := by
  refine Eq.trans (q_iinc (v := 1) (lv2 := [some (.ref o), some (v1), some (.int i2), some (.int (i3 + 1))]) dX0_pass_134 (mk0 rfl) rfl rfl rfl) ?_
  refine Eq.trans (q_goto (t := 20) dX0_pass_137 (mk0 rfl) rfl) ?_
  rfl
set_option maxRecDepth 20000 in
theorem bX0_arrive_0 {L : Nat} {xs : Nat → Int32} (d : Nat) (o : Nat) (v1 : Value) (hv1 : isR v1 = true) (ph : PH) : RS (ZZ L xs) (d + 1) mX0_arrive 0 [some (.ref o), some (v1), none, none] [] ph = RS (ZZ L xs) (d + 1) mX0_arrive 2 [some (.ref o), some (v1), some (.int 0), none] [] ph := by
  refine Eq.trans (q_iconst (v := 0) dX0_arrive_0 (mk0 rfl) rfl) ?_
  refine Eq.trans (q_istore_n (lv2 := [some (.ref o), some (v1), some (.int 0), none]) dX0_arrive_1 (mk0 rfl) (Nat.le_of_ble_eq_true rfl) (by simp [s1, s2, s0, (cat_R hv1)] <;> rfl)) ?_
  rfl
set_option maxRecDepth 20000 in
theorem bX0_arrive_2 {L : Nat} {xs : Nat → Int32} (d : Nat) (o : Nat) (v1 : Value) (i2 : Int32) (u3 : Option Value) (hv1 : isR v1 = true) (ph : PH) : RS (ZZ L xs) (d + 1) mX0_arrive 2 [some (.ref o), some (v1), some (.int i2), u3] [] ph = (fR ph (.ref o) 0 3).bind fun x4 => (fI ph x4 9 3).bind fun x7 => if (x7 : Int32) ≤ i2 then some (ph, none) else (fR ph (.ref o) 0 3).bind fun x14 => (fR ph x14 9 10).bind fun x17 => (eI ph x17 i2).bind fun x21 => (fR ph v1 7 9).bind fun x24 => (eI ph x24 i2).bind fun x28 => if ¬ (x28 : Int32) = (-1) then RS (ZZ L xs) (d + 1) mX0_arrive 61 [some (.ref o), some (v1), some (.int i2), some (.int x21)] [] ph else if (x21 : Int32) ≤ 0 then RS (ZZ L xs) (d + 1) mX0_arrive 61 [some (.ref o), some (v1), some (.int i2), some (.int x21)] [] ph else (fI ph v1 7 0).bind fun x38 => if (x21 : Int32) = 0 then none else if ¬ (iRem x38 x21 : Int32) = 0 then RS (ZZ L xs) (d + 1) mX0_arrive 61 [some (.ref o), some (v1), some (.int i2), some (.int x21)] [] ph else (fR ph v1 7 9).bind fun x47 => (fR ph (.ref o) 0 3).bind fun x52 => (fR ph x52 9 8).bind fun x55 => (eI ph x55 i2).bind fun x59 => (wI ph x47 i2 x59).bind fun h60 => RS (ZZ L xs) (d + 1) mX0_arrive 61 [some (.ref o), some (v1), some (.int i2), some (.int x21)] [] h60 := by
  refine Eq.trans (q_iload_n dX0_arrive_2 (show mK mX0_arrive 2 [some (.ref o), some (v1), some (.int i2), u3] = [some (.ref o), some (v1), some (.int i2), none] from rfl) rfl) ?_
  refine Eq.trans (q_aload_n dX0_arrive_3 (mk0 rfl) rfl rfl) ?_
  refine Eq.trans (q_getR (ci := 0) (k := 3) dX0_arrive_4 (mk0 rfl) rfl) (bind_cg2 fun x4 hx4 => ?_)
  have hx4 := fR_isR hx4
  refine Eq.trans (q_getI (ci := 9) (k := 3) dX0_arrive_7 (mk0 rfl) rfl) (bind_cg fun x7 => ?_)
  refine Eq.trans (q_icmp_ge (t := 67) dX0_arrive_10 (mk0 rfl) rfl) (ite_cg ?_ ?_)
  · exact q_return dX0_arrive_67 (mk0 rfl) rfl
  · refine Eq.trans (q_aload_n dX0_arrive_13 (mk0 rfl) rfl rfl) ?_
    refine Eq.trans (q_getR (ci := 0) (k := 3) dX0_arrive_14 (mk0 rfl) rfl) (bind_cg2 fun x14 hx14 => ?_)
    have hx14 := fR_isR hx14
    refine Eq.trans (q_getR (ci := 9) (k := 10) dX0_arrive_17 (mk0 rfl) rfl) (bind_cg2 fun x17 hx17 => ?_)
    have hx17 := fR_isR hx17
    refine Eq.trans (q_iload_n dX0_arrive_20 (mk0 rfl) rfl) ?_
    refine Eq.trans (q_iaload dX0_arrive_21 (mk0 rfl) (no_ext hx17)) (bind_cg fun x21 => ?_)
    refine Eq.trans (q_istore_n (lv2 := [some (.ref o), some (v1), some (.int i2), some (.int x21)]) dX0_arrive_22 (mk0 rfl) (Nat.le_of_ble_eq_true rfl) rfl) ?_
    refine Eq.trans (q_aload_n dX0_arrive_23 (mk0 rfl) rfl (isA_R hv1)) ?_
    refine Eq.trans (q_getR (ci := 7) (k := 9) dX0_arrive_24 (mk0 rfl) rfl) (bind_cg2 fun x24 hx24 => ?_)
    have hx24 := fR_isR hx24
    refine Eq.trans (q_iload_n dX0_arrive_27 (mk0 rfl) rfl) ?_
    refine Eq.trans (q_iaload dX0_arrive_28 (mk0 rfl) (no_ext hx24)) (bind_cg fun x28 => ?_)
    refine Eq.trans (q_iconst (v := (-1)) dX0_arrive_29 (mk0 rfl) rfl) ?_
    refine Eq.trans (q_icmp_ne (t := 61) dX0_arrive_30 (mk0 rfl) rfl) (ite_cg ?_ ?_)
    · rfl
    · refine Eq.trans (q_iload_n dX0_arrive_33 (mk0 rfl) rfl) ?_
      refine Eq.trans (q_if_le (t := 61) dX0_arrive_34 (mk0 rfl) rfl) (ite_cg ?_ ?_)
      · rfl
      · refine Eq.trans (q_aload_n dX0_arrive_37 (mk0 rfl) rfl (isA_R hv1)) ?_
        refine Eq.trans (q_getI (ci := 7) (k := 0) dX0_arrive_38 (mk0 rfl) rfl) (bind_cg fun x38 => ?_)
        refine Eq.trans (q_iload_n dX0_arrive_41 (mk0 rfl) rfl) ?_
        refine Eq.trans (q_irem dX0_arrive_42 (mk0 rfl)) (ite_cg rfl ?_)
        refine Eq.trans (q_if_ne (t := 61) dX0_arrive_43 (mk0 rfl) rfl) (ite_cg ?_ ?_)
        · rfl
        · refine Eq.trans (q_aload_n dX0_arrive_46 (mk0 rfl) rfl (isA_R hv1)) ?_
          refine Eq.trans (q_getR (ci := 7) (k := 9) dX0_arrive_47 (mk0 rfl) rfl) (bind_cg2 fun x47 hx47 => ?_)
          have hx47 := fR_isR hx47
          refine Eq.trans (q_iload_n dX0_arrive_50 (mk0 rfl) rfl) ?_
          refine Eq.trans (q_aload_n dX0_arrive_51 (mk0 rfl) rfl rfl) ?_
          refine Eq.trans (q_getR (ci := 0) (k := 3) dX0_arrive_52 (mk0 rfl) rfl) (bind_cg2 fun x52 hx52 => ?_)
          have hx52 := fR_isR hx52
          refine Eq.trans (q_getR (ci := 9) (k := 8) dX0_arrive_55 (mk0 rfl) rfl) (bind_cg2 fun x55 hx55 => ?_)
          have hx55 := fR_isR hx55
          refine Eq.trans (q_iload_n dX0_arrive_58 (mk0 rfl) rfl) ?_
          refine Eq.trans (q_iaload dX0_arrive_59 (mk0 rfl) (no_ext hx55)) (bind_cg fun x59 => ?_)
          refine Eq.trans (q_iastore dX0_arrive_60 (mk0 rfl)) (bind_cg fun h60 => ?_)
          rfl
set_option maxRecDepth 20000 in
theorem bX0_arrive_61 {L : Nat} {xs : Nat → Int32} (d : Nat) (o : Nat) (v1 : Value) (i2 : Int32) (u3 : Option Value) (hv1 : isR v1 = true) (ph : PH) : RS (ZZ L xs) (d + 1) mX0_arrive 61 [some (.ref o), some (v1), some (.int i2), u3] [] ph = RS (ZZ L xs) (d + 1) mX0_arrive 2 [some (.ref o), some (v1), some (.int (i2 + 1)), none] [] ph := by
  refine Eq.trans (q_iinc (v := 1) (lv2 := [some (.ref o), some (v1), some (.int (i2 + 1)), none]) dX0_arrive_61 (show mK mX0_arrive 61 [some (.ref o), some (v1), some (.int i2), u3] = [some (.ref o), some (v1), some (.int i2), none] from rfl) rfl rfl (by simp [s1, s2, s0, (cat_R hv1)] <;> rfl)) ?_
  refine Eq.trans (q_goto (t := 2) dX0_arrive_64 (mk0 rfl) rfl) ?_
  rfl
set_option maxRecDepth 20000 in
theorem bX0_choose_0 {L : Nat} {xs : Nat → Int32} (d : Nat) (o : Nat) (v1 : Value) (i2 : Int32) (hv1 : isR v1 = true) (ph : PH) : RS (ZZ L xs) (d + 1) mX0_choose 0 [some (.ref o), some (v1), some (.int i2), none, none, none, none, none, none] [] ph = (fR ph (.ref o) 0 4).bind fun x3 => (isN x3).bind fun z6 => if z6 = true then RS (ZZ L xs) (d + 1) mX0_choose 16 [some (.ref o), some (v1), some (.int i2), some (.int ((-1))), none, none, none, none, none] [.long ((-1))] ph else RS (ZZ L xs) (d + 1) mX0_choose 16 [some (.ref o), some (v1), some (.int i2), some (.int ((-1))), none, none, none, none, none] [.long 0] ph := by
  refine Eq.trans (q_iconst (v := (-1)) dX0_choose_0 (mk0 rfl) rfl) ?_
  refine Eq.trans (q_istore_n (lv2 := [some (.ref o), some (v1), some (.int i2), some (.int ((-1))), none, none, none, none, none]) dX0_choose_1 (mk0 rfl) (Nat.le_of_ble_eq_true rfl) rfl) ?_
  refine Eq.trans (q_aload_n dX0_choose_2 (mk0 rfl) rfl rfl) ?_
  refine Eq.trans (q_getR (ci := 0) (k := 4) dX0_choose_3 (mk0 rfl) rfl) (bind_cg2 fun x3 hx3 => ?_)
  have hx3 := fR_isR hx3
  refine Eq.trans (q_ifnonnull (t := 15) dX0_choose_6 (mk0 rfl) rfl) (bind_cg fun z6 => ite_cg ?_ ?_)
  · refine Eq.trans (q_ldc2 (v := (-1)) dX0_choose_9 (mk0 rfl) rfl) ?_
    refine Eq.trans (q_goto (t := 16) dX0_choose_12 (mk0 rfl) rfl) ?_
    rfl
  · refine Eq.trans (q_lconst (v := 0) dX0_choose_15 (mk0 rfl) rfl) ?_
    rfl
set_option maxRecDepth 20000 in
theorem bX0_choose_16 {L : Nat} {xs : Nat → Int32} (d : Nat) (o : Nat) (v1 : Value) (i2 : Int32) (i3 : Int32) (u4 : Option Value) (u5 : Option Value) (u6 : Option Value) (u7 : Option Value) (u8 : Option Value) (t0 : Int64) (hv1 : isR v1 = true) (ph : PH) : RS (ZZ L xs) (d + 1) mX0_choose 16 [some (.ref o), some (v1), some (.int i2), some (.int i3), u4, u5, u6, u7, u8] [.long t0] ph = (fR ph (.ref o) 0 4).bind fun x19 => (isN x19).bind fun z22 => if z22 = true then RS (ZZ L xs) (d + 1) mX0_choose 31 [some (.ref o), some (v1), some (.int i2), some (.int i3), some (.long t0), none, none, none, none] [] ph else (iO ph (.ref o) 0).bind fun b28 => (cV (ZZ L xs) d mX0_tellOfStranger [.ref b28, v1, .int i2] ph).bind fun p28 => RS (ZZ L xs) (d + 1) mX0_choose 31 [some (.ref o), some (v1), some (.int i2), some (.int i3), some (.long t0), none, none, none, none] [] p28 := by
  refine Eq.trans (q_lstore (lv2 := [some (.ref o), some (v1), some (.int i2), some (.int i3), some (.long t0), none, none, none, none]) dX0_choose_16 (show mK mX0_choose 16 [some (.ref o), some (v1), some (.int i2), some (.int i3), u4, u5, u6, u7, u8] = [some (.ref o), some (v1), some (.int i2), some (.int i3), none, none, none, none, none] from rfl) (Nat.le_of_ble_eq_true rfl) rfl) ?_
  refine Eq.trans (q_aload_n dX0_choose_18 (mk0 rfl) rfl rfl) ?_
  refine Eq.trans (q_getR (ci := 0) (k := 4) dX0_choose_19 (mk0 rfl) rfl) (bind_cg2 fun x19 hx19 => ?_)
  have hx19 := fR_isR hx19
  refine Eq.trans (q_ifnull (t := 31) dX0_choose_22 (mk0 rfl) rfl) (bind_cg fun z22 => ite_cg ?_ ?_)
  · rfl
  · refine Eq.trans (q_aload_n dX0_choose_25 (mk0 rfl) rfl rfl) ?_
    refine Eq.trans (q_aload_n dX0_choose_26 (mk0 rfl) rfl (isA_R hv1)) ?_
    refine Eq.trans (q_iload_n dX0_choose_27 (mk0 rfl) rfl) ?_
    refine Eq.trans (q_callV (as := [v1, .int i2]) dX0_choose_28 (mk0 rfl) rfl rfl rfl (Nat.le_of_ble_eq_true rfl) (by simp [eA, ct_i, ct_l, ct_r, ct_n, ct_x, mX0_tellOfStranger, (cat_R hv1)])) (bind_cg fun b28 => ?_)
    refine Eq.trans (cV_bind rfl) (bind_cg fun p28 => ?_)
    show RS (ZZ L xs) (d + 1) mX0_choose 31 [some (.ref o), some (v1), some (.int i2), some (.int i3), some (.long t0), none, none, none, none] [] p28 = _
    rfl
set_option maxRecDepth 20000 in
theorem bX0_choose_31 {L : Nat} {xs : Nat → Int32} (d : Nat) (o : Nat) (v1 : Value) (i2 : Int32) (i3 : Int32) (l4 : Int64) (u6 : Option Value) (u7 : Option Value) (u8 : Option Value) (hv1 : isR v1 = true) (ph : PH) : RS (ZZ L xs) (d + 1) mX0_choose 31 [some (.ref o), some (v1), some (.int i2), some (.int i3), some (.long l4), none, u6, u7, u8] [] ph = RS (ZZ L xs) (d + 1) mX0_choose 34 [some (.ref o), some (v1), some (.int i2), some (.int i3), some (.long l4), none, some (.int 0), none, none] [] ph := by
  refine Eq.trans (q_iconst (v := 0) dX0_choose_31 (show mK mX0_choose 31 [some (.ref o), some (v1), some (.int i2), some (.int i3), some (.long l4), none, u6, u7, u8] = [some (.ref o), some (v1), some (.int i2), some (.int i3), some (.long l4), none, none, none, none] from rfl) rfl) ?_
  refine Eq.trans (q_istore (lv2 := [some (.ref o), some (v1), some (.int i2), some (.int i3), some (.long l4), none, some (.int 0), none, none]) dX0_choose_32 (mk0 rfl) (Nat.le_of_ble_eq_true rfl) rfl) ?_
  rfl
set_option maxRecDepth 20000 in
theorem bX0_choose_34 {L : Nat} {xs : Nat → Int32} (d : Nat) (o : Nat) (v1 : Value) (i2 : Int32) (i3 : Int32) (l4 : Int64) (i6 : Int32) (u7 : Option Value) (u8 : Option Value) (hv1 : isR v1 = true) (ph : PH) : RS (ZZ L xs) (d + 1) mX0_choose 34 [some (.ref o), some (v1), some (.int i2), some (.int i3), some (.long l4), none, some (.int i6), u7, u8] [] ph = (fR ph (.ref o) 0 3).bind fun x37 => (fI ph x37 9 2).bind fun x40 => if (x40 : Int32) ≤ i6 then some (ph, some (.int i3)) else (fR ph v1 7 4).bind fun x47 => (eI ph x47 i6).bind fun x52 => (fR ph v1 7 9).bind fun x54 => (eI ph x54 i2).bind fun x58 => if ¬ (x52 : Int32) = x58 then RS (ZZ L xs) (d + 1) mX0_choose 115 [some (.ref o), some (v1), some (.int i2), some (.int i3), some (.long l4), none, some (.int i6), none, none] [] ph else (fR ph v1 7 5).bind fun x63 => (eI ph x63 i6).bind fun x68 => (fR ph (.ref o) 0 4).bind fun x73 => (isN x73).bind fun z76 => if z76 = true then RS (ZZ L xs) (d + 1) mX0_choose 100 [some (.ref o), some (v1), some (.int i2), some (.int i3), some (.long l4), none, some (.int i6), some (.long ((x68 : Int32).toInt64)), none] [] ph else (iO ph (.ref o) 0).bind fun b84 => (cV (ZZ L xs) d mX0_tellOfPerson [.ref b84, v1, .int i2, .int i6] ph).bind fun p84 => (fR p84 (.ref o) 0 4).bind fun x88 => (fR p84 (.ref o) 0 2).bind fun x92 => (iO p84 x88 4).bind fun b95 => (cJ (ZZ L xs) d mX4_worth [.ref b95, x92] p84).bind fun p95 => RS (ZZ L xs) (d + 1) mX0_choose 100 [some (.ref o), some (v1), some (.int i2), some (.int i3), some (.long l4), none, some (.int i6), some (.long p95.2), none] [] p95.1 := by
  refine Eq.trans (q_iload dX0_choose_34 (show mK mX0_choose 34 [some (.ref o), some (v1), some (.int i2), some (.int i3), some (.long l4), none, some (.int i6), u7, u8] = [some (.ref o), some (v1), some (.int i2), some (.int i3), some (.long l4), none, some (.int i6), none, none] from rfl) rfl) ?_
  refine Eq.trans (q_aload_n dX0_choose_36 (mk0 rfl) rfl rfl) ?_
  refine Eq.trans (q_getR (ci := 0) (k := 3) dX0_choose_37 (mk0 rfl) rfl) (bind_cg2 fun x37 hx37 => ?_)
  have hx37 := fR_isR hx37
  refine Eq.trans (q_getI (ci := 9) (k := 2) dX0_choose_40 (mk0 rfl) rfl) (bind_cg fun x40 => ?_)
  refine Eq.trans (q_icmp_ge (t := 121) dX0_choose_43 (mk0 rfl) rfl) (ite_cg ?_ ?_)
  · refine Eq.trans (q_iload_n dX0_choose_121 (mk0 rfl) rfl) ?_
    exact q_ireturn dX0_choose_122 (mk0 rfl) rfl
  · refine Eq.trans (q_aload_n dX0_choose_46 (mk0 rfl) rfl (isA_R hv1)) ?_
    refine Eq.trans (q_getR (ci := 7) (k := 4) dX0_choose_47 (mk0 rfl) rfl) (bind_cg2 fun x47 hx47 => ?_)
    have hx47 := fR_isR hx47
    refine Eq.trans (q_iload dX0_choose_50 (mk0 rfl) rfl) ?_
    refine Eq.trans (q_iaload dX0_choose_52 (mk0 rfl) (no_ext hx47)) (bind_cg fun x52 => ?_)
    refine Eq.trans (q_aload_n dX0_choose_53 (mk0 rfl) rfl (isA_R hv1)) ?_
    refine Eq.trans (q_getR (ci := 7) (k := 9) dX0_choose_54 (mk0 rfl) rfl) (bind_cg2 fun x54 hx54 => ?_)
    have hx54 := fR_isR hx54
    refine Eq.trans (q_iload_n dX0_choose_57 (mk0 rfl) rfl) ?_
    refine Eq.trans (q_iaload dX0_choose_58 (mk0 rfl) (no_ext hx54)) (bind_cg fun x58 => ?_)
    refine Eq.trans (q_icmp_ne (t := 115) dX0_choose_59 (mk0 rfl) rfl) (ite_cg ?_ ?_)
    · rfl
    · refine Eq.trans (q_aload_n dX0_choose_62 (mk0 rfl) rfl (isA_R hv1)) ?_
      refine Eq.trans (q_getR (ci := 7) (k := 5) dX0_choose_63 (mk0 rfl) rfl) (bind_cg2 fun x63 hx63 => ?_)
      have hx63 := fR_isR hx63
      refine Eq.trans (q_iload dX0_choose_66 (mk0 rfl) rfl) ?_
      refine Eq.trans (q_iaload dX0_choose_68 (mk0 rfl) (no_ext hx63)) (bind_cg fun x68 => ?_)
      refine Eq.trans (q_i2l dX0_choose_69 (mk0 rfl)) ?_
      refine Eq.trans (q_lstore (lv2 := [some (.ref o), some (v1), some (.int i2), some (.int i3), some (.long l4), none, some (.int i6), some (.long ((x68 : Int32).toInt64)), none]) dX0_choose_70 (mk0 rfl) (Nat.le_of_ble_eq_true rfl) rfl) ?_
      refine Eq.trans (q_aload_n dX0_choose_72 (mk0 rfl) rfl rfl) ?_
      refine Eq.trans (q_getR (ci := 0) (k := 4) dX0_choose_73 (mk0 rfl) rfl) (bind_cg2 fun x73 hx73 => ?_)
      have hx73 := fR_isR hx73
      refine Eq.trans (q_ifnull (t := 100) dX0_choose_76 (mk0 rfl) rfl) (bind_cg fun z76 => ite_cg ?_ ?_)
      · rfl
      · refine Eq.trans (q_aload_n dX0_choose_79 (mk0 rfl) rfl rfl) ?_
        refine Eq.trans (q_aload_n dX0_choose_80 (mk0 rfl) rfl (isA_R hv1)) ?_
        refine Eq.trans (q_iload_n dX0_choose_81 (mk0 rfl) rfl) ?_
        refine Eq.trans (q_iload dX0_choose_82 (mk0 rfl) rfl) ?_
        refine Eq.trans (q_callV (as := [v1, .int i2, .int i6]) dX0_choose_84 (mk0 rfl) rfl rfl rfl (Nat.le_of_ble_eq_true rfl) (by simp [eA, ct_i, ct_l, ct_r, ct_n, ct_x, mX0_tellOfPerson, (cat_R hv1)])) (bind_cg fun b84 => ?_)
        refine Eq.trans (cV_bind rfl) (bind_cg fun p84 => ?_)
        show RS (ZZ L xs) (d + 1) mX0_choose 87 [some (.ref o), some (v1), some (.int i2), some (.int i3), some (.long l4), none, some (.int i6), some (.long ((x68 : Int32).toInt64)), none] [] p84 = _
        refine Eq.trans (q_aload_n dX0_choose_87 (mk0 rfl) rfl rfl) ?_
        refine Eq.trans (q_getR (ci := 0) (k := 4) dX0_choose_88 (mk0 rfl) rfl) (bind_cg2 fun x88 hx88 => ?_)
        have hx88 := fR_isR hx88
        refine Eq.trans (q_aload_n dX0_choose_91 (mk0 rfl) rfl rfl) ?_
        refine Eq.trans (q_getR (ci := 0) (k := 2) dX0_choose_92 (mk0 rfl) rfl) (bind_cg2 fun x92 hx92 => ?_)
        have hx92 := fR_isR hx92
        refine Eq.trans (q_callV (as := [x92]) dX0_choose_95 (mk0 rfl) rfl rfl rfl (Nat.le_of_ble_eq_true rfl) (by simp [eA, ct_i, ct_l, ct_r, ct_n, ct_x, mX4_worth, (cat_R hx92)])) (bind_cg fun b95 => ?_)
        refine Eq.trans (cJ_bind rfl) (bind_cg fun p95 => ?_)
        show RS (ZZ L xs) (d + 1) mX0_choose 98 [some (.ref o), some (v1), some (.int i2), some (.int i3), some (.long l4), none, some (.int i6), some (.long ((x68 : Int32).toInt64)), none] [.long p95.2] p95.1 = _
        refine Eq.trans (q_lstore (lv2 := [some (.ref o), some (v1), some (.int i2), some (.int i3), some (.long l4), none, some (.int i6), some (.long p95.2), none]) dX0_choose_98 (mk0 rfl) (Nat.le_of_ble_eq_true rfl) rfl) ?_
        rfl
set_option maxRecDepth 20000 in
theorem bX0_choose_100 {L : Nat} {xs : Nat → Int32} (d : Nat) (o : Nat) (v1 : Value) (i2 : Int32) (i3 : Int32) (l4 : Int64) (i6 : Int32) (l7 : Int64) (hv1 : isR v1 = true) (ph : PH) : RS (ZZ L xs) (d + 1) mX0_choose 100 [some (.ref o), some (v1), some (.int i2), some (.int i3), some (.long l4), none, some (.int i6), some (.long l7), none] [] ph = if (lg_cmp l7 l4 : Int32) ≤ 0 then RS (ZZ L xs) (d + 1) mX0_choose 115 [some (.ref o), some (v1), some (.int i2), some (.int i3), some (.long l4), none, some (.int i6), some (.long l7), none] [] ph else RS (ZZ L xs) (d + 1) mX0_choose 115 [some (.ref o), some (v1), some (.int i2), some (.int i6), some (.long l7), none, some (.int i6), some (.long l7), none] [] ph := by
  refine Eq.trans (q_lload dX0_choose_100 (mk0 rfl) rfl) ?_
  refine Eq.trans (q_lload dX0_choose_102 (mk0 rfl) rfl) ?_
  refine Eq.trans (q_lcmp dX0_choose_104 (mk0 rfl)) ?_
  refine Eq.trans (q_if_le (t := 115) dX0_choose_105 (mk0 rfl) rfl) (ite_cg ?_ ?_)
  · rfl
  · refine Eq.trans (q_lload dX0_choose_108 (mk0 rfl) rfl) ?_
    refine Eq.trans (q_lstore (lv2 := [some (.ref o), some (v1), some (.int i2), some (.int i3), some (.long l7), none, some (.int i6), some (.long l7), none]) dX0_choose_110 (mk0 rfl) (Nat.le_of_ble_eq_true rfl) rfl) ?_
    refine Eq.trans (q_iload dX0_choose_112 (mk0 rfl) rfl) ?_
    refine Eq.trans (q_istore_n (lv2 := [some (.ref o), some (v1), some (.int i2), some (.int i6), some (.long l7), none, some (.int i6), some (.long l7), none]) dX0_choose_114 (mk0 rfl) (Nat.le_of_ble_eq_true rfl) rfl) ?_
    rfl
set_option maxRecDepth 20000 in
theorem bX0_choose_115 {L : Nat} {xs : Nat → Int32} (d : Nat) (o : Nat) (v1 : Value) (i2 : Int32) (i3 : Int32) (l4 : Int64) (i6 : Int32) (u7 : Option Value) (u8 : Option Value) (hv1 : isR v1 = true) (ph : PH) : RS (ZZ L xs) (d + 1) mX0_choose 115 [some (.ref o), some (v1), some (.int i2), some (.int i3), some (.long l4), none, some (.int i6), u7, u8] [] ph = RS (ZZ L xs) (d + 1) mX0_choose 34 [some (.ref o), some (v1), some (.int i2), some (.int i3), some (.long l4), none, some (.int (i6 + 1)), none, none] [] ph := by
  refine Eq.trans (q_iinc (v := 1) (lv2 := [some (.ref o), some (v1), some (.int i2), some (.int i3), some (.long l4), none, some (.int (i6 + 1)), none, none]) dX0_choose_115 (show mK mX0_choose 115 [some (.ref o), some (v1), some (.int i2), some (.int i3), some (.long l4), none, some (.int i6), u7, u8] = [some (.ref o), some (v1), some (.int i2), some (.int i3), some (.long l4), none, some (.int i6), none, none] from rfl) rfl rfl rfl) ?_
  refine Eq.trans (q_goto (t := 34) dX0_choose_118 (mk0 rfl) rfl) ?_
  rfl
set_option maxRecDepth 20000 in
theorem bX0_tellOfStranger_0 {L : Nat} {xs : Nat → Int32} (d : Nat) (o : Nat) (v1 : Value) (i2 : Int32) (hv1 : isR v1 = true) (ph : PH) : RS (ZZ L xs) (d + 1) mX0_tellOfStranger 0 [some (.ref o), some (v1), some (.int i2), none, none] [] ph = RS (ZZ L xs) (d + 1) mX0_tellOfStranger 5 [some (.ref o), some (v1), some (.int i2), some (.int 0), some (.int 0)] [] ph := by
  refine Eq.trans (q_iconst (v := 0) dX0_tellOfStranger_0 (mk0 rfl) rfl) ?_
  refine Eq.trans (q_istore_n (lv2 := [some (.ref o), some (v1), some (.int i2), some (.int 0), none]) dX0_tellOfStranger_1 (mk0 rfl) (Nat.le_of_ble_eq_true rfl) rfl) ?_
  refine Eq.trans (q_iconst (v := 0) dX0_tellOfStranger_2 (mk0 rfl) rfl) ?_
  refine Eq.trans (q_istore (lv2 := [some (.ref o), some (v1), some (.int i2), some (.int 0), some (.int 0)]) dX0_tellOfStranger_3 (mk0 rfl) (Nat.le_of_ble_eq_true rfl) rfl) ?_
  rfl
set_option maxRecDepth 20000 in
theorem bX0_tellOfStranger_5 {L : Nat} {xs : Nat → Int32} (d : Nat) (o : Nat) (v1 : Value) (i2 : Int32) (i3 : Int32) (i4 : Int32) (hv1 : isR v1 = true) (ph : PH) : RS (ZZ L xs) (d + 1) mX0_tellOfStranger 5 [some (.ref o), some (v1), some (.int i2), some (.int i3), some (.int i4)] [] ph = (fR ph (.ref o) 0 3).bind fun x8 => (fI ph x8 9 2).bind fun x11 => if (x11 : Int32) ≤ i4 then (fR ph (.ref o) 0 2).bind fun x48 => (wI ph x48 0 i2).bind fun h53 => (fR h53 (.ref o) 0 2).bind fun x55 => (wI h53 x55 5 (i3 - 1)).bind fun h62 => (fR h62 (.ref o) 0 2).bind fun x64 => (fR h62 v1 7 9).bind fun x70 => (eI h62 x70 i2).bind fun x74 => (wI h62 x64 6 x74).bind fun h75 => (fR h75 (.ref o) 0 2).bind fun x77 => (fR h75 (.ref o) 0 0).bind fun x83 => (fR h75 v1 7 9).bind fun x87 => (eI h75 x87 i2).bind fun x91 => (fR h75 (.ref o) 0 3).bind fun x93 => (fR h75 x93 9 9).bind fun x96 => (eI h75 x96 i2).bind fun x100 => (iO h75 x83 11).bind fun b101 => (cI (ZZ L xs) d mX11_far [.ref b101, .int x91, .int x100] h75).bind fun p101 => (wI p101.1 x77 7 p101.2).bind fun h104 => (fR h104 (.ref o) 0 2).bind fun x106 => (fR h104 (.ref o) 0 3).bind fun x112 => (fI h104 x112 9 1).bind fun x115 => if (x115 : Int32) ≤ 0 then RS (ZZ L xs) (d + 1) mX0_tellOfStranger 137 [some (.ref o), some (v1), some (.int i2), some (.int i3), some (.int i4)] [.int 0, .int 9, x106] h104 else (fI h104 v1 7 0).bind fun x122 => (fR h104 (.ref o) 0 3).bind fun x126 => (fI h104 x126 9 1).bind fun x129 => if (x129 : Int32) = 0 then none else RS (ZZ L xs) (d + 1) mX0_tellOfStranger 137 [some (.ref o), some (v1), some (.int i2), some (.int i3), some (.int i4)] [.int (iRem x122 x129), .int 9, x106] h104 else (fR ph v1 7 4).bind fun x19 => (eI ph x19 i4).bind fun x24 => (fR ph v1 7 9).bind fun x26 => (eI ph x26 i2).bind fun x30 => if ¬ (x24 : Int32) = x30 then RS (ZZ L xs) (d + 1) mX0_tellOfStranger 39 [some (.ref o), some (v1), some (.int i2), some (.int i3), some (.int i4)] [.int 0, .int i3] ph else RS (ZZ L xs) (d + 1) mX0_tellOfStranger 39 [some (.ref o), some (v1), some (.int i2), some (.int i3), some (.int i4)] [.int 1, .int i3] ph := by
  refine Eq.trans (q_iload dX0_tellOfStranger_5 (mk0 rfl) rfl) ?_
  refine Eq.trans (q_aload_n dX0_tellOfStranger_7 (mk0 rfl) rfl rfl) ?_
  refine Eq.trans (q_getR (ci := 0) (k := 3) dX0_tellOfStranger_8 (mk0 rfl) rfl) (bind_cg2 fun x8 hx8 => ?_)
  have hx8 := fR_isR hx8
  refine Eq.trans (q_getI (ci := 9) (k := 2) dX0_tellOfStranger_11 (mk0 rfl) rfl) (bind_cg fun x11 => ?_)
  refine Eq.trans (q_icmp_ge (t := 47) dX0_tellOfStranger_14 (mk0 rfl) rfl) (ite_cg ?_ ?_)
  · refine Eq.trans (q_aload_n dX0_tellOfStranger_47 (mk0 rfl) rfl rfl) ?_
    refine Eq.trans (q_getR (ci := 0) (k := 2) dX0_tellOfStranger_48 (mk0 rfl) rfl) (bind_cg2 fun x48 hx48 => ?_)
    have hx48 := fR_isR hx48
    refine Eq.trans (q_iconst (v := 0) dX0_tellOfStranger_51 (mk0 rfl) rfl) ?_
    refine Eq.trans (q_iload_n dX0_tellOfStranger_52 (mk0 rfl) rfl) ?_
    refine Eq.trans (q_iastore dX0_tellOfStranger_53 (mk0 rfl)) (bind_cg fun h53 => ?_)
    refine Eq.trans (q_aload_n dX0_tellOfStranger_54 (mk0 rfl) rfl rfl) ?_
    refine Eq.trans (q_getR (ci := 0) (k := 2) dX0_tellOfStranger_55 (mk0 rfl) rfl) (bind_cg2 fun x55 hx55 => ?_)
    have hx55 := fR_isR hx55
    refine Eq.trans (q_iconst (v := 5) dX0_tellOfStranger_58 (mk0 rfl) rfl) ?_
    refine Eq.trans (q_iload_n dX0_tellOfStranger_59 (mk0 rfl) rfl) ?_
    refine Eq.trans (q_iconst (v := 1) dX0_tellOfStranger_60 (mk0 rfl) rfl) ?_
    refine Eq.trans (q_isub dX0_tellOfStranger_61 (mk0 rfl)) ?_
    refine Eq.trans (q_iastore dX0_tellOfStranger_62 (mk0 rfl)) (bind_cg fun h62 => ?_)
    refine Eq.trans (q_aload_n dX0_tellOfStranger_63 (mk0 rfl) rfl rfl) ?_
    refine Eq.trans (q_getR (ci := 0) (k := 2) dX0_tellOfStranger_64 (mk0 rfl) rfl) (bind_cg2 fun x64 hx64 => ?_)
    have hx64 := fR_isR hx64
    refine Eq.trans (q_bipush (v := 6) dX0_tellOfStranger_67 (mk0 rfl) rfl) ?_
    refine Eq.trans (q_aload_n dX0_tellOfStranger_69 (mk0 rfl) rfl (isA_R hv1)) ?_
    refine Eq.trans (q_getR (ci := 7) (k := 9) dX0_tellOfStranger_70 (mk0 rfl) rfl) (bind_cg2 fun x70 hx70 => ?_)
    have hx70 := fR_isR hx70
    refine Eq.trans (q_iload_n dX0_tellOfStranger_73 (mk0 rfl) rfl) ?_
    refine Eq.trans (q_iaload dX0_tellOfStranger_74 (mk0 rfl) (no_ext hx70)) (bind_cg fun x74 => ?_)
    refine Eq.trans (q_iastore dX0_tellOfStranger_75 (mk0 rfl)) (bind_cg fun h75 => ?_)
    refine Eq.trans (q_aload_n dX0_tellOfStranger_76 (mk0 rfl) rfl rfl) ?_
    refine Eq.trans (q_getR (ci := 0) (k := 2) dX0_tellOfStranger_77 (mk0 rfl) rfl) (bind_cg2 fun x77 hx77 => ?_)
    have hx77 := fR_isR hx77
    refine Eq.trans (q_bipush (v := 7) dX0_tellOfStranger_80 (mk0 rfl) rfl) ?_
    refine Eq.trans (q_aload_n dX0_tellOfStranger_82 (mk0 rfl) rfl rfl) ?_
    refine Eq.trans (q_getR (ci := 0) (k := 0) dX0_tellOfStranger_83 (mk0 rfl) rfl) (bind_cg2 fun x83 hx83 => ?_)
    have hx83 := fR_isR hx83
    refine Eq.trans (q_aload_n dX0_tellOfStranger_86 (mk0 rfl) rfl (isA_R hv1)) ?_
    refine Eq.trans (q_getR (ci := 7) (k := 9) dX0_tellOfStranger_87 (mk0 rfl) rfl) (bind_cg2 fun x87 hx87 => ?_)
    have hx87 := fR_isR hx87
    refine Eq.trans (q_iload_n dX0_tellOfStranger_90 (mk0 rfl) rfl) ?_
    refine Eq.trans (q_iaload dX0_tellOfStranger_91 (mk0 rfl) (no_ext hx87)) (bind_cg fun x91 => ?_)
    refine Eq.trans (q_aload_n dX0_tellOfStranger_92 (mk0 rfl) rfl rfl) ?_
    refine Eq.trans (q_getR (ci := 0) (k := 3) dX0_tellOfStranger_93 (mk0 rfl) rfl) (bind_cg2 fun x93 hx93 => ?_)
    have hx93 := fR_isR hx93
    refine Eq.trans (q_getR (ci := 9) (k := 9) dX0_tellOfStranger_96 (mk0 rfl) rfl) (bind_cg2 fun x96 hx96 => ?_)
    have hx96 := fR_isR hx96
    refine Eq.trans (q_iload_n dX0_tellOfStranger_99 (mk0 rfl) rfl) ?_
    refine Eq.trans (q_iaload dX0_tellOfStranger_100 (mk0 rfl) (no_ext hx96)) (bind_cg fun x100 => ?_)
    refine Eq.trans (q_callV (as := [.int x91, .int x100]) dX0_tellOfStranger_101 (mk0 rfl) rfl rfl rfl (by simp [catS, ct_i, ct_l, ct_r, ct_n, ct_x, (cat_R hx77)]) (Nat.le_of_ble_eq_true rfl)) (bind_cg fun b101 => ?_)
    refine Eq.trans (cI_bind (Or.inl rfl)) (bind_cg fun p101 => ?_)
    show RS (ZZ L xs) (d + 1) mX0_tellOfStranger 104 [some (.ref o), some (v1), some (.int i2), some (.int i3), some (.int i4)] [.int p101.2, .int 7, x77] p101.1 = _
    refine Eq.trans (q_iastore dX0_tellOfStranger_104 (mk0 rfl)) (bind_cg fun h104 => ?_)
    refine Eq.trans (q_aload_n dX0_tellOfStranger_105 (mk0 rfl) rfl rfl) ?_
    refine Eq.trans (q_getR (ci := 0) (k := 2) dX0_tellOfStranger_106 (mk0 rfl) rfl) (bind_cg2 fun x106 hx106 => ?_)
    have hx106 := fR_isR hx106
    refine Eq.trans (q_bipush (v := 9) dX0_tellOfStranger_109 (mk0 rfl) rfl) ?_
    refine Eq.trans (q_aload_n dX0_tellOfStranger_111 (mk0 rfl) rfl rfl) ?_
    refine Eq.trans (q_getR (ci := 0) (k := 3) dX0_tellOfStranger_112 (mk0 rfl) rfl) (bind_cg2 fun x112 hx112 => ?_)
    have hx112 := fR_isR hx112
    refine Eq.trans (q_getI (ci := 9) (k := 1) dX0_tellOfStranger_115 (mk0 rfl) rfl) (bind_cg fun x115 => ?_)
    refine Eq.trans (q_if_le (t := 136) dX0_tellOfStranger_118 (mk0 rfl) rfl) (ite_cg ?_ ?_)
    · refine Eq.trans (q_iconst (v := 0) dX0_tellOfStranger_136 (mk0 rfl) rfl) ?_
      rfl
    · refine Eq.trans (q_aload_n dX0_tellOfStranger_121 (mk0 rfl) rfl (isA_R hv1)) ?_
      refine Eq.trans (q_getI (ci := 7) (k := 0) dX0_tellOfStranger_122 (mk0 rfl) rfl) (bind_cg fun x122 => ?_)
      refine Eq.trans (q_aload_n dX0_tellOfStranger_125 (mk0 rfl) rfl rfl) ?_
      refine Eq.trans (q_getR (ci := 0) (k := 3) dX0_tellOfStranger_126 (mk0 rfl) rfl) (bind_cg2 fun x126 hx126 => ?_)
      have hx126 := fR_isR hx126
      refine Eq.trans (q_getI (ci := 9) (k := 1) dX0_tellOfStranger_129 (mk0 rfl) rfl) (bind_cg fun x129 => ?_)
      refine Eq.trans (q_irem dX0_tellOfStranger_132 (mk0 rfl)) (ite_cg rfl ?_)
      refine Eq.trans (q_goto (t := 137) dX0_tellOfStranger_133 (mk0 rfl) rfl) ?_
      rfl
  · refine Eq.trans (q_iload_n dX0_tellOfStranger_17 (mk0 rfl) rfl) ?_
    refine Eq.trans (q_aload_n dX0_tellOfStranger_18 (mk0 rfl) rfl (isA_R hv1)) ?_
    refine Eq.trans (q_getR (ci := 7) (k := 4) dX0_tellOfStranger_19 (mk0 rfl) rfl) (bind_cg2 fun x19 hx19 => ?_)
    have hx19 := fR_isR hx19
    refine Eq.trans (q_iload dX0_tellOfStranger_22 (mk0 rfl) rfl) ?_
    refine Eq.trans (q_iaload dX0_tellOfStranger_24 (mk0 rfl) (no_ext hx19)) (bind_cg fun x24 => ?_)
    refine Eq.trans (q_aload_n dX0_tellOfStranger_25 (mk0 rfl) rfl (isA_R hv1)) ?_
    refine Eq.trans (q_getR (ci := 7) (k := 9) dX0_tellOfStranger_26 (mk0 rfl) rfl) (bind_cg2 fun x26 hx26 => ?_)
    have hx26 := fR_isR hx26
    refine Eq.trans (q_iload_n dX0_tellOfStranger_29 (mk0 rfl) rfl) ?_
    refine Eq.trans (q_iaload dX0_tellOfStranger_30 (mk0 rfl) (no_ext hx26)) (bind_cg fun x30 => ?_)
    refine Eq.trans (q_icmp_ne (t := 38) dX0_tellOfStranger_31 (mk0 rfl) rfl) (ite_cg ?_ ?_)
    · refine Eq.trans (q_iconst (v := 0) dX0_tellOfStranger_38 (mk0 rfl) rfl) ?_
      rfl
    · refine Eq.trans (q_iconst (v := 1) dX0_tellOfStranger_34 (mk0 rfl) rfl) ?_
      refine Eq.trans (q_goto (t := 39) dX0_tellOfStranger_35 (mk0 rfl) rfl) ?_
      rfl
set_option maxRecDepth 20000 in
theorem bX0_tellOfStranger_39 {L : Nat} {xs : Nat → Int32} (d : Nat) (o : Nat) (v1 : Value) (i2 : Int32) (u3 : Option Value) (i4 : Int32) (t0 : Int32) (t1 : Int32) (hv1 : isR v1 = true) (ph : PH) : RS (ZZ L xs) (d + 1) mX0_tellOfStranger 39 [some (.ref o), some (v1), some (.int i2), u3, some (.int i4)] [.int t0, .int t1] ph = RS (ZZ L xs) (d + 1) mX0_tellOfStranger 5 [some (.ref o), some (v1), some (.int i2), some (.int (t1 + t0)), some (.int (i4 + 1))] [] ph := by
  refine Eq.trans (q_iadd dX0_tellOfStranger_39 (show mK mX0_tellOfStranger 39 [some (.ref o), some (v1), some (.int i2), u3, some (.int i4)] = [some (.ref o), some (v1), some (.int i2), none, some (.int i4)] from rfl)) ?_
  refine Eq.trans (q_istore_n (lv2 := [some (.ref o), some (v1), some (.int i2), some (.int (t1 + t0)), some (.int i4)]) dX0_tellOfStranger_40 (mk0 rfl) (Nat.le_of_ble_eq_true rfl) rfl) ?_
  refine Eq.trans (q_iinc (v := 1) (lv2 := [some (.ref o), some (v1), some (.int i2), some (.int (t1 + t0)), some (.int (i4 + 1))]) dX0_tellOfStranger_41 (mk0 rfl) rfl rfl rfl) ?_
  refine Eq.trans (q_goto (t := 5) dX0_tellOfStranger_44 (mk0 rfl) rfl) ?_
  rfl
set_option maxRecDepth 20000 in
theorem bX0_tellOfStranger_137 {L : Nat} {xs : Nat → Int32} (d : Nat) (o : Nat) (v1 : Value) (u2 : Option Value) (u3 : Option Value) (u4 : Option Value) (t0 : Int32) (t1 : Int32) (w2 : Value) (hv1 : isR v1 = true) (hw2 : isR w2 = true) (ph : PH) : RS (ZZ L xs) (d + 1) mX0_tellOfStranger 137 [some (.ref o), some (v1), u2, u3, u4] [.int t0, .int t1, w2] ph = (wI ph w2 t1 t0).bind fun h137 => (fR h137 (.ref o) 0 2).bind fun x139 => (fI h137 v1 7 2).bind fun x145 => (wI h137 x139 10 x145).bind fun h148 => (fR h148 (.ref o) 0 2).bind fun x150 => (fI h148 v1 7 0).bind fun x156 => (wI h148 x150 11 x156).bind fun h159 => some (h159, none) := by
  refine Eq.trans (q_iastore dX0_tellOfStranger_137 (show mK mX0_tellOfStranger 137 [some (.ref o), some (v1), u2, u3, u4] = [some (.ref o), some (v1), none, none, none] from rfl)) (bind_cg fun h137 => ?_)
  refine Eq.trans (q_aload_n dX0_tellOfStranger_138 (mk0 rfl) rfl rfl) ?_
  refine Eq.trans (q_getR (ci := 0) (k := 2) dX0_tellOfStranger_139 (mk0 rfl) rfl) (bind_cg2 fun x139 hx139 => ?_)
  have hx139 := fR_isR hx139
  refine Eq.trans (q_bipush (v := 10) dX0_tellOfStranger_142 (mk0 rfl) rfl) ?_
  refine Eq.trans (q_aload_n dX0_tellOfStranger_144 (mk0 rfl) rfl (isA_R hv1)) ?_
  refine Eq.trans (q_getI (ci := 7) (k := 2) dX0_tellOfStranger_145 (mk0 rfl) rfl) (bind_cg fun x145 => ?_)
  refine Eq.trans (q_iastore dX0_tellOfStranger_148 (mk0 rfl)) (bind_cg fun h148 => ?_)
  refine Eq.trans (q_aload_n dX0_tellOfStranger_149 (mk0 rfl) rfl rfl) ?_
  refine Eq.trans (q_getR (ci := 0) (k := 2) dX0_tellOfStranger_150 (mk0 rfl) rfl) (bind_cg2 fun x150 hx150 => ?_)
  have hx150 := fR_isR hx150
  refine Eq.trans (q_bipush (v := 11) dX0_tellOfStranger_153 (mk0 rfl) rfl) ?_
  refine Eq.trans (q_aload_n dX0_tellOfStranger_155 (mk0 rfl) rfl (isA_R hv1)) ?_
  refine Eq.trans (q_getI (ci := 7) (k := 0) dX0_tellOfStranger_156 (mk0 rfl) rfl) (bind_cg fun x156 => ?_)
  refine Eq.trans (q_iastore dX0_tellOfStranger_159 (mk0 rfl)) (bind_cg fun h159 => ?_)
  exact q_return dX0_tellOfStranger_160 (mk0 rfl) rfl
set_option maxRecDepth 20000 in
theorem bX0_tellOfPerson_0 {L : Nat} {xs : Nat → Int32} (d : Nat) (o : Nat) (v1 : Value) (i2 : Int32) (i3 : Int32) (hv1 : isR v1 = true) (ph : PH) : RS (ZZ L xs) (d + 1) mX0_tellOfPerson 0 [some (.ref o), some (v1), some (.int i2), some (.int i3)] [] ph = (fR ph (.ref o) 0 2).bind fun x1 => (wI ph x1 1 i3).bind fun h6 => (fR h6 (.ref o) 0 2).bind fun x8 => (fR h6 v1 7 5).bind fun x13 => (eI h6 x13 i3).bind fun x17 => (wI h6 x8 2 x17).bind fun h18 => (fR h18 (.ref o) 0 2).bind fun x20 => (fR h18 v1 7 6).bind fun x25 => (eI h18 x25 i3).bind fun x29 => (wI h18 x20 3 x29).bind fun h30 => (fR h30 (.ref o) 0 2).bind fun x32 => (fR h30 v1 7 10).bind fun x37 => (eI h30 x37 ((i2 * 6) + i3)).bind fun x46 => (wI h30 x32 4 x46).bind fun h47 => (fR h47 (.ref o) 0 2).bind fun x49 => (fI h47 v1 7 1).bind fun x55 => if ¬ (x55 : Int32) = i3 then RS (ZZ L xs) (d + 1) mX0_tellOfPerson 67 [some (.ref o), some (v1), some (.int i2), some (.int i3)] [.int 0, .int 8, x49] h47 else RS (ZZ L xs) (d + 1) mX0_tellOfPerson 67 [some (.ref o), some (v1), some (.int i2), some (.int i3)] [.int 1, .int 8, x49] h47 := by
  refine Eq.trans (q_aload_n dX0_tellOfPerson_0 (mk0 rfl) rfl rfl) ?_
  refine Eq.trans (q_getR (ci := 0) (k := 2) dX0_tellOfPerson_1 (mk0 rfl) rfl) (bind_cg2 fun x1 hx1 => ?_)
  have hx1 := fR_isR hx1
  refine Eq.trans (q_iconst (v := 1) dX0_tellOfPerson_4 (mk0 rfl) rfl) ?_
  refine Eq.trans (q_iload_n dX0_tellOfPerson_5 (mk0 rfl) rfl) ?_
  refine Eq.trans (q_iastore dX0_tellOfPerson_6 (mk0 rfl)) (bind_cg fun h6 => ?_)
  refine Eq.trans (q_aload_n dX0_tellOfPerson_7 (mk0 rfl) rfl rfl) ?_
  refine Eq.trans (q_getR (ci := 0) (k := 2) dX0_tellOfPerson_8 (mk0 rfl) rfl) (bind_cg2 fun x8 hx8 => ?_)
  have hx8 := fR_isR hx8
  refine Eq.trans (q_iconst (v := 2) dX0_tellOfPerson_11 (mk0 rfl) rfl) ?_
  refine Eq.trans (q_aload_n dX0_tellOfPerson_12 (mk0 rfl) rfl (isA_R hv1)) ?_
  refine Eq.trans (q_getR (ci := 7) (k := 5) dX0_tellOfPerson_13 (mk0 rfl) rfl) (bind_cg2 fun x13 hx13 => ?_)
  have hx13 := fR_isR hx13
  refine Eq.trans (q_iload_n dX0_tellOfPerson_16 (mk0 rfl) rfl) ?_
  refine Eq.trans (q_iaload dX0_tellOfPerson_17 (mk0 rfl) (no_ext hx13)) (bind_cg fun x17 => ?_)
  refine Eq.trans (q_iastore dX0_tellOfPerson_18 (mk0 rfl)) (bind_cg fun h18 => ?_)
  refine Eq.trans (q_aload_n dX0_tellOfPerson_19 (mk0 rfl) rfl rfl) ?_
  refine Eq.trans (q_getR (ci := 0) (k := 2) dX0_tellOfPerson_20 (mk0 rfl) rfl) (bind_cg2 fun x20 hx20 => ?_)
  have hx20 := fR_isR hx20
  refine Eq.trans (q_iconst (v := 3) dX0_tellOfPerson_23 (mk0 rfl) rfl) ?_
  refine Eq.trans (q_aload_n dX0_tellOfPerson_24 (mk0 rfl) rfl (isA_R hv1)) ?_
  refine Eq.trans (q_getR (ci := 7) (k := 6) dX0_tellOfPerson_25 (mk0 rfl) rfl) (bind_cg2 fun x25 hx25 => ?_)
  have hx25 := fR_isR hx25
  refine Eq.trans (q_iload_n dX0_tellOfPerson_28 (mk0 rfl) rfl) ?_
  refine Eq.trans (q_iaload dX0_tellOfPerson_29 (mk0 rfl) (no_ext hx25)) (bind_cg fun x29 => ?_)
  refine Eq.trans (q_iastore dX0_tellOfPerson_30 (mk0 rfl)) (bind_cg fun h30 => ?_)
  refine Eq.trans (q_aload_n dX0_tellOfPerson_31 (mk0 rfl) rfl rfl) ?_
  refine Eq.trans (q_getR (ci := 0) (k := 2) dX0_tellOfPerson_32 (mk0 rfl) rfl) (bind_cg2 fun x32 hx32 => ?_)
  have hx32 := fR_isR hx32
  refine Eq.trans (q_iconst (v := 4) dX0_tellOfPerson_35 (mk0 rfl) rfl) ?_
  refine Eq.trans (q_aload_n dX0_tellOfPerson_36 (mk0 rfl) rfl (isA_R hv1)) ?_
  refine Eq.trans (q_getR (ci := 7) (k := 10) dX0_tellOfPerson_37 (mk0 rfl) rfl) (bind_cg2 fun x37 hx37 => ?_)
  have hx37 := fR_isR hx37
  refine Eq.trans (q_iload_n dX0_tellOfPerson_40 (mk0 rfl) rfl) ?_
  refine Eq.trans (q_bipush (v := 6) dX0_tellOfPerson_41 (mk0 rfl) rfl) ?_
  refine Eq.trans (q_imul dX0_tellOfPerson_43 (mk0 rfl)) ?_
  refine Eq.trans (q_iload_n dX0_tellOfPerson_44 (mk0 rfl) rfl) ?_
  refine Eq.trans (q_iadd dX0_tellOfPerson_45 (mk0 rfl)) ?_
  refine Eq.trans (q_iaload dX0_tellOfPerson_46 (mk0 rfl) (no_ext hx37)) (bind_cg fun x46 => ?_)
  refine Eq.trans (q_iastore dX0_tellOfPerson_47 (mk0 rfl)) (bind_cg fun h47 => ?_)
  refine Eq.trans (q_aload_n dX0_tellOfPerson_48 (mk0 rfl) rfl rfl) ?_
  refine Eq.trans (q_getR (ci := 0) (k := 2) dX0_tellOfPerson_49 (mk0 rfl) rfl) (bind_cg2 fun x49 hx49 => ?_)
  have hx49 := fR_isR hx49
  refine Eq.trans (q_bipush (v := 8) dX0_tellOfPerson_52 (mk0 rfl) rfl) ?_
  refine Eq.trans (q_aload_n dX0_tellOfPerson_54 (mk0 rfl) rfl (isA_R hv1)) ?_
  refine Eq.trans (q_getI (ci := 7) (k := 1) dX0_tellOfPerson_55 (mk0 rfl) rfl) (bind_cg fun x55 => ?_)
  refine Eq.trans (q_iload_n dX0_tellOfPerson_58 (mk0 rfl) rfl) ?_
  refine Eq.trans (q_icmp_ne (t := 66) dX0_tellOfPerson_59 (mk0 rfl) rfl) (ite_cg ?_ ?_)
  · refine Eq.trans (q_iconst (v := 0) dX0_tellOfPerson_66 (mk0 rfl) rfl) ?_
    rfl
  · refine Eq.trans (q_iconst (v := 1) dX0_tellOfPerson_62 (mk0 rfl) rfl) ?_
    refine Eq.trans (q_goto (t := 67) dX0_tellOfPerson_63 (mk0 rfl) rfl) ?_
    rfl
set_option maxRecDepth 20000 in
theorem bX0_tellOfPerson_67 {L : Nat} {xs : Nat → Int32} (d : Nat) (u0 : Option Value) (u1 : Option Value) (u2 : Option Value) (u3 : Option Value) (t0 : Int32) (t1 : Int32) (w2 : Value) (hw2 : isR w2 = true) (ph : PH) : RS (ZZ L xs) (d + 1) mX0_tellOfPerson 67 [u0, u1, u2, u3] [.int t0, .int t1, w2] ph = (wI ph w2 t1 t0).bind fun h67 => some (h67, none) := by
  refine Eq.trans (q_iastore dX0_tellOfPerson_67 (show mK mX0_tellOfPerson 67 [u0, u1, u2, u3] = [none, none, none, none] from rfl)) (bind_cg fun h67 => ?_)
  exact q_return dX0_tellOfPerson_68 (mk0 rfl) rfl
set_option maxRecDepth 20000 in
theorem bX0_countAsked_0 {L : Nat} {xs : Nat → Int32} (d : Nat) (o : Nat) (v1 : Value) (i2 : Int32) (hv1 : isR v1 = true) (ph : PH) : RS (ZZ L xs) (d + 1) mX0_countAsked 0 [some (.ref o), some (v1), some (.int i2), none] [] ph = (fR ph (.ref o) 0 1).bind fun x1 => (eI ph x1 i2).bind fun x5 => if (x5 : Int32) = (-1) then RS (ZZ L xs) (d + 1) mX0_countAsked 47 [some (.ref o), some (v1), some (.int i2), some (.int x5)] [] ph else (fR ph v1 7 6).bind fun x13 => (eI ph x13 x5).bind fun x18 => (wI ph x13 x5 (x18 + 1)).bind fun h21 => (fR h21 v1 7 7).bind fun x23 => (eI h21 x23 x5).bind fun x28 => (wI h21 x23 x5 (x28 + 1)).bind fun h31 => (fR h31 v1 7 10).bind fun x33 => (eI h31 x33 ((i2 * 6) + x5)).bind fun x43 => (wI h31 x33 ((i2 * 6) + x5) (x43 + 1)).bind fun h46 => RS (ZZ L xs) (d + 1) mX0_countAsked 47 [some (.ref o), some (v1), some (.int i2), some (.int x5)] [] h46 := by
  refine Eq.trans (q_aload_n dX0_countAsked_0 (mk0 rfl) rfl rfl) ?_
  refine Eq.trans (q_getR (ci := 0) (k := 1) dX0_countAsked_1 (mk0 rfl) rfl) (bind_cg2 fun x1 hx1 => ?_)
  have hx1 := fR_isR hx1
  refine Eq.trans (q_iload_n dX0_countAsked_4 (mk0 rfl) rfl) ?_
  refine Eq.trans (q_iaload dX0_countAsked_5 (mk0 rfl) (no_ext hx1)) (bind_cg fun x5 => ?_)
  refine Eq.trans (q_istore_n (lv2 := [some (.ref o), some (v1), some (.int i2), some (.int x5)]) dX0_countAsked_6 (mk0 rfl) (Nat.le_of_ble_eq_true rfl) rfl) ?_
  refine Eq.trans (q_iload_n dX0_countAsked_7 (mk0 rfl) rfl) ?_
  refine Eq.trans (q_iconst (v := (-1)) dX0_countAsked_8 (mk0 rfl) rfl) ?_
  refine Eq.trans (q_icmp_eq (t := 47) dX0_countAsked_9 (mk0 rfl) rfl) (ite_cg ?_ ?_)
  · rfl
  · refine Eq.trans (q_aload_n dX0_countAsked_12 (mk0 rfl) rfl (isA_R hv1)) ?_
    refine Eq.trans (q_getR (ci := 7) (k := 6) dX0_countAsked_13 (mk0 rfl) rfl) (bind_cg2 fun x13 hx13 => ?_)
    have hx13 := fR_isR hx13
    refine Eq.trans (q_iload_n dX0_countAsked_16 (mk0 rfl) rfl) ?_
    refine Eq.trans (q_dup2 dX0_countAsked_17 (mk0 rfl) rfl (cat_R hx13)) ?_
    refine Eq.trans (q_iaload dX0_countAsked_18 (mk0 rfl) (no_ext hx13)) (bind_cg fun x18 => ?_)
    refine Eq.trans (q_iconst (v := 1) dX0_countAsked_19 (mk0 rfl) rfl) ?_
    refine Eq.trans (q_iadd dX0_countAsked_20 (mk0 rfl)) ?_
    refine Eq.trans (q_iastore dX0_countAsked_21 (mk0 rfl)) (bind_cg fun h21 => ?_)
    refine Eq.trans (q_aload_n dX0_countAsked_22 (mk0 rfl) rfl (isA_R hv1)) ?_
    refine Eq.trans (q_getR (ci := 7) (k := 7) dX0_countAsked_23 (mk0 rfl) rfl) (bind_cg2 fun x23 hx23 => ?_)
    have hx23 := fR_isR hx23
    refine Eq.trans (q_iload_n dX0_countAsked_26 (mk0 rfl) rfl) ?_
    refine Eq.trans (q_dup2 dX0_countAsked_27 (mk0 rfl) rfl (cat_R hx23)) ?_
    refine Eq.trans (q_iaload dX0_countAsked_28 (mk0 rfl) (no_ext hx23)) (bind_cg fun x28 => ?_)
    refine Eq.trans (q_iconst (v := 1) dX0_countAsked_29 (mk0 rfl) rfl) ?_
    refine Eq.trans (q_iadd dX0_countAsked_30 (mk0 rfl)) ?_
    refine Eq.trans (q_iastore dX0_countAsked_31 (mk0 rfl)) (bind_cg fun h31 => ?_)
    refine Eq.trans (q_aload_n dX0_countAsked_32 (mk0 rfl) rfl (isA_R hv1)) ?_
    refine Eq.trans (q_getR (ci := 7) (k := 10) dX0_countAsked_33 (mk0 rfl) rfl) (bind_cg2 fun x33 hx33 => ?_)
    have hx33 := fR_isR hx33
    refine Eq.trans (q_iload_n dX0_countAsked_36 (mk0 rfl) rfl) ?_
    refine Eq.trans (q_bipush (v := 6) dX0_countAsked_37 (mk0 rfl) rfl) ?_
    refine Eq.trans (q_imul dX0_countAsked_39 (mk0 rfl)) ?_
    refine Eq.trans (q_iload_n dX0_countAsked_40 (mk0 rfl) rfl) ?_
    refine Eq.trans (q_iadd dX0_countAsked_41 (mk0 rfl)) ?_
    refine Eq.trans (q_dup2 dX0_countAsked_42 (mk0 rfl) rfl (cat_R hx33)) ?_
    refine Eq.trans (q_iaload dX0_countAsked_43 (mk0 rfl) (no_ext hx33)) (bind_cg fun x43 => ?_)
    refine Eq.trans (q_iconst (v := 1) dX0_countAsked_44 (mk0 rfl) rfl) ?_
    refine Eq.trans (q_iadd dX0_countAsked_45 (mk0 rfl)) ?_
    refine Eq.trans (q_iastore dX0_countAsked_46 (mk0 rfl)) (bind_cg fun h46 => ?_)
    rfl
set_option maxRecDepth 20000 in
theorem bX0_countAsked_47 {L : Nat} {xs : Nat → Int32} (d : Nat) (u0 : Option Value) (u1 : Option Value) (u2 : Option Value) (u3 : Option Value) (ph : PH) : RS (ZZ L xs) (d + 1) mX0_countAsked 47 [u0, u1, u2, u3] [] ph = some (ph, none) := by
  exact q_return dX0_countAsked_47 (show mK mX0_countAsked 47 [u0, u1, u2, u3] = [none, none, none, none] from rfl) rfl
set_option maxRecDepth 20000 in
theorem bX0_whereTo_0 {L : Nat} {xs : Nat → Int32} (d : Nat) (o : Nat) (v1 : Value) (i2 : Int32) (hv1 : isR v1 = true) (ph : PH) : RS (ZZ L xs) (d + 1) mX0_whereTo 0 [some (.ref o), some (v1), some (.int i2), none, none] [] ph = (fR ph v1 7 9).bind fun x1 => (eI ph x1 i2).bind fun x5 => (fL ph v1 7 3).bind fun x8 => (cI (ZZ L xs) d mX11_neighbours [.long x8, .int x5] ph).bind fun p12 => (fR p12.1 (.ref o) 0 1).bind fun x18 => (eI p12.1 x18 i2).bind fun x22 => if ¬ (x22 : Int32) = (-1) then (fI p12.1 (.ref o) 0 5).bind fun x35 => (fR p12.1 (.ref o) 0 1).bind fun x39 => (eI p12.1 x39 i2).bind fun x43 => if ¬ ((iShr x35 x43) &&& 1 : Int32) = 1 then (fR p12.1 (.ref o) 0 0).bind fun x59 => (fR p12.1 (.ref o) 0 3).bind fun x64 => (fR p12.1 x64 9 9).bind fun x67 => (eI p12.1 x67 i2).bind fun x71 => (iO p12.1 x59 11).bind fun b72 => (cI (ZZ L xs) d mX11_step [.ref b72, .int x5, .int x71] p12.1).bind fun p72 => some (p72.1, some (.int p72.2)) else (cI (ZZ L xs) d mX11_greatest [.int p12.2, .int x5] p12.1).bind fun p54 => some (p54.1, some (.int p54.2)) else (cI (ZZ L xs) d mX11_least [.int p12.2, .int x5] p12.1).bind fun p30 => some (p30.1, some (.int p30.2)) := by
  refine Eq.trans (q_aload_n dX0_whereTo_0 (mk0 rfl) rfl (isA_R hv1)) ?_
  refine Eq.trans (q_getR (ci := 7) (k := 9) dX0_whereTo_1 (mk0 rfl) rfl) (bind_cg2 fun x1 hx1 => ?_)
  have hx1 := fR_isR hx1
  refine Eq.trans (q_iload_n dX0_whereTo_4 (mk0 rfl) rfl) ?_
  refine Eq.trans (q_iaload dX0_whereTo_5 (mk0 rfl) (no_ext hx1)) (bind_cg fun x5 => ?_)
  refine Eq.trans (q_istore_n (lv2 := [some (.ref o), some (v1), some (.int i2), some (.int x5), none]) dX0_whereTo_6 (mk0 rfl) (Nat.le_of_ble_eq_true rfl) rfl) ?_
  refine Eq.trans (q_aload_n dX0_whereTo_7 (mk0 rfl) rfl (isA_R hv1)) ?_
  refine Eq.trans (q_getL (ci := 7) (k := 3) dX0_whereTo_8 (mk0 rfl) rfl) (bind_cg fun x8 => ?_)
  refine Eq.trans (q_iload_n dX0_whereTo_11 (mk0 rfl) rfl) ?_
  refine Eq.trans (q_callS (as := [.long x8, .int x5]) dX0_whereTo_12 (mk0 rfl) rfl (Or.inl rfl) rfl rfl (Nat.le_of_ble_eq_true rfl) (Nat.le_of_ble_eq_true rfl)) ?_
  refine Eq.trans (cI_bind (Or.inl rfl)) (bind_cg fun p12 => ?_)
  show RS (ZZ L xs) (d + 1) mX0_whereTo 15 [some (.ref o), some (v1), some (.int i2), some (.int x5), none] [.int p12.2] p12.1 = _
  refine Eq.trans (q_istore (lv2 := [some (.ref o), some (v1), some (.int i2), some (.int x5), some (.int p12.2)]) dX0_whereTo_15 (mk0 rfl) (Nat.le_of_ble_eq_true rfl) rfl) ?_
  refine Eq.trans (q_aload_n dX0_whereTo_17 (mk0 rfl) rfl rfl) ?_
  refine Eq.trans (q_getR (ci := 0) (k := 1) dX0_whereTo_18 (mk0 rfl) rfl) (bind_cg2 fun x18 hx18 => ?_)
  have hx18 := fR_isR hx18
  refine Eq.trans (q_iload_n dX0_whereTo_21 (mk0 rfl) rfl) ?_
  refine Eq.trans (q_iaload dX0_whereTo_22 (mk0 rfl) (no_ext hx18)) (bind_cg fun x22 => ?_)
  refine Eq.trans (q_iconst (v := (-1)) dX0_whereTo_23 (mk0 rfl) rfl) ?_
  refine Eq.trans (q_icmp_ne (t := 34) dX0_whereTo_24 (mk0 rfl) rfl) (ite_cg ?_ ?_)
  · refine Eq.trans (q_aload_n dX0_whereTo_34 (mk0 rfl) rfl rfl) ?_
    refine Eq.trans (q_getI (ci := 0) (k := 5) dX0_whereTo_35 (mk0 rfl) rfl) (bind_cg fun x35 => ?_)
    refine Eq.trans (q_aload_n dX0_whereTo_38 (mk0 rfl) rfl rfl) ?_
    refine Eq.trans (q_getR (ci := 0) (k := 1) dX0_whereTo_39 (mk0 rfl) rfl) (bind_cg2 fun x39 hx39 => ?_)
    have hx39 := fR_isR hx39
    refine Eq.trans (q_iload_n dX0_whereTo_42 (mk0 rfl) rfl) ?_
    refine Eq.trans (q_iaload dX0_whereTo_43 (mk0 rfl) (no_ext hx39)) (bind_cg fun x43 => ?_)
    refine Eq.trans (q_ishr dX0_whereTo_44 (mk0 rfl)) ?_
    refine Eq.trans (q_iconst (v := 1) dX0_whereTo_45 (mk0 rfl) rfl) ?_
    refine Eq.trans (q_iand dX0_whereTo_46 (mk0 rfl)) ?_
    refine Eq.trans (q_iconst (v := 1) dX0_whereTo_47 (mk0 rfl) rfl) ?_
    refine Eq.trans (q_icmp_ne (t := 58) dX0_whereTo_48 (mk0 rfl) rfl) (ite_cg ?_ ?_)
    · refine Eq.trans (q_aload_n dX0_whereTo_58 (mk0 rfl) rfl rfl) ?_
      refine Eq.trans (q_getR (ci := 0) (k := 0) dX0_whereTo_59 (mk0 rfl) rfl) (bind_cg2 fun x59 hx59 => ?_)
      have hx59 := fR_isR hx59
      refine Eq.trans (q_iload_n dX0_whereTo_62 (mk0 rfl) rfl) ?_
      refine Eq.trans (q_aload_n dX0_whereTo_63 (mk0 rfl) rfl rfl) ?_
      refine Eq.trans (q_getR (ci := 0) (k := 3) dX0_whereTo_64 (mk0 rfl) rfl) (bind_cg2 fun x64 hx64 => ?_)
      have hx64 := fR_isR hx64
      refine Eq.trans (q_getR (ci := 9) (k := 9) dX0_whereTo_67 (mk0 rfl) rfl) (bind_cg2 fun x67 hx67 => ?_)
      have hx67 := fR_isR hx67
      refine Eq.trans (q_iload_n dX0_whereTo_70 (mk0 rfl) rfl) ?_
      refine Eq.trans (q_iaload dX0_whereTo_71 (mk0 rfl) (no_ext hx67)) (bind_cg fun x71 => ?_)
      refine Eq.trans (q_callV (as := [.int x5, .int x71]) dX0_whereTo_72 (mk0 rfl) rfl rfl rfl (Nat.le_of_ble_eq_true rfl) (Nat.le_of_ble_eq_true rfl)) (bind_cg fun b72 => ?_)
      refine Eq.trans (cI_bind (Or.inl rfl)) (bind_cg fun p72 => ?_)
      show RS (ZZ L xs) (d + 1) mX0_whereTo 75 [some (.ref o), some (v1), some (.int i2), some (.int x5), some (.int p12.2)] [.int p72.2] p72.1 = _
      exact q_ireturn dX0_whereTo_75 (mk0 rfl) rfl
    · refine Eq.trans (q_iload dX0_whereTo_51 (mk0 rfl) rfl) ?_
      refine Eq.trans (q_iload_n dX0_whereTo_53 (mk0 rfl) rfl) ?_
      refine Eq.trans (q_callS (as := [.int p12.2, .int x5]) dX0_whereTo_54 (mk0 rfl) rfl (Or.inl rfl) rfl rfl (Nat.le_of_ble_eq_true rfl) (Nat.le_of_ble_eq_true rfl)) ?_
      refine Eq.trans (cI_bind (Or.inl rfl)) (bind_cg fun p54 => ?_)
      show RS (ZZ L xs) (d + 1) mX0_whereTo 57 [some (.ref o), some (v1), some (.int i2), some (.int x5), some (.int p12.2)] [.int p54.2] p54.1 = _
      exact q_ireturn dX0_whereTo_57 (mk0 rfl) rfl
  · refine Eq.trans (q_iload dX0_whereTo_27 (mk0 rfl) rfl) ?_
    refine Eq.trans (q_iload_n dX0_whereTo_29 (mk0 rfl) rfl) ?_
    refine Eq.trans (q_callS (as := [.int p12.2, .int x5]) dX0_whereTo_30 (mk0 rfl) rfl (Or.inl rfl) rfl rfl (Nat.le_of_ble_eq_true rfl) (Nat.le_of_ble_eq_true rfl)) ?_
    refine Eq.trans (cI_bind (Or.inl rfl)) (bind_cg fun p30 => ?_)
    show RS (ZZ L xs) (d + 1) mX0_whereTo 33 [some (.ref o), some (v1), some (.int i2), some (.int x5), some (.int p12.2)] [.int p30.2] p30.1 = _
    exact q_ireturn dX0_whereTo_33 (mk0 rfl) rfl
set_option maxRecDepth 20000 in
theorem bX0_closeTerm_0 {L : Nat} {xs : Nat → Int32} (d : Nat) (o : Nat) (v1 : Value) (hv1 : isR v1 = true) (ph : PH) : RS (ZZ L xs) (d + 1) mX0_closeTerm 0 [some (.ref o), some (v1), none, none] [] ph = (fR ph (.ref o) 0 3).bind fun x1 => (fI ph x1 9 1).bind fun x4 => if (x4 : Int32) ≤ 0 then RS (ZZ L xs) (d + 1) mX0_closeTerm 34 [some (.ref o), some (v1), none, none] [] ph else (fI ph v1 7 0).bind fun x11 => (fR ph (.ref o) 0 3).bind fun x15 => (fI ph x15 9 1).bind fun x18 => if (x18 : Int32) = 0 then none else (fR ph (.ref o) 0 3).bind fun x23 => (fI ph x23 9 1).bind fun x26 => if (iRem x11 x18 : Int32) = x26 - 1 then (fP ph v1 7 1 (.int ((-1)))).bind fun h39 => RS (ZZ L xs) (d + 1) mX0_closeTerm 44 [some (.ref o), some (v1), some (.int 0), some (.int 0)] [] h39 else RS (ZZ L xs) (d + 1) mX0_closeTerm 34 [some (.ref o), some (v1), none, none] [] ph := by
  refine Eq.trans (q_aload_n dX0_closeTerm_0 (mk0 rfl) rfl rfl) ?_
  refine Eq.trans (q_getR (ci := 0) (k := 3) dX0_closeTerm_1 (mk0 rfl) rfl) (bind_cg2 fun x1 hx1 => ?_)
  have hx1 := fR_isR hx1
  refine Eq.trans (q_getI (ci := 9) (k := 1) dX0_closeTerm_4 (mk0 rfl) rfl) (bind_cg fun x4 => ?_)
  refine Eq.trans (q_if_le (t := 34) dX0_closeTerm_7 (mk0 rfl) rfl) (ite_cg ?_ ?_)
  · rfl
  · refine Eq.trans (q_aload_n dX0_closeTerm_10 (mk0 rfl) rfl (isA_R hv1)) ?_
    refine Eq.trans (q_getI (ci := 7) (k := 0) dX0_closeTerm_11 (mk0 rfl) rfl) (bind_cg fun x11 => ?_)
    refine Eq.trans (q_aload_n dX0_closeTerm_14 (mk0 rfl) rfl rfl) ?_
    refine Eq.trans (q_getR (ci := 0) (k := 3) dX0_closeTerm_15 (mk0 rfl) rfl) (bind_cg2 fun x15 hx15 => ?_)
    have hx15 := fR_isR hx15
    refine Eq.trans (q_getI (ci := 9) (k := 1) dX0_closeTerm_18 (mk0 rfl) rfl) (bind_cg fun x18 => ?_)
    refine Eq.trans (q_irem dX0_closeTerm_21 (mk0 rfl)) (ite_cg rfl ?_)
    refine Eq.trans (q_aload_n dX0_closeTerm_22 (mk0 rfl) rfl rfl) ?_
    refine Eq.trans (q_getR (ci := 0) (k := 3) dX0_closeTerm_23 (mk0 rfl) rfl) (bind_cg2 fun x23 hx23 => ?_)
    have hx23 := fR_isR hx23
    refine Eq.trans (q_getI (ci := 9) (k := 1) dX0_closeTerm_26 (mk0 rfl) rfl) (bind_cg fun x26 => ?_)
    refine Eq.trans (q_iconst (v := 1) dX0_closeTerm_29 (mk0 rfl) rfl) ?_
    refine Eq.trans (q_isub dX0_closeTerm_30 (mk0 rfl)) ?_
    refine Eq.trans (q_icmp_eq (t := 35) dX0_closeTerm_31 (mk0 rfl) rfl) (ite_cg ?_ ?_)
    · refine Eq.trans (q_iconst (v := 0) dX0_closeTerm_35 (mk0 rfl) rfl) ?_
      refine Eq.trans (q_istore_n (lv2 := [some (.ref o), some (v1), some (.int 0), none]) dX0_closeTerm_36 (mk0 rfl) (Nat.le_of_ble_eq_true rfl) (by simp [s1, s2, s0, (cat_R hv1)] <;> rfl)) ?_
      refine Eq.trans (q_aload_n dX0_closeTerm_37 (mk0 rfl) rfl (isA_R hv1)) ?_
      refine Eq.trans (q_iconst (v := (-1)) dX0_closeTerm_38 (mk0 rfl) rfl) ?_
      refine Eq.trans (q_put (ci := 7) (k := 1) (kd := 0) dX0_closeTerm_39 (mk0 rfl) rfl rfl (fun h => by cases h)) (bind_cg fun h39 => ?_)
      refine Eq.trans (q_iconst (v := 0) dX0_closeTerm_42 (mk0 rfl) rfl) ?_
      refine Eq.trans (q_istore_n (lv2 := [some (.ref o), some (v1), some (.int 0), some (.int 0)]) dX0_closeTerm_43 (mk0 rfl) (Nat.le_of_ble_eq_true rfl) rfl) ?_
      rfl
    · rfl
set_option maxRecDepth 20000 in
theorem bX0_closeTerm_34 {L : Nat} {xs : Nat → Int32} (d : Nat) (u0 : Option Value) (u1 : Option Value) (u2 : Option Value) (u3 : Option Value) (ph : PH) : RS (ZZ L xs) (d + 1) mX0_closeTerm 34 [u0, u1, u2, u3] [] ph = some (ph, none) := by
  exact q_return dX0_closeTerm_34 (show mK mX0_closeTerm 34 [u0, u1, u2, u3] = [none, none, none, none] from rfl) rfl
set_option maxRecDepth 20000 in
theorem bX0_closeTerm_44 {L : Nat} {xs : Nat → Int32} (d : Nat) (o : Nat) (v1 : Value) (i2 : Int32) (i3 : Int32) (hv1 : isR v1 = true) (ph : PH) : RS (ZZ L xs) (d + 1) mX0_closeTerm 44 [some (.ref o), some (v1), some (.int i2), some (.int i3)] [] ph = (fR ph (.ref o) 0 3).bind fun x46 => (fI ph x46 9 2).bind fun x49 => if (x49 : Int32) ≤ i3 then (fI ph v1 7 1).bind fun x84 => if (x84 : Int32) = (-1) then RS (ZZ L xs) (d + 1) mX0_closeTerm 104 [some (.ref o), some (v1), some (.int i2), some (.int i3)] [] ph else (fR ph v1 7 8).bind fun x92 => (fI ph v1 7 1).bind fun x96 => (eI ph x92 x96).bind fun x100 => (wI ph x92 x96 (x100 + 1)).bind fun h103 => RS (ZZ L xs) (d + 1) mX0_closeTerm 104 [some (.ref o), some (v1), some (.int i2), some (.int i3)] [] h103 else (fR ph v1 7 6).bind fun x56 => (eI ph x56 i3).bind fun x60 => if (x60 : Int32) ≤ i2 then RS (ZZ L xs) (d + 1) mX0_closeTerm 77 [some (.ref o), some (v1), some (.int i2), some (.int i3)] [] ph else (fR ph v1 7 6).bind fun x66 => (eI ph x66 i3).bind fun x70 => (fP ph v1 7 1 (.int i3)).bind fun h74 => RS (ZZ L xs) (d + 1) mX0_closeTerm 77 [some (.ref o), some (v1), some (.int x70), some (.int i3)] [] h74 := by
  refine Eq.trans (q_iload_n dX0_closeTerm_44 (mk0 rfl) rfl) ?_
  refine Eq.trans (q_aload_n dX0_closeTerm_45 (mk0 rfl) rfl rfl) ?_
  refine Eq.trans (q_getR (ci := 0) (k := 3) dX0_closeTerm_46 (mk0 rfl) rfl) (bind_cg2 fun x46 hx46 => ?_)
  have hx46 := fR_isR hx46
  refine Eq.trans (q_getI (ci := 9) (k := 2) dX0_closeTerm_49 (mk0 rfl) rfl) (bind_cg fun x49 => ?_)
  refine Eq.trans (q_icmp_ge (t := 83) dX0_closeTerm_52 (mk0 rfl) rfl) (ite_cg ?_ ?_)
  · refine Eq.trans (q_aload_n dX0_closeTerm_83 (mk0 rfl) rfl (isA_R hv1)) ?_
    refine Eq.trans (q_getI (ci := 7) (k := 1) dX0_closeTerm_84 (mk0 rfl) rfl) (bind_cg fun x84 => ?_)
    refine Eq.trans (q_iconst (v := (-1)) dX0_closeTerm_87 (mk0 rfl) rfl) ?_
    refine Eq.trans (q_icmp_eq (t := 104) dX0_closeTerm_88 (mk0 rfl) rfl) (ite_cg ?_ ?_)
    · rfl
    · refine Eq.trans (q_aload_n dX0_closeTerm_91 (mk0 rfl) rfl (isA_R hv1)) ?_
      refine Eq.trans (q_getR (ci := 7) (k := 8) dX0_closeTerm_92 (mk0 rfl) rfl) (bind_cg2 fun x92 hx92 => ?_)
      have hx92 := fR_isR hx92
      refine Eq.trans (q_aload_n dX0_closeTerm_95 (mk0 rfl) rfl (isA_R hv1)) ?_
      refine Eq.trans (q_getI (ci := 7) (k := 1) dX0_closeTerm_96 (mk0 rfl) rfl) (bind_cg fun x96 => ?_)
      refine Eq.trans (q_dup2 dX0_closeTerm_99 (mk0 rfl) rfl (cat_R hx92)) ?_
      refine Eq.trans (q_iaload dX0_closeTerm_100 (mk0 rfl) (no_ext hx92)) (bind_cg fun x100 => ?_)
      refine Eq.trans (q_iconst (v := 1) dX0_closeTerm_101 (mk0 rfl) rfl) ?_
      refine Eq.trans (q_iadd dX0_closeTerm_102 (mk0 rfl)) ?_
      refine Eq.trans (q_iastore dX0_closeTerm_103 (mk0 rfl)) (bind_cg fun h103 => ?_)
      rfl
  · refine Eq.trans (q_aload_n dX0_closeTerm_55 (mk0 rfl) rfl (isA_R hv1)) ?_
    refine Eq.trans (q_getR (ci := 7) (k := 6) dX0_closeTerm_56 (mk0 rfl) rfl) (bind_cg2 fun x56 hx56 => ?_)
    have hx56 := fR_isR hx56
    refine Eq.trans (q_iload_n dX0_closeTerm_59 (mk0 rfl) rfl) ?_
    refine Eq.trans (q_iaload dX0_closeTerm_60 (mk0 rfl) (no_ext hx56)) (bind_cg fun x60 => ?_)
    refine Eq.trans (q_iload_n dX0_closeTerm_61 (mk0 rfl) rfl) ?_
    refine Eq.trans (q_icmp_le (t := 77) dX0_closeTerm_62 (mk0 rfl) rfl) (ite_cg ?_ ?_)
    · rfl
    · refine Eq.trans (q_aload_n dX0_closeTerm_65 (mk0 rfl) rfl (isA_R hv1)) ?_
      refine Eq.trans (q_getR (ci := 7) (k := 6) dX0_closeTerm_66 (mk0 rfl) rfl) (bind_cg2 fun x66 hx66 => ?_)
      have hx66 := fR_isR hx66
      refine Eq.trans (q_iload_n dX0_closeTerm_69 (mk0 rfl) rfl) ?_
      refine Eq.trans (q_iaload dX0_closeTerm_70 (mk0 rfl) (no_ext hx66)) (bind_cg fun x70 => ?_)
      refine Eq.trans (q_istore_n (lv2 := [some (.ref o), some (v1), some (.int x70), some (.int i3)]) dX0_closeTerm_71 (mk0 rfl) (Nat.le_of_ble_eq_true rfl) (by simp [s1, s2, s0, (cat_R hv1)] <;> rfl)) ?_
      refine Eq.trans (q_aload_n dX0_closeTerm_72 (mk0 rfl) rfl (isA_R hv1)) ?_
      refine Eq.trans (q_iload_n dX0_closeTerm_73 (mk0 rfl) rfl) ?_
      refine Eq.trans (q_put (ci := 7) (k := 1) (kd := 0) dX0_closeTerm_74 (mk0 rfl) rfl rfl (fun h => by cases h)) (bind_cg fun h74 => ?_)
      rfl
set_option maxRecDepth 20000 in
theorem bX0_closeTerm_77 {L : Nat} {xs : Nat → Int32} (d : Nat) (o : Nat) (v1 : Value) (i2 : Int32) (i3 : Int32) (hv1 : isR v1 = true) (ph : PH) : RS (ZZ L xs) (d + 1) mX0_closeTerm 77 [some (.ref o), some (v1), some (.int i2), some (.int i3)] [] ph = RS (ZZ L xs) (d + 1) mX0_closeTerm 44 [some (.ref o), some (v1), some (.int i2), some (.int (i3 + 1))] [] ph := by
  refine Eq.trans (q_iinc (v := 1) (lv2 := [some (.ref o), some (v1), some (.int i2), some (.int (i3 + 1))]) dX0_closeTerm_77 (mk0 rfl) rfl rfl rfl) ?_
  refine Eq.trans (q_goto (t := 44) dX0_closeTerm_80 (mk0 rfl) rfl) ?_
  rfl
set_option maxRecDepth 20000 in
theorem bX0_closeTerm_104 {L : Nat} {xs : Nat → Int32} (d : Nat) (u0 : Option Value) (v1 : Value) (u2 : Option Value) (u3 : Option Value) (hv1 : isR v1 = true) (ph : PH) : RS (ZZ L xs) (d + 1) mX0_closeTerm 104 [u0, some (v1), u2, u3] [] ph = (fR ph v1 7 6).bind fun x105 => (cV (ZZ L xs) d mJ7_fill_53178 [x105, .int 0] ph).bind fun p109 => some (p109, none) := by
  refine Eq.trans (q_aload_n dX0_closeTerm_104 (show mK mX0_closeTerm 104 [u0, some (v1), u2, u3] = [none, some (v1), none, none] from rfl) rfl (isA_R hv1)) ?_
  refine Eq.trans (q_getR (ci := 7) (k := 6) dX0_closeTerm_105 (mk0 rfl) rfl) (bind_cg2 fun x105 hx105 => ?_)
  have hx105 := fR_isR hx105
  refine Eq.trans (q_iconst (v := 0) dX0_closeTerm_108 (mk0 rfl) rfl) ?_
  refine Eq.trans (q_callS (as := [x105, .int 0]) dX0_closeTerm_109 (mk0 rfl) rfl (Or.inl rfl) rfl rfl (Nat.le_of_ble_eq_true rfl) (by simp [eA, ct_i, ct_l, ct_r, ct_n, ct_x, mJ7_fill_53178, (cat_R hx105)])) ?_
  refine Eq.trans (cV_bind rfl) (bind_cg fun p109 => ?_)
  show RS (ZZ L xs) (d + 1) mX0_closeTerm 112 [none, some (v1), none, none] [] p109 = _
  exact q_return dX0_closeTerm_112 (mk0 rfl) rfl
