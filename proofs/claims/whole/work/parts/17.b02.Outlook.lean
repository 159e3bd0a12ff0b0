set_option maxRecDepth 20000 in
theorem bX2_init_0 {L : Nat} {xs : Nat → Int32} (d : Nat) (o : Nat) (v1 : Value) (v2 : Value) (hv1 : isR v1 = true) (hv2 : isR v2 = true) (ph : PH) : RS (ZZ L xs) (d + 1) mX2_init 0 [some (.ref o), some (v1), some (v2), none] [] ph = (dR (.ref ph.length)).bind fun b9 => (cV (ZZ L xs) d mX7_init [.ref b9] (ph ++ [.inr (7, [.int 0, .int 0, .int 0, .long 0, .null, .null, .null, .null, .null, .null, .null])])).bind fun p9 => (fP p9 (.ref o) 2 2 (.ref ph.length)).bind fun h12 => (fP (h12 ++ [nwR 5 ((4 : Int32).toNatClampNeg)]) (.ref o) 2 3 (.ref h12.length)).bind fun h20 => (fP (h20 ++ [nwAr 0 64]) (.ref o) 2 4 (.ref h20.length)).bind fun h28 => (fP (h28 ++ [nwAr 0 64]) (.ref o) 2 5 (.ref h28.length)).bind fun h36 => (fP h36 (.ref o) 2 0 (v1)).bind fun h41 => (fP h41 (.ref o) 2 1 (v2)).bind fun h46 => RS (ZZ L xs) (d + 1) mX2_init 51 [some (.ref o), some (v1), some (v2), some (.int 0)] [] h46 := by
  refine Eq.trans (q_aload_n dX2_init_0 (mk0 rfl) rfl rfl) ?_
  refine Eq.trans (q_obj dX2_init_1 (mk0 rfl) rfl (Nat.le_of_ble_eq_true rfl)) ?_
  refine Eq.trans (q_aload_n dX2_init_4 (mk0 rfl) rfl rfl) ?_
  refine Eq.trans (q_new dX2_init_5 (mk0 rfl) rfl) ?_
  refine Eq.trans (q_dup dX2_init_8 (mk0 rfl) rfl) ?_
  refine Eq.trans (q_callI (as := []) dX2_init_9 (mk0 rfl) rfl (Or.inr rfl) rfl rfl (Nat.le_of_ble_eq_true rfl) (Nat.le_of_ble_eq_true rfl)) (bind_cg fun b9 => ?_)
  refine Eq.trans (cV_bind rfl) (bind_cg fun p9 => ?_)
  show RS (ZZ L xs) (d + 1) mX2_init 12 [some (.ref o), some (v1), some (v2), none] [.ref ph.length, .ref o] p9 = _
  refine Eq.trans (q_put (ci := 2) (k := 2) (kd := 2) dX2_init_12 (mk0 rfl) rfl rfl (fun _ => ⟨rfl, rfl⟩)) (bind_cg fun h12 => ?_)
  refine Eq.trans (q_aload_n dX2_init_15 (mk0 rfl) rfl rfl) ?_
  refine Eq.trans (q_iconst (v := 4) dX2_init_16 (mk0 rfl) rfl) ?_
  refine Eq.trans (q_anewarray (t := 5) dX2_init_17 (mk0 rfl) rfl ⟨by decide, by decide, by decide⟩) ?_
  refine Eq.trans (q_put (ci := 2) (k := 3) (kd := 2) dX2_init_20 (mk0 rfl) rfl rfl (fun _ => ⟨rfl, rfl⟩)) (bind_cg fun h20 => ?_)
  refine Eq.trans (q_aload_n dX2_init_23 (mk0 rfl) rfl rfl) ?_
  refine Eq.trans (q_bipush (v := 64) dX2_init_24 (mk0 rfl) rfl) ?_
  refine Eq.trans (q_newarray (t := 0) (e := nwAr 0 64) dX2_init_26 (mk0 rfl) (Or.inl ⟨rfl, rfl⟩) ⟨by decide, by decide⟩ rfl) ?_
  refine Eq.trans (q_put (ci := 2) (k := 4) (kd := 2) dX2_init_28 (mk0 rfl) rfl rfl (fun _ => ⟨rfl, rfl⟩)) (bind_cg fun h28 => ?_)
  refine Eq.trans (q_aload_n dX2_init_31 (mk0 rfl) rfl rfl) ?_
  refine Eq.trans (q_bipush (v := 64) dX2_init_32 (mk0 rfl) rfl) ?_
  refine Eq.trans (q_newarray (t := 0) (e := nwAr 0 64) dX2_init_34 (mk0 rfl) (Or.inl ⟨rfl, rfl⟩) ⟨by decide, by decide⟩ rfl) ?_
  refine Eq.trans (q_put (ci := 2) (k := 5) (kd := 2) dX2_init_36 (mk0 rfl) rfl rfl (fun _ => ⟨rfl, rfl⟩)) (bind_cg fun h36 => ?_)
  refine Eq.trans (q_aload_n dX2_init_39 (mk0 rfl) rfl rfl) ?_
  refine Eq.trans (q_aload_n dX2_init_40 (mk0 rfl) rfl (isA_R hv1)) ?_
  refine Eq.trans (q_put (ci := 2) (k := 0) (kd := 2) dX2_init_41 (mk0 rfl) rfl (kV_2 hv1) (fun _ => ⟨rfl, rfl⟩)) (bind_cg fun h41 => ?_)
  refine Eq.trans (q_aload_n dX2_init_44 (mk0 rfl) rfl rfl) ?_
  refine Eq.trans (q_aload_n dX2_init_45 (mk0 rfl) rfl (isA_R hv2)) ?_
  refine Eq.trans (q_put (ci := 2) (k := 1) (kd := 2) dX2_init_46 (mk0 rfl) rfl (kV_2 hv2) (fun _ => ⟨rfl, rfl⟩)) (bind_cg fun h46 => ?_)
  refine Eq.trans (q_iconst (v := 0) dX2_init_49 (mk0 rfl) rfl) ?_
  refine Eq.trans (q_istore_n (lv2 := [some (.ref o), some (v1), some (v2), some (.int 0)]) dX2_init_50 (mk0 rfl) (Nat.le_of_ble_eq_true rfl) (by simp [s1, s2, s0, (cat_R hv2)] <;> rfl)) ?_
  rfl
set_option maxRecDepth 20000 in
theorem bX2_init_51 {L : Nat} {xs : Nat → Int32} (d : Nat) (o : Nat) (u1 : Option Value) (u2 : Option Value) (i3 : Int32) (ph : PH) : RS (ZZ L xs) (d + 1) mX2_init 51 [some (.ref o), u1, u2, some (.int i3)] [] ph = if (3 : Int32) < i3 then some (ph, none) else (fR ph (.ref o) 2 3).bind fun x57 => (dR (.ref ph.length)).bind fun b65 => (cV (ZZ L xs) d mX7_init [.ref b65] (ph ++ [.inr (7, [.int 0, .int 0, .int 0, .long 0, .null, .null, .null, .null, .null, .null, .null])])).bind fun p65 => (wR p65 x57 i3 (.ref ph.length)).bind fun h68 => RS (ZZ L xs) (d + 1) mX2_init 51 [some (.ref o), none, none, some (.int (i3 + 1))] [] h68 := by
  refine Eq.trans (q_iload_n dX2_init_51 (show mK mX2_init 51 [some (.ref o), u1, u2, some (.int i3)] = [some (.ref o), none, none, some (.int i3)] from rfl) rfl) ?_
  refine Eq.trans (q_iconst (v := 3) dX2_init_52 (mk0 rfl) rfl) ?_
  refine Eq.trans (q_icmp_gt (t := 75) dX2_init_53 (mk0 rfl) rfl) (ite_cg ?_ ?_)
  · exact q_return dX2_init_75 (mk0 rfl) rfl
  · refine Eq.trans (q_aload_n dX2_init_56 (mk0 rfl) rfl rfl) ?_
    refine Eq.trans (q_getR (ci := 2) (k := 3) dX2_init_57 (mk0 rfl) rfl) (bind_cg2 fun x57 hx57 => ?_)
    have hx57 := fR_isR hx57
    refine Eq.trans (q_iload_n dX2_init_60 (mk0 rfl) rfl) ?_
    refine Eq.trans (q_new dX2_init_61 (mk0 rfl) rfl) ?_
    refine Eq.trans (q_dup dX2_init_64 (mk0 rfl) rfl) ?_
    refine Eq.trans (q_callI (as := []) dX2_init_65 (mk0 rfl) rfl (Or.inr rfl) rfl rfl (by simp [catS, ct_i, ct_l, ct_r, ct_n, ct_x, (cat_R hx57)]) (Nat.le_of_ble_eq_true rfl)) (bind_cg fun b65 => ?_)
    refine Eq.trans (cV_bind rfl) (bind_cg fun p65 => ?_)
    show RS (ZZ L xs) (d + 1) mX2_init 68 [some (.ref o), none, none, some (.int i3)] [.ref ph.length, .int i3, x57] p65 = _
    refine Eq.trans (q_aastore dX2_init_68 (mk0 rfl)) (bind_cg fun h68 => ?_)
    refine Eq.trans (q_iinc (v := 1) (lv2 := [some (.ref o), none, none, some (.int (i3 + 1))]) dX2_init_69 (mk0 rfl) rfl rfl rfl) ?_
    refine Eq.trans (q_goto (t := 51) dX2_init_72 (mk0 rfl) rfl) ?_
    rfl
set_option maxRecDepth 20000 in
theorem bX2_after_0 {L : Nat} {xs : Nat → Int32} (d : Nat) (o : Nat) (i1 : Int32) (ph : PH) : RS (ZZ L xs) (d + 1) mX2_after 0 [some (.ref o), some (.int i1)] [] ph = (fR ph (.ref o) 2 2).bind fun x1 => (fR ph (.ref o) 2 0).bind fun x5 => (fR ph x5 6 1).bind fun x8 => (iO ph x1 7).bind fun b11 => (cV (ZZ L xs) d mX7_copyFrom [.ref b11, x8] ph).bind fun p11 => (fR p11 (.ref o) 2 1).bind fun x15 => (fR p11 (.ref o) 2 2).bind fun x19 => (iO p11 x15 0).bind fun b23 => (cV (ZZ L xs) d mX0_run [.ref b23, x19, .int i1] p11).bind fun p23 => (fR p23 (.ref o) 2 2).bind fun x27 => some (p23, some (x27)) := by
  refine Eq.trans (q_aload_n dX2_after_0 (mk0 rfl) rfl rfl) ?_
  refine Eq.trans (q_getR (ci := 2) (k := 2) dX2_after_1 (mk0 rfl) rfl) (bind_cg2 fun x1 hx1 => ?_)
  have hx1 := fR_isR hx1
  refine Eq.trans (q_aload_n dX2_after_4 (mk0 rfl) rfl rfl) ?_
  refine Eq.trans (q_getR (ci := 2) (k := 0) dX2_after_5 (mk0 rfl) rfl) (bind_cg2 fun x5 hx5 => ?_)
  have hx5 := fR_isR hx5
  refine Eq.trans (q_getR (ci := 6) (k := 1) dX2_after_8 (mk0 rfl) rfl) (bind_cg2 fun x8 hx8 => ?_)
  have hx8 := fR_isR hx8
  refine Eq.trans (q_callV (as := [x8]) dX2_after_11 (mk0 rfl) rfl rfl rfl (Nat.le_of_ble_eq_true rfl) (by simp [eA, ct_i, ct_l, ct_r, ct_n, ct_x, mX7_copyFrom, (cat_R hx8)])) (bind_cg fun b11 => ?_)
  refine Eq.trans (cV_bind rfl) (bind_cg fun p11 => ?_)
  show RS (ZZ L xs) (d + 1) mX2_after 14 [some (.ref o), some (.int i1)] [] p11 = _
  refine Eq.trans (q_aload_n dX2_after_14 (mk0 rfl) rfl rfl) ?_
  refine Eq.trans (q_getR (ci := 2) (k := 1) dX2_after_15 (mk0 rfl) rfl) (bind_cg2 fun x15 hx15 => ?_)
  have hx15 := fR_isR hx15
  refine Eq.trans (q_aload_n dX2_after_18 (mk0 rfl) rfl rfl) ?_
  refine Eq.trans (q_getR (ci := 2) (k := 2) dX2_after_19 (mk0 rfl) rfl) (bind_cg2 fun x19 hx19 => ?_)
  have hx19 := fR_isR hx19
  refine Eq.trans (q_iload_n dX2_after_22 (mk0 rfl) rfl) ?_
  refine Eq.trans (q_callV (as := [x19, .int i1]) dX2_after_23 (mk0 rfl) rfl rfl rfl (Nat.le_of_ble_eq_true rfl) (by simp [eA, ct_i, ct_l, ct_r, ct_n, ct_x, mX0_run, (cat_R hx19)])) (bind_cg fun b23 => ?_)
  refine Eq.trans (cV_bind rfl) (bind_cg fun p23 => ?_)
  show RS (ZZ L xs) (d + 1) mX2_after 26 [some (.ref o), some (.int i1)] [] p23 = _
  refine Eq.trans (q_aload_n dX2_after_26 (mk0 rfl) rfl rfl) ?_
  refine Eq.trans (q_getR (ci := 2) (k := 2) dX2_after_27 (mk0 rfl) rfl) (bind_cg2 fun x27 hx27 => ?_)
  have hx27 := fR_isR hx27
  exact q_areturn dX2_after_30 (mk0 rfl) rfl (isA_R hx27)
set_option maxRecDepth 20000 in
theorem bX2_firstChain_0 {L : Nat} {xs : Nat → Int32} (d : Nat) (o : Nat) (i1 : Int32) (ph : PH) : RS (ZZ L xs) (d + 1) mX2_firstChain 0 [some (.ref o), some (.int i1), none] [] ph = (fR ph (.ref o) 2 2).bind fun x1 => (fR ph (.ref o) 2 0).bind fun x5 => (fR ph x5 6 1).bind fun x8 => (iO ph x1 7).bind fun b11 => (cV (ZZ L xs) d mX7_copyFrom [.ref b11, x8] ph).bind fun p11 => RS (ZZ L xs) (d + 1) mX2_firstChain 16 [some (.ref o), some (.int i1), some (.int 0)] [] p11 := by
  refine Eq.trans (q_aload_n dX2_firstChain_0 (mk0 rfl) rfl rfl) ?_
  refine Eq.trans (q_getR (ci := 2) (k := 2) dX2_firstChain_1 (mk0 rfl) rfl) (bind_cg2 fun x1 hx1 => ?_)
  have hx1 := fR_isR hx1
  refine Eq.trans (q_aload_n dX2_firstChain_4 (mk0 rfl) rfl rfl) ?_
  refine Eq.trans (q_getR (ci := 2) (k := 0) dX2_firstChain_5 (mk0 rfl) rfl) (bind_cg2 fun x5 hx5 => ?_)
  have hx5 := fR_isR hx5
  refine Eq.trans (q_getR (ci := 6) (k := 1) dX2_firstChain_8 (mk0 rfl) rfl) (bind_cg2 fun x8 hx8 => ?_)
  have hx8 := fR_isR hx8
  refine Eq.trans (q_callV (as := [x8]) dX2_firstChain_11 (mk0 rfl) rfl rfl rfl (Nat.le_of_ble_eq_true rfl) (by simp [eA, ct_i, ct_l, ct_r, ct_n, ct_x, mX7_copyFrom, (cat_R hx8)])) (bind_cg fun b11 => ?_)
  refine Eq.trans (cV_bind rfl) (bind_cg fun p11 => ?_)
  show RS (ZZ L xs) (d + 1) mX2_firstChain 14 [some (.ref o), some (.int i1), none] [] p11 = _
  refine Eq.trans (q_iconst (v := 0) dX2_firstChain_14 (mk0 rfl) rfl) ?_
  refine Eq.trans (q_istore_n (lv2 := [some (.ref o), some (.int i1), some (.int 0)]) dX2_firstChain_15 (mk0 rfl) (Nat.le_of_ble_eq_true rfl) rfl) ?_
  rfl
set_option maxRecDepth 20000 in
theorem bX2_firstChain_16 {L : Nat} {xs : Nat → Int32} (d : Nat) (o : Nat) (i1 : Int32) (i2 : Int32) (ph : PH) : RS (ZZ L xs) (d + 1) mX2_firstChain 16 [some (.ref o), some (.int i1), some (.int i2)] [] ph = if (100 : Int32) ≤ i2 then some (ph, some (.int ((-2)))) else (fR ph (.ref o) 2 2).bind fun x23 => (fI ph x23 7 1).bind fun x26 => if ¬ (x26 : Int32) = i1 then (fR ph (.ref o) 2 1).bind fun x42 => (fR ph (.ref o) 2 2).bind fun x46 => (iO ph x42 0).bind fun b49 => (cI (ZZ L xs) d mX0_pass [.ref b49, x46] ph).bind fun p49 => RS (ZZ L xs) (d + 1) mX2_firstChain 16 [some (.ref o), some (.int i1), some (.int (i2 + 1))] [] p49.1 else (fR ph (.ref o) 2 2).bind fun x34 => (fI ph x34 7 0).bind fun x37 => some (ph, some (.int x37)) := by
  refine Eq.trans (q_iload_n dX2_firstChain_16 (mk0 rfl) rfl) ?_
  refine Eq.trans (q_bipush (v := 100) dX2_firstChain_17 (mk0 rfl) rfl) ?_
  refine Eq.trans (q_icmp_ge (t := 59) dX2_firstChain_19 (mk0 rfl) rfl) (ite_cg ?_ ?_)
  · refine Eq.trans (q_bipush (v := (-2)) dX2_firstChain_59 (mk0 rfl) rfl) ?_
    exact q_ireturn dX2_firstChain_61 (mk0 rfl) rfl
  · refine Eq.trans (q_aload_n dX2_firstChain_22 (mk0 rfl) rfl rfl) ?_
    refine Eq.trans (q_getR (ci := 2) (k := 2) dX2_firstChain_23 (mk0 rfl) rfl) (bind_cg2 fun x23 hx23 => ?_)
    have hx23 := fR_isR hx23
    refine Eq.trans (q_getI (ci := 7) (k := 1) dX2_firstChain_26 (mk0 rfl) rfl) (bind_cg fun x26 => ?_)
    refine Eq.trans (q_iload_n dX2_firstChain_29 (mk0 rfl) rfl) ?_
    refine Eq.trans (q_icmp_ne (t := 41) dX2_firstChain_30 (mk0 rfl) rfl) (ite_cg ?_ ?_)
    · refine Eq.trans (q_aload_n dX2_firstChain_41 (mk0 rfl) rfl rfl) ?_
      refine Eq.trans (q_getR (ci := 2) (k := 1) dX2_firstChain_42 (mk0 rfl) rfl) (bind_cg2 fun x42 hx42 => ?_)
      have hx42 := fR_isR hx42
      refine Eq.trans (q_aload_n dX2_firstChain_45 (mk0 rfl) rfl rfl) ?_
      refine Eq.trans (q_getR (ci := 2) (k := 2) dX2_firstChain_46 (mk0 rfl) rfl) (bind_cg2 fun x46 hx46 => ?_)
      have hx46 := fR_isR hx46
      refine Eq.trans (q_callV (as := [x46]) dX2_firstChain_49 (mk0 rfl) rfl rfl rfl (Nat.le_of_ble_eq_true rfl) (by simp [eA, ct_i, ct_l, ct_r, ct_n, ct_x, mX0_pass, (cat_R hx46)])) (bind_cg fun b49 => ?_)
      refine Eq.trans (cI_bind (Or.inl rfl)) (bind_cg fun p49 => ?_)
      show RS (ZZ L xs) (d + 1) mX2_firstChain 52 [some (.ref o), some (.int i1), some (.int i2)] [.int p49.2] p49.1 = _
      refine Eq.trans (q_pop dX2_firstChain_52 (mk0 rfl) rfl) ?_
      refine Eq.trans (q_iinc (v := 1) (lv2 := [some (.ref o), some (.int i1), some (.int (i2 + 1))]) dX2_firstChain_53 (mk0 rfl) rfl rfl rfl) ?_
      refine Eq.trans (q_goto (t := 16) dX2_firstChain_56 (mk0 rfl) rfl) ?_
      rfl
    · refine Eq.trans (q_aload_n dX2_firstChain_33 (mk0 rfl) rfl rfl) ?_
      refine Eq.trans (q_getR (ci := 2) (k := 2) dX2_firstChain_34 (mk0 rfl) rfl) (bind_cg2 fun x34 hx34 => ?_)
      have hx34 := fR_isR hx34
      refine Eq.trans (q_getI (ci := 7) (k := 0) dX2_firstChain_37 (mk0 rfl) rfl) (bind_cg fun x37 => ?_)
      exact q_ireturn dX2_firstChain_40 (mk0 rfl) rfl
set_option maxRecDepth 20000 in
theorem bX2_bestPitch_0 {L : Nat} {xs : Nat → Int32} (d : Nat) (o : Nat) (i1 : Int32) (i2 : Int32) (i3 : Int32) (ph : PH) : RS (ZZ L xs) (d + 1) mX2_bestPitch 0 [some (.ref o), some (.int i1), some (.int i2), some (.int i3), none, none, none, none] [] ph = RS (ZZ L xs) (d + 1) mX2_bestPitch 9 [some (.ref o), some (.int i1), some (.int i2), some (.int i3), some (.int ((-1))), some (.int ((-1))), some (.int 0), none] [] ph := by
  refine Eq.trans (q_iconst (v := (-1)) dX2_bestPitch_0 (mk0 rfl) rfl) ?_
  refine Eq.trans (q_istore (lv2 := [some (.ref o), some (.int i1), some (.int i2), some (.int i3), some (.int ((-1))), none, none, none]) dX2_bestPitch_1 (mk0 rfl) (Nat.le_of_ble_eq_true rfl) rfl) ?_
  refine Eq.trans (q_iconst (v := (-1)) dX2_bestPitch_3 (mk0 rfl) rfl) ?_
  refine Eq.trans (q_istore (lv2 := [some (.ref o), some (.int i1), some (.int i2), some (.int i3), some (.int ((-1))), some (.int ((-1))), none, none]) dX2_bestPitch_4 (mk0 rfl) (Nat.le_of_ble_eq_true rfl) rfl) ?_
  refine Eq.trans (q_iconst (v := 0) dX2_bestPitch_6 (mk0 rfl) rfl) ?_
  refine Eq.trans (q_istore (lv2 := [some (.ref o), some (.int i1), some (.int i2), some (.int i3), some (.int ((-1))), some (.int ((-1))), some (.int 0), none]) dX2_bestPitch_7 (mk0 rfl) (Nat.le_of_ble_eq_true rfl) rfl) ?_
  rfl
set_option maxRecDepth 20000 in
theorem bX2_bestPitch_9 {L : Nat} {xs : Nat → Int32} (d : Nat) (o : Nat) (i1 : Int32) (i2 : Int32) (i3 : Int32) (i4 : Int32) (i5 : Int32) (i6 : Int32) (u7 : Option Value) (ph : PH) : RS (ZZ L xs) (d + 1) mX2_bestPitch 9 [some (.ref o), some (.int i1), some (.int i2), some (.int i3), some (.int i4), some (.int i5), some (.int i6), u7] [] ph = (fR ph (.ref o) 2 0).bind fun x12 => (fR ph x12 6 0).bind fun x15 => (fI ph x15 9 0).bind fun x18 => if (x18 : Int32) ≤ i6 then if ¬ (i3 : Int32) = 0 then RS (ZZ L xs) (d + 1) mX2_bestPitch 117 [some (.ref o), some (.int i1), some (.int i2), some (.int i3), some (.int i4), some (.int i5), some (.int i6), none] [.int i5] ph else RS (ZZ L xs) (d + 1) mX2_bestPitch 117 [some (.ref o), some (.int i1), some (.int i2), some (.int i3), some (.int i4), some (.int i5), some (.int i6), none] [.int i4] ph else (fR ph (.ref o) 2 2).bind fun x25 => (fR ph (.ref o) 2 0).bind fun x29 => (fR ph x29 6 1).bind fun x32 => (iO ph x25 7).bind fun b35 => (cV (ZZ L xs) d mX7_copyFrom [.ref b35, x32] ph).bind fun p35 => (fR p35 (.ref o) 2 2).bind fun x39 => (fR p35 x39 7 4).bind fun x42 => (wI p35 x42 i1 i6).bind fun h48 => (fR h48 (.ref o) 2 1).bind fun x50 => (fR h48 (.ref o) 2 2).bind fun x54 => (iO h48 x50 0).bind fun b58 => (cV (ZZ L xs) d mX0_run [.ref b58, x54, .int i2] h48).bind fun p58 => (fR p58 (.ref o) 2 2).bind fun x62 => (fR p58 x62 7 7).bind fun x65 => (eI p58 x65 i1).bind fun x69 => (fR p58 (.ref o) 2 0).bind fun x71 => (fR p58 x71 6 1).bind fun x74 => (fR p58 x74 7 7).bind fun x77 => (eI p58 x77 i1).bind fun x81 => if (x69 - x81 : Int32) ≤ i5 then RS (ZZ L xs) (d + 1) mX2_bestPitch 100 [some (.ref o), some (.int i1), some (.int i2), some (.int i3), some (.int i4), some (.int i5), some (.int i6), some (.int (x69 - x81))] [] p58 else RS (ZZ L xs) (d + 1) mX2_bestPitch 100 [some (.ref o), some (.int i1), some (.int i2), some (.int i3), some (.int i6), some (.int (x69 - x81)), some (.int i6), some (.int (x69 - x81))] [] p58 := by
  refine Eq.trans (q_iload dX2_bestPitch_9 (show mK mX2_bestPitch 9 [some (.ref o), some (.int i1), some (.int i2), some (.int i3), some (.int i4), some (.int i5), some (.int i6), u7] = [some (.ref o), some (.int i1), some (.int i2), some (.int i3), some (.int i4), some (.int i5), some (.int i6), none] from rfl) rfl) ?_
  refine Eq.trans (q_aload_n dX2_bestPitch_11 (mk0 rfl) rfl rfl) ?_
  refine Eq.trans (q_getR (ci := 2) (k := 0) dX2_bestPitch_12 (mk0 rfl) rfl) (bind_cg2 fun x12 hx12 => ?_)
  have hx12 := fR_isR hx12
  refine Eq.trans (q_getR (ci := 6) (k := 0) dX2_bestPitch_15 (mk0 rfl) rfl) (bind_cg2 fun x15 hx15 => ?_)
  have hx15 := fR_isR hx15
  refine Eq.trans (q_getI (ci := 9) (k := 0) dX2_bestPitch_18 (mk0 rfl) rfl) (bind_cg fun x18 => ?_)
  refine Eq.trans (q_icmp_ge (t := 106) dX2_bestPitch_21 (mk0 rfl) rfl) (ite_cg ?_ ?_)
  · refine Eq.trans (q_iload_n dX2_bestPitch_106 (mk0 rfl) rfl) ?_
    refine Eq.trans (q_if_ne (t := 115) dX2_bestPitch_107 (mk0 rfl) rfl) (ite_cg ?_ ?_)
    · refine Eq.trans (q_iload dX2_bestPitch_115 (mk0 rfl) rfl) ?_
      rfl
    · refine Eq.trans (q_iload dX2_bestPitch_110 (mk0 rfl) rfl) ?_
      refine Eq.trans (q_goto (t := 117) dX2_bestPitch_112 (mk0 rfl) rfl) ?_
      rfl
  · refine Eq.trans (q_aload_n dX2_bestPitch_24 (mk0 rfl) rfl rfl) ?_
    refine Eq.trans (q_getR (ci := 2) (k := 2) dX2_bestPitch_25 (mk0 rfl) rfl) (bind_cg2 fun x25 hx25 => ?_)
    have hx25 := fR_isR hx25
    refine Eq.trans (q_aload_n dX2_bestPitch_28 (mk0 rfl) rfl rfl) ?_
    refine Eq.trans (q_getR (ci := 2) (k := 0) dX2_bestPitch_29 (mk0 rfl) rfl) (bind_cg2 fun x29 hx29 => ?_)
    have hx29 := fR_isR hx29
    refine Eq.trans (q_getR (ci := 6) (k := 1) dX2_bestPitch_32 (mk0 rfl) rfl) (bind_cg2 fun x32 hx32 => ?_)
    have hx32 := fR_isR hx32
    refine Eq.trans (q_callV (as := [x32]) dX2_bestPitch_35 (mk0 rfl) rfl rfl rfl (Nat.le_of_ble_eq_true rfl) (by simp [eA, ct_i, ct_l, ct_r, ct_n, ct_x, mX7_copyFrom, (cat_R hx32)])) (bind_cg fun b35 => ?_)
    refine Eq.trans (cV_bind rfl) (bind_cg fun p35 => ?_)
    show RS (ZZ L xs) (d + 1) mX2_bestPitch 38 [some (.ref o), some (.int i1), some (.int i2), some (.int i3), some (.int i4), some (.int i5), some (.int i6), none] [] p35 = _
    refine Eq.trans (q_aload_n dX2_bestPitch_38 (mk0 rfl) rfl rfl) ?_
    refine Eq.trans (q_getR (ci := 2) (k := 2) dX2_bestPitch_39 (mk0 rfl) rfl) (bind_cg2 fun x39 hx39 => ?_)
    have hx39 := fR_isR hx39
    refine Eq.trans (q_getR (ci := 7) (k := 4) dX2_bestPitch_42 (mk0 rfl) rfl) (bind_cg2 fun x42 hx42 => ?_)
    have hx42 := fR_isR hx42
    refine Eq.trans (q_iload_n dX2_bestPitch_45 (mk0 rfl) rfl) ?_
    refine Eq.trans (q_iload dX2_bestPitch_46 (mk0 rfl) rfl) ?_
    refine Eq.trans (q_iastore dX2_bestPitch_48 (mk0 rfl)) (bind_cg fun h48 => ?_)
    refine Eq.trans (q_aload_n dX2_bestPitch_49 (mk0 rfl) rfl rfl) ?_
    refine Eq.trans (q_getR (ci := 2) (k := 1) dX2_bestPitch_50 (mk0 rfl) rfl) (bind_cg2 fun x50 hx50 => ?_)
    have hx50 := fR_isR hx50
    refine Eq.trans (q_aload_n dX2_bestPitch_53 (mk0 rfl) rfl rfl) ?_
    refine Eq.trans (q_getR (ci := 2) (k := 2) dX2_bestPitch_54 (mk0 rfl) rfl) (bind_cg2 fun x54 hx54 => ?_)
    have hx54 := fR_isR hx54
    refine Eq.trans (q_iload_n dX2_bestPitch_57 (mk0 rfl) rfl) ?_
    refine Eq.trans (q_callV (as := [x54, .int i2]) dX2_bestPitch_58 (mk0 rfl) rfl rfl rfl (Nat.le_of_ble_eq_true rfl) (by simp [eA, ct_i, ct_l, ct_r, ct_n, ct_x, mX0_run, (cat_R hx54)])) (bind_cg fun b58 => ?_)
    refine Eq.trans (cV_bind rfl) (bind_cg fun p58 => ?_)
    show RS (ZZ L xs) (d + 1) mX2_bestPitch 61 [some (.ref o), some (.int i1), some (.int i2), some (.int i3), some (.int i4), some (.int i5), some (.int i6), none] [] p58 = _
    refine Eq.trans (q_aload_n dX2_bestPitch_61 (mk0 rfl) rfl rfl) ?_
    refine Eq.trans (q_getR (ci := 2) (k := 2) dX2_bestPitch_62 (mk0 rfl) rfl) (bind_cg2 fun x62 hx62 => ?_)
    have hx62 := fR_isR hx62
    refine Eq.trans (q_getR (ci := 7) (k := 7) dX2_bestPitch_65 (mk0 rfl) rfl) (bind_cg2 fun x65 hx65 => ?_)
    have hx65 := fR_isR hx65
    refine Eq.trans (q_iload_n dX2_bestPitch_68 (mk0 rfl) rfl) ?_
    refine Eq.trans (q_iaload dX2_bestPitch_69 (mk0 rfl) (no_ext hx65)) (bind_cg fun x69 => ?_)
    refine Eq.trans (q_aload_n dX2_bestPitch_70 (mk0 rfl) rfl rfl) ?_
    refine Eq.trans (q_getR (ci := 2) (k := 0) dX2_bestPitch_71 (mk0 rfl) rfl) (bind_cg2 fun x71 hx71 => ?_)
    have hx71 := fR_isR hx71
    refine Eq.trans (q_getR (ci := 6) (k := 1) dX2_bestPitch_74 (mk0 rfl) rfl) (bind_cg2 fun x74 hx74 => ?_)
    have hx74 := fR_isR hx74
    refine Eq.trans (q_getR (ci := 7) (k := 7) dX2_bestPitch_77 (mk0 rfl) rfl) (bind_cg2 fun x77 hx77 => ?_)
    have hx77 := fR_isR hx77
    refine Eq.trans (q_iload_n dX2_bestPitch_80 (mk0 rfl) rfl) ?_
    refine Eq.trans (q_iaload dX2_bestPitch_81 (mk0 rfl) (no_ext hx77)) (bind_cg fun x81 => ?_)
    refine Eq.trans (q_isub dX2_bestPitch_82 (mk0 rfl)) ?_
    refine Eq.trans (q_istore (lv2 := [some (.ref o), some (.int i1), some (.int i2), some (.int i3), some (.int i4), some (.int i5), some (.int i6), some (.int (x69 - x81))]) dX2_bestPitch_83 (mk0 rfl) (Nat.le_of_ble_eq_true rfl) rfl) ?_
    refine Eq.trans (q_iload dX2_bestPitch_85 (mk0 rfl) rfl) ?_
    refine Eq.trans (q_iload dX2_bestPitch_87 (mk0 rfl) rfl) ?_
    refine Eq.trans (q_icmp_le (t := 100) dX2_bestPitch_89 (mk0 rfl) rfl) (ite_cg ?_ ?_)
    · rfl
    · refine Eq.trans (q_iload dX2_bestPitch_92 (mk0 rfl) rfl) ?_
      refine Eq.trans (q_istore (lv2 := [some (.ref o), some (.int i1), some (.int i2), some (.int i3), some (.int i4), some (.int (x69 - x81)), some (.int i6), some (.int (x69 - x81))]) dX2_bestPitch_94 (mk0 rfl) (Nat.le_of_ble_eq_true rfl) rfl) ?_
      refine Eq.trans (q_iload dX2_bestPitch_96 (mk0 rfl) rfl) ?_
      refine Eq.trans (q_istore (lv2 := [some (.ref o), some (.int i1), some (.int i2), some (.int i3), some (.int i6), some (.int (x69 - x81)), some (.int i6), some (.int (x69 - x81))]) dX2_bestPitch_98 (mk0 rfl) (Nat.le_of_ble_eq_true rfl) rfl) ?_
      rfl
set_option maxRecDepth 20000 in
theorem bX2_bestPitch_100 {L : Nat} {xs : Nat → Int32} (d : Nat) (o : Nat) (i1 : Int32) (i2 : Int32) (i3 : Int32) (i4 : Int32) (i5 : Int32) (i6 : Int32) (u7 : Option Value) (ph : PH) : RS (ZZ L xs) (d + 1) mX2_bestPitch 100 [some (.ref o), some (.int i1), some (.int i2), some (.int i3), some (.int i4), some (.int i5), some (.int i6), u7] [] ph = RS (ZZ L xs) (d + 1) mX2_bestPitch 9 [some (.ref o), some (.int i1), some (.int i2), some (.int i3), some (.int i4), some (.int i5), some (.int (i6 + 1)), none] [] ph := by
  refine Eq.trans (q_iinc (v := 1) (lv2 := [some (.ref o), some (.int i1), some (.int i2), some (.int i3), some (.int i4), some (.int i5), some (.int (i6 + 1)), none]) dX2_bestPitch_100 (show mK mX2_bestPitch 100 [some (.ref o), some (.int i1), some (.int i2), some (.int i3), some (.int i4), some (.int i5), some (.int i6), u7] = [some (.ref o), some (.int i1), some (.int i2), some (.int i3), some (.int i4), some (.int i5), some (.int i6), none] from rfl) rfl rfl rfl) ?_
  refine Eq.trans (q_goto (t := 9) dX2_bestPitch_103 (mk0 rfl) rfl) ?_
  rfl
set_option maxRecDepth 20000 in
theorem bX2_bestPitch_117 {L : Nat} {xs : Nat → Int32} (d : Nat) (u0 : Option Value) (u1 : Option Value) (u2 : Option Value) (u3 : Option Value) (u4 : Option Value) (u5 : Option Value) (u6 : Option Value) (u7 : Option Value) (t0 : Int32) (ph : PH) : RS (ZZ L xs) (d + 1) mX2_bestPitch 117 [u0, u1, u2, u3, u4, u5, u6, u7] [.int t0] ph = some (ph, some (.int t0)) := by
  exact q_ireturn dX2_bestPitch_117 (show mK mX2_bestPitch 117 [u0, u1, u2, u3, u4, u5, u6, u7] = [none, none, none, none, none, none, none, none] from rfl) rfl
set_option maxRecDepth 20000 in
theorem bX2_leastSmile_0 {L : Nat} {xs : Nat → Int32} (d : Nat) (o : Nat) (i1 : Int32) (i2 : Int32) (ph : PH) : RS (ZZ L xs) (d + 1) mX2_leastSmile 0 [some (.ref o), some (.int i1), some (.int i2), none] [] ph = RS (ZZ L xs) (d + 1) mX2_leastSmile 2 [some (.ref o), some (.int i1), some (.int i2), some (.int 0)] [] ph := by
  refine Eq.trans (q_iconst (v := 0) dX2_leastSmile_0 (mk0 rfl) rfl) ?_
  refine Eq.trans (q_istore_n (lv2 := [some (.ref o), some (.int i1), some (.int i2), some (.int 0)]) dX2_leastSmile_1 (mk0 rfl) (Nat.le_of_ble_eq_true rfl) rfl) ?_
  rfl
set_option maxRecDepth 20000 in
theorem bX2_leastSmile_2 {L : Nat} {xs : Nat → Int32} (d : Nat) (o : Nat) (i1 : Int32) (i2 : Int32) (i3 : Int32) (ph : PH) : RS (ZZ L xs) (d + 1) mX2_leastSmile 2 [some (.ref o), some (.int i1), some (.int i2), some (.int i3)] [] ph = if (9 : Int32) < i3 then some (ph, some (.int ((-2)))) else (fR ph (.ref o) 2 2).bind fun x9 => (fR ph (.ref o) 2 0).bind fun x13 => (fR ph x13 6 1).bind fun x16 => (iO ph x9 7).bind fun b19 => (cV (ZZ L xs) d mX7_copyFrom [.ref b19, x16] ph).bind fun p19 => (fR p19 (.ref o) 2 2).bind fun x23 => (fR p19 x23 7 5).bind fun x26 => (wI p19 x26 i1 i3).bind fun h31 => (fR h31 (.ref o) 2 1).bind fun x33 => (fR h31 (.ref o) 2 2).bind fun x37 => (iO h31 x33 0).bind fun b41 => (cV (ZZ L xs) d mX0_run [.ref b41, x37, .int i2] h31).bind fun p41 => (fR p41 (.ref o) 2 2).bind fun x45 => (fI p41 x45 7 1).bind fun x48 => if ¬ (x48 : Int32) = i1 then RS (ZZ L xs) (d + 1) mX2_leastSmile 2 [some (.ref o), some (.int i1), some (.int i2), some (.int (i3 + 1))] [] p41 else some (p41, some (.int i3)) := by
  refine Eq.trans (q_iload_n dX2_leastSmile_2 (mk0 rfl) rfl) ?_
  refine Eq.trans (q_bipush (v := 9) dX2_leastSmile_3 (mk0 rfl) rfl) ?_
  refine Eq.trans (q_icmp_gt (t := 63) dX2_leastSmile_5 (mk0 rfl) rfl) (ite_cg ?_ ?_)
  · refine Eq.trans (q_bipush (v := (-2)) dX2_leastSmile_63 (mk0 rfl) rfl) ?_
    exact q_ireturn dX2_leastSmile_65 (mk0 rfl) rfl
  · refine Eq.trans (q_aload_n dX2_leastSmile_8 (mk0 rfl) rfl rfl) ?_
    refine Eq.trans (q_getR (ci := 2) (k := 2) dX2_leastSmile_9 (mk0 rfl) rfl) (bind_cg2 fun x9 hx9 => ?_)
    have hx9 := fR_isR hx9
    refine Eq.trans (q_aload_n dX2_leastSmile_12 (mk0 rfl) rfl rfl) ?_
    refine Eq.trans (q_getR (ci := 2) (k := 0) dX2_leastSmile_13 (mk0 rfl) rfl) (bind_cg2 fun x13 hx13 => ?_)
    have hx13 := fR_isR hx13
    refine Eq.trans (q_getR (ci := 6) (k := 1) dX2_leastSmile_16 (mk0 rfl) rfl) (bind_cg2 fun x16 hx16 => ?_)
    have hx16 := fR_isR hx16
    refine Eq.trans (q_callV (as := [x16]) dX2_leastSmile_19 (mk0 rfl) rfl rfl rfl (Nat.le_of_ble_eq_true rfl) (by simp [eA, ct_i, ct_l, ct_r, ct_n, ct_x, mX7_copyFrom, (cat_R hx16)])) (bind_cg fun b19 => ?_)
    refine Eq.trans (cV_bind rfl) (bind_cg fun p19 => ?_)
    show RS (ZZ L xs) (d + 1) mX2_leastSmile 22 [some (.ref o), some (.int i1), some (.int i2), some (.int i3)] [] p19 = _
    refine Eq.trans (q_aload_n dX2_leastSmile_22 (mk0 rfl) rfl rfl) ?_
    refine Eq.trans (q_getR (ci := 2) (k := 2) dX2_leastSmile_23 (mk0 rfl) rfl) (bind_cg2 fun x23 hx23 => ?_)
    have hx23 := fR_isR hx23
    refine Eq.trans (q_getR (ci := 7) (k := 5) dX2_leastSmile_26 (mk0 rfl) rfl) (bind_cg2 fun x26 hx26 => ?_)
    have hx26 := fR_isR hx26
    refine Eq.trans (q_iload_n dX2_leastSmile_29 (mk0 rfl) rfl) ?_
    refine Eq.trans (q_iload_n dX2_leastSmile_30 (mk0 rfl) rfl) ?_
    refine Eq.trans (q_iastore dX2_leastSmile_31 (mk0 rfl)) (bind_cg fun h31 => ?_)
    refine Eq.trans (q_aload_n dX2_leastSmile_32 (mk0 rfl) rfl rfl) ?_
    refine Eq.trans (q_getR (ci := 2) (k := 1) dX2_leastSmile_33 (mk0 rfl) rfl) (bind_cg2 fun x33 hx33 => ?_)
    have hx33 := fR_isR hx33
    refine Eq.trans (q_aload_n dX2_leastSmile_36 (mk0 rfl) rfl rfl) ?_
    refine Eq.trans (q_getR (ci := 2) (k := 2) dX2_leastSmile_37 (mk0 rfl) rfl) (bind_cg2 fun x37 hx37 => ?_)
    have hx37 := fR_isR hx37
    refine Eq.trans (q_iload_n dX2_leastSmile_40 (mk0 rfl) rfl) ?_
    refine Eq.trans (q_callV (as := [x37, .int i2]) dX2_leastSmile_41 (mk0 rfl) rfl rfl rfl (Nat.le_of_ble_eq_true rfl) (by simp [eA, ct_i, ct_l, ct_r, ct_n, ct_x, mX0_run, (cat_R hx37)])) (bind_cg fun b41 => ?_)
    refine Eq.trans (cV_bind rfl) (bind_cg fun p41 => ?_)
    show RS (ZZ L xs) (d + 1) mX2_leastSmile 44 [some (.ref o), some (.int i1), some (.int i2), some (.int i3)] [] p41 = _
    refine Eq.trans (q_aload_n dX2_leastSmile_44 (mk0 rfl) rfl rfl) ?_
    refine Eq.trans (q_getR (ci := 2) (k := 2) dX2_leastSmile_45 (mk0 rfl) rfl) (bind_cg2 fun x45 hx45 => ?_)
    have hx45 := fR_isR hx45
    refine Eq.trans (q_getI (ci := 7) (k := 1) dX2_leastSmile_48 (mk0 rfl) rfl) (bind_cg fun x48 => ?_)
    refine Eq.trans (q_iload_n dX2_leastSmile_51 (mk0 rfl) rfl) ?_
    refine Eq.trans (q_icmp_ne (t := 57) dX2_leastSmile_52 (mk0 rfl) rfl) (ite_cg ?_ ?_)
    · refine Eq.trans (q_iinc (v := 1) (lv2 := [some (.ref o), some (.int i1), some (.int i2), some (.int (i3 + 1))]) dX2_leastSmile_57 (mk0 rfl) rfl rfl rfl) ?_
      refine Eq.trans (q_goto (t := 2) dX2_leastSmile_60 (mk0 rfl) rfl) ?_
      rfl
    · refine Eq.trans (q_iload_n dX2_leastSmile_55 (mk0 rfl) rfl) ?_
      exact q_ireturn dX2_leastSmile_56 (mk0 rfl) rfl
set_option maxRecDepth 20000 in
theorem bX2_cameFrom_0 {L : Nat} {xs : Nat → Int32} (d : Nat) (o : Nat) (i1 : Int32) (i2 : Int32) (i3 : Int32) (i4 : Int32) (ph : PH) : RS (ZZ L xs) (d + 1) mX2_cameFrom 0 [some (.ref o), some (.int i1), some (.int i2), some (.int i3), some (.int i4), none, none, none] [] ph = RS (ZZ L xs) (d + 1) mX2_cameFrom 10 [some (.ref o), some (.int i1), some (.int i2), some (.int i3), some (.int i4), some (.int 0), some (.int ((-2))), some (.int 0)] [] ph := by
  refine Eq.trans (q_iconst (v := 0) dX2_cameFrom_0 (mk0 rfl) rfl) ?_
  refine Eq.trans (q_istore (lv2 := [some (.ref o), some (.int i1), some (.int i2), some (.int i3), some (.int i4), some (.int 0), none, none]) dX2_cameFrom_1 (mk0 rfl) (Nat.le_of_ble_eq_true rfl) rfl) ?_
  refine Eq.trans (q_bipush (v := (-2)) dX2_cameFrom_3 (mk0 rfl) rfl) ?_
  refine Eq.trans (q_istore (lv2 := [some (.ref o), some (.int i1), some (.int i2), some (.int i3), some (.int i4), some (.int 0), some (.int ((-2))), none]) dX2_cameFrom_5 (mk0 rfl) (Nat.le_of_ble_eq_true rfl) rfl) ?_
  refine Eq.trans (q_iconst (v := 0) dX2_cameFrom_7 (mk0 rfl) rfl) ?_
  refine Eq.trans (q_istore (lv2 := [some (.ref o), some (.int i1), some (.int i2), some (.int i3), some (.int i4), some (.int 0), some (.int ((-2))), some (.int 0)]) dX2_cameFrom_8 (mk0 rfl) (Nat.le_of_ble_eq_true rfl) rfl) ?_
  rfl
set_option maxRecDepth 20000 in
theorem bX2_cameFrom_10 {L : Nat} {xs : Nat → Int32} (d : Nat) (o : Nat) (i1 : Int32) (i2 : Int32) (i3 : Int32) (i4 : Int32) (i5 : Int32) (i6 : Int32) (i7 : Int32) (ph : PH) : RS (ZZ L xs) (d + 1) mX2_cameFrom 10 [some (.ref o), some (.int i1), some (.int i2), some (.int i3), some (.int i4), some (.int i5), some (.int i6), some (.int i7)] [] ph = (fR ph (.ref o) 2 0).bind fun x13 => (fR ph x13 6 0).bind fun x16 => (fI ph x16 9 0).bind fun x19 => if (x19 : Int32) ≤ i7 then if ¬ (i4 : Int32) = 0 then RS (ZZ L xs) (d + 1) mX2_cameFrom 112 [some (.ref o), some (.int i1), some (.int i2), some (.int i3), some (.int i4), some (.int i5), some (.int i6), some (.int i7)] [.int i6] ph else RS (ZZ L xs) (d + 1) mX2_cameFrom 112 [some (.ref o), some (.int i1), some (.int i2), some (.int i3), some (.int i4), some (.int i5), some (.int i6), some (.int i7)] [.int i5] ph else (fR ph (.ref o) 2 2).bind fun x26 => (fR ph (.ref o) 2 0).bind fun x30 => (fR ph x30 6 1).bind fun x33 => (iO ph x26 7).bind fun b36 => (cV (ZZ L xs) d mX7_copyFrom [.ref b36, x33] ph).bind fun p36 => (fR p36 (.ref o) 2 2).bind fun x40 => (fR p36 x40 7 9).bind fun x43 => (wI p36 x43 i1 i7).bind fun h49 => (fR h49 (.ref o) 2 1).bind fun x51 => (fR h49 (.ref o) 2 2).bind fun x55 => (iO h49 x51 0).bind fun b59 => (cV (ZZ L xs) d mX0_run [.ref b59, x55, .int i2] h49).bind fun p59 => (fR p59 (.ref o) 2 2).bind fun x63 => (fR p59 x63 7 9).bind fun x66 => (eI p59 x66 i1).bind fun x70 => if ¬ (x70 : Int32) = i3 then RS (ZZ L xs) (d + 1) mX2_cameFrom 94 [some (.ref o), some (.int i1), some (.int i2), some (.int i3), some (.int i4), some (.int i5), some (.int i6), some (.int i7)] [] p59 else if ¬ (i6 : Int32) = (-2) then RS (ZZ L xs) (d + 1) mX2_cameFrom 92 [some (.ref o), some (.int i1), some (.int i2), some (.int i3), some (.int i4), some (.int (i5 + 1)), some (.int i6), some (.int i7)] [.int i6] p59 else RS (ZZ L xs) (d + 1) mX2_cameFrom 92 [some (.ref o), some (.int i1), some (.int i2), some (.int i3), some (.int i4), some (.int (i5 + 1)), some (.int i6), some (.int i7)] [.int i7] p59 := by
  refine Eq.trans (q_iload dX2_cameFrom_10 (mk0 rfl) rfl) ?_
  refine Eq.trans (q_aload_n dX2_cameFrom_12 (mk0 rfl) rfl rfl) ?_
  refine Eq.trans (q_getR (ci := 2) (k := 0) dX2_cameFrom_13 (mk0 rfl) rfl) (bind_cg2 fun x13 hx13 => ?_)
  have hx13 := fR_isR hx13
  refine Eq.trans (q_getR (ci := 6) (k := 0) dX2_cameFrom_16 (mk0 rfl) rfl) (bind_cg2 fun x16 hx16 => ?_)
  have hx16 := fR_isR hx16
  refine Eq.trans (q_getI (ci := 9) (k := 0) dX2_cameFrom_19 (mk0 rfl) rfl) (bind_cg fun x19 => ?_)
  refine Eq.trans (q_icmp_ge (t := 100) dX2_cameFrom_22 (mk0 rfl) rfl) (ite_cg ?_ ?_)
  · refine Eq.trans (q_iload dX2_cameFrom_100 (mk0 rfl) rfl) ?_
    refine Eq.trans (q_if_ne (t := 110) dX2_cameFrom_102 (mk0 rfl) rfl) (ite_cg ?_ ?_)
    · refine Eq.trans (q_iload dX2_cameFrom_110 (mk0 rfl) rfl) ?_
      rfl
    · refine Eq.trans (q_iload dX2_cameFrom_105 (mk0 rfl) rfl) ?_
      refine Eq.trans (q_goto (t := 112) dX2_cameFrom_107 (mk0 rfl) rfl) ?_
      rfl
  · refine Eq.trans (q_aload_n dX2_cameFrom_25 (mk0 rfl) rfl rfl) ?_
    refine Eq.trans (q_getR (ci := 2) (k := 2) dX2_cameFrom_26 (mk0 rfl) rfl) (bind_cg2 fun x26 hx26 => ?_)
    have hx26 := fR_isR hx26
    refine Eq.trans (q_aload_n dX2_cameFrom_29 (mk0 rfl) rfl rfl) ?_
    refine Eq.trans (q_getR (ci := 2) (k := 0) dX2_cameFrom_30 (mk0 rfl) rfl) (bind_cg2 fun x30 hx30 => ?_)
    have hx30 := fR_isR hx30
    refine Eq.trans (q_getR (ci := 6) (k := 1) dX2_cameFrom_33 (mk0 rfl) rfl) (bind_cg2 fun x33 hx33 => ?_)
    have hx33 := fR_isR hx33
    refine Eq.trans (q_callV (as := [x33]) dX2_cameFrom_36 (mk0 rfl) rfl rfl rfl (Nat.le_of_ble_eq_true rfl) (by simp [eA, ct_i, ct_l, ct_r, ct_n, ct_x, mX7_copyFrom, (cat_R hx33)])) (bind_cg fun b36 => ?_)
    refine Eq.trans (cV_bind rfl) (bind_cg fun p36 => ?_)
    show RS (ZZ L xs) (d + 1) mX2_cameFrom 39 [some (.ref o), some (.int i1), some (.int i2), some (.int i3), some (.int i4), some (.int i5), some (.int i6), some (.int i7)] [] p36 = _
    refine Eq.trans (q_aload_n dX2_cameFrom_39 (mk0 rfl) rfl rfl) ?_
    refine Eq.trans (q_getR (ci := 2) (k := 2) dX2_cameFrom_40 (mk0 rfl) rfl) (bind_cg2 fun x40 hx40 => ?_)
    have hx40 := fR_isR hx40
    refine Eq.trans (q_getR (ci := 7) (k := 9) dX2_cameFrom_43 (mk0 rfl) rfl) (bind_cg2 fun x43 hx43 => ?_)
    have hx43 := fR_isR hx43
    refine Eq.trans (q_iload_n dX2_cameFrom_46 (mk0 rfl) rfl) ?_
    refine Eq.trans (q_iload dX2_cameFrom_47 (mk0 rfl) rfl) ?_
    refine Eq.trans (q_iastore dX2_cameFrom_49 (mk0 rfl)) (bind_cg fun h49 => ?_)
    refine Eq.trans (q_aload_n dX2_cameFrom_50 (mk0 rfl) rfl rfl) ?_
    refine Eq.trans (q_getR (ci := 2) (k := 1) dX2_cameFrom_51 (mk0 rfl) rfl) (bind_cg2 fun x51 hx51 => ?_)
    have hx51 := fR_isR hx51
    refine Eq.trans (q_aload_n dX2_cameFrom_54 (mk0 rfl) rfl rfl) ?_
    refine Eq.trans (q_getR (ci := 2) (k := 2) dX2_cameFrom_55 (mk0 rfl) rfl) (bind_cg2 fun x55 hx55 => ?_)
    have hx55 := fR_isR hx55
    refine Eq.trans (q_iload_n dX2_cameFrom_58 (mk0 rfl) rfl) ?_
    refine Eq.trans (q_callV (as := [x55, .int i2]) dX2_cameFrom_59 (mk0 rfl) rfl rfl rfl (Nat.le_of_ble_eq_true rfl) (by simp [eA, ct_i, ct_l, ct_r, ct_n, ct_x, mX0_run, (cat_R hx55)])) (bind_cg fun b59 => ?_)
    refine Eq.trans (cV_bind rfl) (bind_cg fun p59 => ?_)
    show RS (ZZ L xs) (d + 1) mX2_cameFrom 62 [some (.ref o), some (.int i1), some (.int i2), some (.int i3), some (.int i4), some (.int i5), some (.int i6), some (.int i7)] [] p59 = _
    refine Eq.trans (q_aload_n dX2_cameFrom_62 (mk0 rfl) rfl rfl) ?_
    refine Eq.trans (q_getR (ci := 2) (k := 2) dX2_cameFrom_63 (mk0 rfl) rfl) (bind_cg2 fun x63 hx63 => ?_)
    have hx63 := fR_isR hx63
    refine Eq.trans (q_getR (ci := 7) (k := 9) dX2_cameFrom_66 (mk0 rfl) rfl) (bind_cg2 fun x66 hx66 => ?_)
    have hx66 := fR_isR hx66
    refine Eq.trans (q_iload_n dX2_cameFrom_69 (mk0 rfl) rfl) ?_
    refine Eq.trans (q_iaload dX2_cameFrom_70 (mk0 rfl) (no_ext hx66)) (bind_cg fun x70 => ?_)
    refine Eq.trans (q_iload_n dX2_cameFrom_71 (mk0 rfl) rfl) ?_
    refine Eq.trans (q_icmp_ne (t := 94) dX2_cameFrom_72 (mk0 rfl) rfl) (ite_cg ?_ ?_)
    · rfl
    · refine Eq.trans (q_iinc (v := 1) (lv2 := [some (.ref o), some (.int i1), some (.int i2), some (.int i3), some (.int i4), some (.int (i5 + 1)), some (.int i6), some (.int i7)]) dX2_cameFrom_75 (mk0 rfl) rfl rfl rfl) ?_
      refine Eq.trans (q_iload dX2_cameFrom_78 (mk0 rfl) rfl) ?_
      refine Eq.trans (q_bipush (v := (-2)) dX2_cameFrom_80 (mk0 rfl) rfl) ?_
      refine Eq.trans (q_icmp_ne (t := 90) dX2_cameFrom_82 (mk0 rfl) rfl) (ite_cg ?_ ?_)
      · refine Eq.trans (q_iload dX2_cameFrom_90 (mk0 rfl) rfl) ?_
        rfl
      · refine Eq.trans (q_iload dX2_cameFrom_85 (mk0 rfl) rfl) ?_
        refine Eq.trans (q_goto (t := 92) dX2_cameFrom_87 (mk0 rfl) rfl) ?_
        rfl
set_option maxRecDepth 20000 in
theorem bX2_cameFrom_92 {L : Nat} {xs : Nat → Int32} (d : Nat) (o : Nat) (i1 : Int32) (i2 : Int32) (i3 : Int32) (i4 : Int32) (i5 : Int32) (u6 : Option Value) (i7 : Int32) (t0 : Int32) (ph : PH) : RS (ZZ L xs) (d + 1) mX2_cameFrom 92 [some (.ref o), some (.int i1), some (.int i2), some (.int i3), some (.int i4), some (.int i5), u6, some (.int i7)] [.int t0] ph = RS (ZZ L xs) (d + 1) mX2_cameFrom 94 [some (.ref o), some (.int i1), some (.int i2), some (.int i3), some (.int i4), some (.int i5), some (.int t0), some (.int i7)] [] ph := by
  refine Eq.trans (q_istore (lv2 := [some (.ref o), some (.int i1), some (.int i2), some (.int i3), some (.int i4), some (.int i5), some (.int t0), some (.int i7)]) dX2_cameFrom_92 (show mK mX2_cameFrom 92 [some (.ref o), some (.int i1), some (.int i2), some (.int i3), some (.int i4), some (.int i5), u6, some (.int i7)] = [some (.ref o), some (.int i1), some (.int i2), some (.int i3), some (.int i4), some (.int i5), none, some (.int i7)] from rfl) (Nat.le_of_ble_eq_true rfl) rfl) ?_
  rfl
set_option maxRecDepth 20000 in
theorem bX2_cameFrom_94 {L : Nat} {xs : Nat → Int32} (d : Nat) (o : Nat) (i1 : Int32) (i2 : Int32) (i3 : Int32) (i4 : Int32) (i5 : Int32) (i6 : Int32) (i7 : Int32) (ph : PH) : RS (ZZ L xs) (d + 1) mX2_cameFrom 94 [some (.ref o), some (.int i1), some (.int i2), some (.int i3), some (.int i4), some (.int i5), some (.int i6), some (.int i7)] [] ph = RS (ZZ L xs) (d + 1) mX2_cameFrom 10 [some (.ref o), some (.int i1), some (.int i2), some (.int i3), some (.int i4), some (.int i5), some (.int i6), some (.int (i7 + 1))] [] ph := by
  refine Eq.trans (q_iinc (v := 1) (lv2 := [some (.ref o), some (.int i1), some (.int i2), some (.int i3), some (.int i4), some (.int i5), some (.int i6), some (.int (i7 + 1))]) dX2_cameFrom_94 (mk0 rfl) rfl rfl rfl) ?_
  refine Eq.trans (q_goto (t := 10) dX2_cameFrom_97 (mk0 rfl) rfl) ?_
  rfl
set_option maxRecDepth 20000 in
theorem bX2_cameFrom_112 {L : Nat} {xs : Nat → Int32} (d : Nat) (u0 : Option Value) (u1 : Option Value) (u2 : Option Value) (u3 : Option Value) (u4 : Option Value) (u5 : Option Value) (u6 : Option Value) (u7 : Option Value) (t0 : Int32) (ph : PH) : RS (ZZ L xs) (d + 1) mX2_cameFrom 112 [u0, u1, u2, u3, u4, u5, u6, u7] [.int t0] ph = some (ph, some (.int t0)) := by
  exact q_ireturn dX2_cameFrom_112 (show mK mX2_cameFrom 112 [u0, u1, u2, u3, u4, u5, u6, u7] = [none, none, none, none, none, none, none, none] from rfl) rfl
set_option maxRecDepth 20000 in
theorem bX2_bestShut_0 {L : Nat} {xs : Nat → Int32} (d : Nat) (o : Nat) (i1 : Int32) (i2 : Int32) (ph : PH) : RS (ZZ L xs) (d + 1) mX2_bestShut 0 [some (.ref o), some (.int i1), some (.int i2), none, none, none, none, none, none, none, none] [] ph = (fR ph (.ref o) 2 0).bind fun x2 => (fR ph x2 6 1).bind fun x5 => (fL ph x5 7 3).bind fun x8 => (iO ph (.ref o) 2).bind fun b12 => (cI (ZZ L xs) d mX2_comeBy [.ref b12, .long x8, .int i1] ph).bind fun p12 => RS (ZZ L xs) (d + 1) mX2_bestShut 25 [some (.ref o), some (.int i1), some (.int i2), some (.int p12.2), some (.int ((-1))), some (.int ((-1))), some (.int 0), none, none, none, none] [] p12.1 := by
  refine Eq.trans (q_aload_n dX2_bestShut_0 (mk0 rfl) rfl rfl) ?_
  refine Eq.trans (q_aload_n dX2_bestShut_1 (mk0 rfl) rfl rfl) ?_
  refine Eq.trans (q_getR (ci := 2) (k := 0) dX2_bestShut_2 (mk0 rfl) rfl) (bind_cg2 fun x2 hx2 => ?_)
  have hx2 := fR_isR hx2
  refine Eq.trans (q_getR (ci := 6) (k := 1) dX2_bestShut_5 (mk0 rfl) rfl) (bind_cg2 fun x5 hx5 => ?_)
  have hx5 := fR_isR hx5
  refine Eq.trans (q_getL (ci := 7) (k := 3) dX2_bestShut_8 (mk0 rfl) rfl) (bind_cg fun x8 => ?_)
  refine Eq.trans (q_iload_n dX2_bestShut_11 (mk0 rfl) rfl) ?_
  refine Eq.trans (q_callV (as := [.long x8, .int i1]) dX2_bestShut_12 (mk0 rfl) rfl rfl rfl (Nat.le_of_ble_eq_true rfl) (Nat.le_of_ble_eq_true rfl)) (bind_cg fun b12 => ?_)
  refine Eq.trans (cI_bind (Or.inl rfl)) (bind_cg fun p12 => ?_)
  show RS (ZZ L xs) (d + 1) mX2_bestShut 15 [some (.ref o), some (.int i1), some (.int i2), none, none, none, none, none, none, none, none] [.int p12.2] p12.1 = _
  refine Eq.trans (q_istore_n (lv2 := [some (.ref o), some (.int i1), some (.int i2), some (.int p12.2), none, none, none, none, none, none, none]) dX2_bestShut_15 (mk0 rfl) (Nat.le_of_ble_eq_true rfl) rfl) ?_
  refine Eq.trans (q_iconst (v := (-1)) dX2_bestShut_16 (mk0 rfl) rfl) ?_
  refine Eq.trans (q_istore (lv2 := [some (.ref o), some (.int i1), some (.int i2), some (.int p12.2), some (.int ((-1))), none, none, none, none, none, none]) dX2_bestShut_17 (mk0 rfl) (Nat.le_of_ble_eq_true rfl) rfl) ?_
  refine Eq.trans (q_iconst (v := (-1)) dX2_bestShut_19 (mk0 rfl) rfl) ?_
  refine Eq.trans (q_istore (lv2 := [some (.ref o), some (.int i1), some (.int i2), some (.int p12.2), some (.int ((-1))), some (.int ((-1))), none, none, none, none, none]) dX2_bestShut_20 (mk0 rfl) (Nat.le_of_ble_eq_true rfl) rfl) ?_
  refine Eq.trans (q_iconst (v := 0) dX2_bestShut_22 (mk0 rfl) rfl) ?_
  refine Eq.trans (q_istore (lv2 := [some (.ref o), some (.int i1), some (.int i2), some (.int p12.2), some (.int ((-1))), some (.int ((-1))), some (.int 0), none, none, none, none]) dX2_bestShut_23 (mk0 rfl) (Nat.le_of_ble_eq_true rfl) rfl) ?_
  rfl
set_option maxRecDepth 20000 in
theorem bX2_bestShut_25 {L : Nat} {xs : Nat → Int32} (d : Nat) (o : Nat) (i1 : Int32) (i2 : Int32) (i3 : Int32) (i4 : Int32) (i5 : Int32) (i6 : Int32) (u7 : Option Value) (u8 : Option Value) (u9 : Option Value) (u10 : Option Value) (ph : PH) : RS (ZZ L xs) (d + 1) mX2_bestShut 25 [some (.ref o), some (.int i1), some (.int i2), some (.int i3), some (.int i4), some (.int i5), some (.int i6), u7, u8, u9, u10] [] ph = (fR ph (.ref o) 2 0).bind fun x28 => (fR ph x28 6 0).bind fun x31 => (fI ph x31 9 0).bind fun x34 => if (x34 : Int32) ≤ i6 then if ¬ (i2 : Int32) = 0 then if ¬ (i2 : Int32) = 1 then RS (ZZ L xs) (d + 1) mX2_bestShut 159 [some (.ref o), some (.int i1), some (.int i2), some (.int i3), some (.int i4), some (.int i5), some (.int i6), none, none, none, none] [.int i5] ph else RS (ZZ L xs) (d + 1) mX2_bestShut 159 [some (.ref o), some (.int i1), some (.int i2), some (.int i3), some (.int i4), some (.int i5), some (.int i6), none, none, none, none] [.int i4] ph else some (ph, some (.int i3)) else RS (ZZ L xs) (d + 1) mX2_bestShut 46 [some (.ref o), some (.int i1), some (.int i2), some (.int i3), some (.int i4), some (.int i5), some (.int i6), some (.int (i6 + 1)), none, none, none] [] ph := by
  refine Eq.trans (q_iload dX2_bestShut_25 (show mK mX2_bestShut 25 [some (.ref o), some (.int i1), some (.int i2), some (.int i3), some (.int i4), some (.int i5), some (.int i6), u7, u8, u9, u10] = [some (.ref o), some (.int i1), some (.int i2), some (.int i3), some (.int i4), some (.int i5), some (.int i6), none, none, none, none] from rfl) rfl) ?_
  refine Eq.trans (q_aload_n dX2_bestShut_27 (mk0 rfl) rfl rfl) ?_
  refine Eq.trans (q_getR (ci := 2) (k := 0) dX2_bestShut_28 (mk0 rfl) rfl) (bind_cg2 fun x28 hx28 => ?_)
  have hx28 := fR_isR hx28
  refine Eq.trans (q_getR (ci := 6) (k := 0) dX2_bestShut_31 (mk0 rfl) rfl) (bind_cg2 fun x31 hx31 => ?_)
  have hx31 := fR_isR hx31
  refine Eq.trans (q_getI (ci := 9) (k := 0) dX2_bestShut_34 (mk0 rfl) rfl) (bind_cg fun x34 => ?_)
  refine Eq.trans (q_icmp_ge (t := 141) dX2_bestShut_37 (mk0 rfl) rfl) (ite_cg ?_ ?_)
  · refine Eq.trans (q_iload_n dX2_bestShut_141 (mk0 rfl) rfl) ?_
    refine Eq.trans (q_if_ne (t := 147) dX2_bestShut_142 (mk0 rfl) rfl) (ite_cg ?_ ?_)
    · refine Eq.trans (q_iload_n dX2_bestShut_147 (mk0 rfl) rfl) ?_
      refine Eq.trans (q_iconst (v := 1) dX2_bestShut_148 (mk0 rfl) rfl) ?_
      refine Eq.trans (q_icmp_ne (t := 157) dX2_bestShut_149 (mk0 rfl) rfl) (ite_cg ?_ ?_)
      · refine Eq.trans (q_iload dX2_bestShut_157 (mk0 rfl) rfl) ?_
        rfl
      · refine Eq.trans (q_iload dX2_bestShut_152 (mk0 rfl) rfl) ?_
        refine Eq.trans (q_goto (t := 159) dX2_bestShut_154 (mk0 rfl) rfl) ?_
        rfl
    · refine Eq.trans (q_iload_n dX2_bestShut_145 (mk0 rfl) rfl) ?_
      exact q_ireturn dX2_bestShut_146 (mk0 rfl) rfl
  · refine Eq.trans (q_iload dX2_bestShut_40 (mk0 rfl) rfl) ?_
    refine Eq.trans (q_iconst (v := 1) dX2_bestShut_42 (mk0 rfl) rfl) ?_
    refine Eq.trans (q_iadd dX2_bestShut_43 (mk0 rfl)) ?_
    refine Eq.trans (q_istore (lv2 := [some (.ref o), some (.int i1), some (.int i2), some (.int i3), some (.int i4), some (.int i5), some (.int i6), some (.int (i6 + 1)), none, none, none]) dX2_bestShut_44 (mk0 rfl) (Nat.le_of_ble_eq_true rfl) rfl) ?_
    rfl
set_option maxRecDepth 20000 in
theorem bX2_bestShut_46 {L : Nat} {xs : Nat → Int32} (d : Nat) (o : Nat) (i1 : Int32) (i2 : Int32) (i3 : Int32) (i4 : Int32) (i5 : Int32) (i6 : Int32) (i7 : Int32) (u8 : Option Value) (u9 : Option Value) (u10 : Option Value) (ph : PH) : RS (ZZ L xs) (d + 1) mX2_bestShut 46 [some (.ref o), some (.int i1), some (.int i2), some (.int i3), some (.int i4), some (.int i5), some (.int i6), some (.int i7), u8, u9, u10] [] ph = (fR ph (.ref o) 2 0).bind fun x49 => (fR ph x49 6 0).bind fun x52 => (fI ph x52 9 0).bind fun x55 => if (x55 : Int32) ≤ i7 then RS (ZZ L xs) (d + 1) mX2_bestShut 25 [some (.ref o), some (.int i1), some (.int i2), some (.int i3), some (.int i4), some (.int i5), some (.int (i6 + 1)), some (.int i7), none, none, none] [] ph else (cJ (ZZ L xs) d mX11_street [.int i6, .int i7] ph).bind fun p65 => (fR p65.1 (.ref o) 2 0).bind fun x71 => (fR p65.1 x71 6 1).bind fun x74 => (fL p65.1 x74 7 3).bind fun x77 => if (lg_cmp (x77 &&& p65.2) 0 : Int32) = 0 then RS (ZZ L xs) (d + 1) mX2_bestShut 129 [some (.ref o), some (.int i1), some (.int i2), some (.int i3), some (.int i4), some (.int i5), some (.int i6), some (.int i7), some (.long p65.2), none, none] [] p65.1 else (fR p65.1 (.ref o) 2 0).bind fun x90 => (fR p65.1 x90 6 1).bind fun x93 => (fL p65.1 x93 7 3).bind fun x96 => (iO p65.1 (.ref o) 2).bind fun b107 => (cI (ZZ L xs) d mX2_comeBy [.ref b107, .long (x96 &&& (p65.2 ^^^ ((-1)))), .int i1] p65.1).bind fun p107 => if (p107.2 : Int32) ≤ i3 then RS (ZZ L xs) (d + 1) mX2_bestShut 129 [some (.ref o), some (.int i1), some (.int i2), some (.int i3), some (.int i4), some (.int i5), some (.int i6), some (.int i7), some (.long p65.2), none, some (.int p107.2)] [] p107.1 else RS (ZZ L xs) (d + 1) mX2_bestShut 129 [some (.ref o), some (.int i1), some (.int i2), some (.int p107.2), some (.int i6), some (.int i7), some (.int i6), some (.int i7), some (.long p65.2), none, some (.int p107.2)] [] p107.1 := by
  refine Eq.trans (q_iload dX2_bestShut_46 (show mK mX2_bestShut 46 [some (.ref o), some (.int i1), some (.int i2), some (.int i3), some (.int i4), some (.int i5), some (.int i6), some (.int i7), u8, u9, u10] = [some (.ref o), some (.int i1), some (.int i2), some (.int i3), some (.int i4), some (.int i5), some (.int i6), some (.int i7), none, none, none] from rfl) rfl) ?_
  refine Eq.trans (q_aload_n dX2_bestShut_48 (mk0 rfl) rfl rfl) ?_
  refine Eq.trans (q_getR (ci := 2) (k := 0) dX2_bestShut_49 (mk0 rfl) rfl) (bind_cg2 fun x49 hx49 => ?_)
  have hx49 := fR_isR hx49
  refine Eq.trans (q_getR (ci := 6) (k := 0) dX2_bestShut_52 (mk0 rfl) rfl) (bind_cg2 fun x52 hx52 => ?_)
  have hx52 := fR_isR hx52
  refine Eq.trans (q_getI (ci := 9) (k := 0) dX2_bestShut_55 (mk0 rfl) rfl) (bind_cg fun x55 => ?_)
  refine Eq.trans (q_icmp_ge (t := 135) dX2_bestShut_58 (mk0 rfl) rfl) (ite_cg ?_ ?_)
  · refine Eq.trans (q_iinc (v := 1) (lv2 := [some (.ref o), some (.int i1), some (.int i2), some (.int i3), some (.int i4), some (.int i5), some (.int (i6 + 1)), some (.int i7), none, none, none]) dX2_bestShut_135 (mk0 rfl) rfl rfl rfl) ?_
    refine Eq.trans (q_goto (t := 25) dX2_bestShut_138 (mk0 rfl) rfl) ?_
    rfl
  · refine Eq.trans (q_iload dX2_bestShut_61 (mk0 rfl) rfl) ?_
    refine Eq.trans (q_iload dX2_bestShut_63 (mk0 rfl) rfl) ?_
    refine Eq.trans (q_callS (as := [.int i6, .int i7]) dX2_bestShut_65 (mk0 rfl) rfl (Or.inl rfl) rfl rfl (Nat.le_of_ble_eq_true rfl) (Nat.le_of_ble_eq_true rfl)) ?_
    refine Eq.trans (cJ_bind rfl) (bind_cg fun p65 => ?_)
    show RS (ZZ L xs) (d + 1) mX2_bestShut 68 [some (.ref o), some (.int i1), some (.int i2), some (.int i3), some (.int i4), some (.int i5), some (.int i6), some (.int i7), none, none, none] [.long p65.2] p65.1 = _
    refine Eq.trans (q_lstore (lv2 := [some (.ref o), some (.int i1), some (.int i2), some (.int i3), some (.int i4), some (.int i5), some (.int i6), some (.int i7), some (.long p65.2), none, none]) dX2_bestShut_68 (mk0 rfl) (Nat.le_of_ble_eq_true rfl) rfl) ?_
    refine Eq.trans (q_aload_n dX2_bestShut_70 (mk0 rfl) rfl rfl) ?_
    refine Eq.trans (q_getR (ci := 2) (k := 0) dX2_bestShut_71 (mk0 rfl) rfl) (bind_cg2 fun x71 hx71 => ?_)
    have hx71 := fR_isR hx71
    refine Eq.trans (q_getR (ci := 6) (k := 1) dX2_bestShut_74 (mk0 rfl) rfl) (bind_cg2 fun x74 hx74 => ?_)
    have hx74 := fR_isR hx74
    refine Eq.trans (q_getL (ci := 7) (k := 3) dX2_bestShut_77 (mk0 rfl) rfl) (bind_cg fun x77 => ?_)
    refine Eq.trans (q_lload dX2_bestShut_80 (mk0 rfl) rfl) ?_
    refine Eq.trans (q_land dX2_bestShut_82 (mk0 rfl)) ?_
    refine Eq.trans (q_lconst (v := 0) dX2_bestShut_83 (mk0 rfl) rfl) ?_
    refine Eq.trans (q_lcmp dX2_bestShut_84 (mk0 rfl)) ?_
    refine Eq.trans (q_if_eq (t := 129) dX2_bestShut_85 (mk0 rfl) rfl) (ite_cg ?_ ?_)
    · rfl
    · refine Eq.trans (q_aload_n dX2_bestShut_88 (mk0 rfl) rfl rfl) ?_
      refine Eq.trans (q_aload_n dX2_bestShut_89 (mk0 rfl) rfl rfl) ?_
      refine Eq.trans (q_getR (ci := 2) (k := 0) dX2_bestShut_90 (mk0 rfl) rfl) (bind_cg2 fun x90 hx90 => ?_)
      have hx90 := fR_isR hx90
      refine Eq.trans (q_getR (ci := 6) (k := 1) dX2_bestShut_93 (mk0 rfl) rfl) (bind_cg2 fun x93 hx93 => ?_)
      have hx93 := fR_isR hx93
      refine Eq.trans (q_getL (ci := 7) (k := 3) dX2_bestShut_96 (mk0 rfl) rfl) (bind_cg fun x96 => ?_)
      refine Eq.trans (q_lload dX2_bestShut_99 (mk0 rfl) rfl) ?_
      refine Eq.trans (q_ldc2 (v := (-1)) dX2_bestShut_101 (mk0 rfl) rfl) ?_
      refine Eq.trans (q_lxor dX2_bestShut_104 (mk0 rfl)) ?_
      refine Eq.trans (q_land dX2_bestShut_105 (mk0 rfl)) ?_
      refine Eq.trans (q_iload_n dX2_bestShut_106 (mk0 rfl) rfl) ?_
      refine Eq.trans (q_callV (as := [.long (x96 &&& (p65.2 ^^^ ((-1)))), .int i1]) dX2_bestShut_107 (mk0 rfl) rfl rfl rfl (Nat.le_of_ble_eq_true rfl) (Nat.le_of_ble_eq_true rfl)) (bind_cg fun b107 => ?_)
      refine Eq.trans (cI_bind (Or.inl rfl)) (bind_cg fun p107 => ?_)
      show RS (ZZ L xs) (d + 1) mX2_bestShut 110 [some (.ref o), some (.int i1), some (.int i2), some (.int i3), some (.int i4), some (.int i5), some (.int i6), some (.int i7), some (.long p65.2), none, none] [.int p107.2] p107.1 = _
      refine Eq.trans (q_istore (lv2 := [some (.ref o), some (.int i1), some (.int i2), some (.int i3), some (.int i4), some (.int i5), some (.int i6), some (.int i7), some (.long p65.2), none, some (.int p107.2)]) dX2_bestShut_110 (mk0 rfl) (Nat.le_of_ble_eq_true rfl) rfl) ?_
      refine Eq.trans (q_iload dX2_bestShut_112 (mk0 rfl) rfl) ?_
      refine Eq.trans (q_iload_n dX2_bestShut_114 (mk0 rfl) rfl) ?_
      refine Eq.trans (q_icmp_le (t := 129) dX2_bestShut_115 (mk0 rfl) rfl) (ite_cg ?_ ?_)
      · rfl
      · refine Eq.trans (q_iload dX2_bestShut_118 (mk0 rfl) rfl) ?_
        refine Eq.trans (q_istore_n (lv2 := [some (.ref o), some (.int i1), some (.int i2), some (.int p107.2), some (.int i4), some (.int i5), some (.int i6), some (.int i7), some (.long p65.2), none, some (.int p107.2)]) dX2_bestShut_120 (mk0 rfl) (Nat.le_of_ble_eq_true rfl) rfl) ?_
        refine Eq.trans (q_iload dX2_bestShut_121 (mk0 rfl) rfl) ?_
        refine Eq.trans (q_istore (lv2 := [some (.ref o), some (.int i1), some (.int i2), some (.int p107.2), some (.int i6), some (.int i5), some (.int i6), some (.int i7), some (.long p65.2), none, some (.int p107.2)]) dX2_bestShut_123 (mk0 rfl) (Nat.le_of_ble_eq_true rfl) rfl) ?_
        refine Eq.trans (q_iload dX2_bestShut_125 (mk0 rfl) rfl) ?_
        refine Eq.trans (q_istore (lv2 := [some (.ref o), some (.int i1), some (.int i2), some (.int p107.2), some (.int i6), some (.int i7), some (.int i6), some (.int i7), some (.long p65.2), none, some (.int p107.2)]) dX2_bestShut_127 (mk0 rfl) (Nat.le_of_ble_eq_true rfl) rfl) ?_
        rfl
set_option maxRecDepth 20000 in
theorem bX2_bestShut_129 {L : Nat} {xs : Nat → Int32} (d : Nat) (o : Nat) (i1 : Int32) (i2 : Int32) (i3 : Int32) (i4 : Int32) (i5 : Int32) (i6 : Int32) (i7 : Int32) (u8 : Option Value) (u9 : Option Value) (u10 : Option Value) (ph : PH) : RS (ZZ L xs) (d + 1) mX2_bestShut 129 [some (.ref o), some (.int i1), some (.int i2), some (.int i3), some (.int i4), some (.int i5), some (.int i6), some (.int i7), u8, u9, u10] [] ph = RS (ZZ L xs) (d + 1) mX2_bestShut 46 [some (.ref o), some (.int i1), some (.int i2), some (.int i3), some (.int i4), some (.int i5), some (.int i6), some (.int (i7 + 1)), none, none, none] [] ph := by
  refine Eq.trans (q_iinc (v := 1) (lv2 := [some (.ref o), some (.int i1), some (.int i2), some (.int i3), some (.int i4), some (.int i5), some (.int i6), some (.int (i7 + 1)), none, none, none]) dX2_bestShut_129 (show mK mX2_bestShut 129 [some (.ref o), some (.int i1), some (.int i2), some (.int i3), some (.int i4), some (.int i5), some (.int i6), some (.int i7), u8, u9, u10] = [some (.ref o), some (.int i1), some (.int i2), some (.int i3), some (.int i4), some (.int i5), some (.int i6), some (.int i7), none, none, none] from rfl) rfl rfl rfl) ?_
  refine Eq.trans (q_goto (t := 46) dX2_bestShut_132 (mk0 rfl) rfl) ?_
  rfl
set_option maxRecDepth 20000 in
theorem bX2_bestShut_159 {L : Nat} {xs : Nat → Int32} (d : Nat) (u0 : Option Value) (u1 : Option Value) (u2 : Option Value) (u3 : Option Value) (u4 : Option Value) (u5 : Option Value) (u6 : Option Value) (u7 : Option Value) (u8 : Option Value) (u9 : Option Value) (u10 : Option Value) (t0 : Int32) (ph : PH) : RS (ZZ L xs) (d + 1) mX2_bestShut 159 [u0, u1, u2, u3, u4, u5, u6, u7, u8, u9, u10] [.int t0] ph = some (ph, some (.int t0)) := by
  exact q_ireturn dX2_bestShut_159 (show mK mX2_bestShut 159 [u0, u1, u2, u3, u4, u5, u6, u7, u8, u9, u10] = [none, none, none, none, none, none, none, none, none, none, none] from rfl) rfl
set_option maxRecDepth 20000 in
theorem bX2_comeBy_0 {L : Nat} {xs : Nat → Int32} (d : Nat) (o : Nat) (l1 : Int64) (i3 : Int32) (ph : PH) : RS (ZZ L xs) (d + 1) mX2_comeBy 0 [some (.ref o), some (.long l1), none, some (.int i3)] [] ph = (fR ph (.ref o) 2 2).bind fun x1 => (fR ph (.ref o) 2 0).bind fun x5 => (fR ph x5 6 1).bind fun x8 => (iO ph x1 7).bind fun b11 => (cV (ZZ L xs) d mX7_copyFrom [.ref b11, x8] ph).bind fun p11 => (fR p11 (.ref o) 2 2).bind fun x15 => (fP p11 x15 7 3 (.long l1)).bind fun h19 => (fR h19 (.ref o) 2 1).bind fun x23 => (fR h19 (.ref o) 2 2).bind fun x27 => (iO h19 x23 0).bind fun b31 => (cV (ZZ L xs) d mX0_run [.ref b31, x27, .int i3] h19).bind fun p31 => (fR p31 (.ref o) 2 2).bind fun x35 => (fI p31 x35 7 2).bind fun x38 => (fR p31 (.ref o) 2 0).bind fun x42 => (fR p31 x42 6 1).bind fun x45 => (fI p31 x45 7 2).bind fun x48 => some (p31, some (.int (x38 - x48))) := by
  refine Eq.trans (q_aload_n dX2_comeBy_0 (mk0 rfl) rfl rfl) ?_
  refine Eq.trans (q_getR (ci := 2) (k := 2) dX2_comeBy_1 (mk0 rfl) rfl) (bind_cg2 fun x1 hx1 => ?_)
  have hx1 := fR_isR hx1
  refine Eq.trans (q_aload_n dX2_comeBy_4 (mk0 rfl) rfl rfl) ?_
  refine Eq.trans (q_getR (ci := 2) (k := 0) dX2_comeBy_5 (mk0 rfl) rfl) (bind_cg2 fun x5 hx5 => ?_)
  have hx5 := fR_isR hx5
  refine Eq.trans (q_getR (ci := 6) (k := 1) dX2_comeBy_8 (mk0 rfl) rfl) (bind_cg2 fun x8 hx8 => ?_)
  have hx8 := fR_isR hx8
  refine Eq.trans (q_callV (as := [x8]) dX2_comeBy_11 (mk0 rfl) rfl rfl rfl (Nat.le_of_ble_eq_true rfl) (by simp [eA, ct_i, ct_l, ct_r, ct_n, ct_x, mX7_copyFrom, (cat_R hx8)])) (bind_cg fun b11 => ?_)
  refine Eq.trans (cV_bind rfl) (bind_cg fun p11 => ?_)
  show RS (ZZ L xs) (d + 1) mX2_comeBy 14 [some (.ref o), some (.long l1), none, some (.int i3)] [] p11 = _
  refine Eq.trans (q_aload_n dX2_comeBy_14 (mk0 rfl) rfl rfl) ?_
  refine Eq.trans (q_getR (ci := 2) (k := 2) dX2_comeBy_15 (mk0 rfl) rfl) (bind_cg2 fun x15 hx15 => ?_)
  have hx15 := fR_isR hx15
  refine Eq.trans (q_lload_n dX2_comeBy_18 (mk0 rfl) rfl) ?_
  refine Eq.trans (q_put (ci := 7) (k := 3) (kd := 1) dX2_comeBy_19 (mk0 rfl) rfl rfl (fun h => by cases h)) (bind_cg fun h19 => ?_)
  refine Eq.trans (q_aload_n dX2_comeBy_22 (mk0 rfl) rfl rfl) ?_
  refine Eq.trans (q_getR (ci := 2) (k := 1) dX2_comeBy_23 (mk0 rfl) rfl) (bind_cg2 fun x23 hx23 => ?_)
  have hx23 := fR_isR hx23
  refine Eq.trans (q_aload_n dX2_comeBy_26 (mk0 rfl) rfl rfl) ?_
  refine Eq.trans (q_getR (ci := 2) (k := 2) dX2_comeBy_27 (mk0 rfl) rfl) (bind_cg2 fun x27 hx27 => ?_)
  have hx27 := fR_isR hx27
  refine Eq.trans (q_iload_n dX2_comeBy_30 (mk0 rfl) rfl) ?_
  refine Eq.trans (q_callV (as := [x27, .int i3]) dX2_comeBy_31 (mk0 rfl) rfl rfl rfl (Nat.le_of_ble_eq_true rfl) (by simp [eA, ct_i, ct_l, ct_r, ct_n, ct_x, mX0_run, (cat_R hx27)])) (bind_cg fun b31 => ?_)
  refine Eq.trans (cV_bind rfl) (bind_cg fun p31 => ?_)
  show RS (ZZ L xs) (d + 1) mX2_comeBy 34 [some (.ref o), some (.long l1), none, some (.int i3)] [] p31 = _
  refine Eq.trans (q_aload_n dX2_comeBy_34 (mk0 rfl) rfl rfl) ?_
  refine Eq.trans (q_getR (ci := 2) (k := 2) dX2_comeBy_35 (mk0 rfl) rfl) (bind_cg2 fun x35 hx35 => ?_)
  have hx35 := fR_isR hx35
  refine Eq.trans (q_getI (ci := 7) (k := 2) dX2_comeBy_38 (mk0 rfl) rfl) (bind_cg fun x38 => ?_)
  refine Eq.trans (q_aload_n dX2_comeBy_41 (mk0 rfl) rfl rfl) ?_
  refine Eq.trans (q_getR (ci := 2) (k := 0) dX2_comeBy_42 (mk0 rfl) rfl) (bind_cg2 fun x42 hx42 => ?_)
  have hx42 := fR_isR hx42
  refine Eq.trans (q_getR (ci := 6) (k := 1) dX2_comeBy_45 (mk0 rfl) rfl) (bind_cg2 fun x45 hx45 => ?_)
  have hx45 := fR_isR hx45
  refine Eq.trans (q_getI (ci := 7) (k := 2) dX2_comeBy_48 (mk0 rfl) rfl) (bind_cg fun x48 => ?_)
  refine Eq.trans (q_isub dX2_comeBy_51 (mk0 rfl)) ?_
  exact q_ireturn dX2_comeBy_52 (mk0 rfl) rfl
set_option maxRecDepth 20000 in
theorem bX2_duel_0 {L : Nat} {xs : Nat → Int32} (d : Nat) (o : Nat) (i1 : Int32) (i2 : Int32) (i3 : Int32) (i4 : Int32) (ph : PH) : RS (ZZ L xs) (d + 1) mX2_duel 0 [some (.ref o), some (.int i1), some (.int i2), some (.int i3), some (.int i4), none] [] ph = (fP ph (.ref o) 2 6 (.int i1)).bind fun h2 => (fP h2 (.ref o) 2 7 (.int i2)).bind fun h7 => (fP h7 (.ref o) 2 8 (.int i3)).bind fun h12 => (fP h12 (.ref o) 2 9 (.int ((-1)))).bind fun h17 => (fR h17 (.ref o) 2 3).bind fun x21 => (eR h17 x21 0).bind fun x25 => (fR h17 (.ref o) 2 0).bind fun x27 => (fR h17 x27 6 1).bind fun x30 => (iO h17 x25 7).bind fun b33 => (cV (ZZ L xs) d mX7_copyFrom [.ref b33, x30] h17).bind fun p33 => (iO p33 (.ref o) 2).bind fun b38 => (cI (ZZ L xs) d mX2_play [.ref b38, .int 0] p33).bind fun p38 => if ¬ (i4 : Int32) = 0 then (fI p38.1 (.ref o) 2 9).bind fun x54 => RS (ZZ L xs) (d + 1) mX2_duel 57 [some (.ref o), some (.int i1), some (.int i2), some (.int i3), some (.int i4), some (.int p38.2)] [.int x54] p38.1 else RS (ZZ L xs) (d + 1) mX2_duel 57 [some (.ref o), some (.int i1), some (.int i2), some (.int i3), some (.int i4), some (.int p38.2)] [.int p38.2] p38.1 := by
  refine Eq.trans (q_aload_n dX2_duel_0 (mk0 rfl) rfl rfl) ?_
  refine Eq.trans (q_iload_n dX2_duel_1 (mk0 rfl) rfl) ?_
  refine Eq.trans (q_put (ci := 2) (k := 6) (kd := 0) dX2_duel_2 (mk0 rfl) rfl rfl (fun h => by cases h)) (bind_cg fun h2 => ?_)
  refine Eq.trans (q_aload_n dX2_duel_5 (mk0 rfl) rfl rfl) ?_
  refine Eq.trans (q_iload_n dX2_duel_6 (mk0 rfl) rfl) ?_
  refine Eq.trans (q_put (ci := 2) (k := 7) (kd := 0) dX2_duel_7 (mk0 rfl) rfl rfl (fun h => by cases h)) (bind_cg fun h7 => ?_)
  refine Eq.trans (q_aload_n dX2_duel_10 (mk0 rfl) rfl rfl) ?_
  refine Eq.trans (q_iload_n dX2_duel_11 (mk0 rfl) rfl) ?_
  refine Eq.trans (q_put (ci := 2) (k := 8) (kd := 0) dX2_duel_12 (mk0 rfl) rfl rfl (fun h => by cases h)) (bind_cg fun h12 => ?_)
  refine Eq.trans (q_aload_n dX2_duel_15 (mk0 rfl) rfl rfl) ?_
  refine Eq.trans (q_iconst (v := (-1)) dX2_duel_16 (mk0 rfl) rfl) ?_
  refine Eq.trans (q_put (ci := 2) (k := 9) (kd := 0) dX2_duel_17 (mk0 rfl) rfl rfl (fun h => by cases h)) (bind_cg fun h17 => ?_)
  refine Eq.trans (q_aload_n dX2_duel_20 (mk0 rfl) rfl rfl) ?_
  refine Eq.trans (q_getR (ci := 2) (k := 3) dX2_duel_21 (mk0 rfl) rfl) (bind_cg2 fun x21 hx21 => ?_)
  have hx21 := fR_isR hx21
  refine Eq.trans (q_iconst (v := 0) dX2_duel_24 (mk0 rfl) rfl) ?_
  refine Eq.trans (q_aaload dX2_duel_25 (mk0 rfl)) (bind_cg2 fun x25 hx25 => ?_)
  have hx25 := eR_isR hx25
  refine Eq.trans (q_aload_n dX2_duel_26 (mk0 rfl) rfl rfl) ?_
  refine Eq.trans (q_getR (ci := 2) (k := 0) dX2_duel_27 (mk0 rfl) rfl) (bind_cg2 fun x27 hx27 => ?_)
  have hx27 := fR_isR hx27
  refine Eq.trans (q_getR (ci := 6) (k := 1) dX2_duel_30 (mk0 rfl) rfl) (bind_cg2 fun x30 hx30 => ?_)
  have hx30 := fR_isR hx30
  refine Eq.trans (q_callV (as := [x30]) dX2_duel_33 (mk0 rfl) rfl rfl rfl (Nat.le_of_ble_eq_true rfl) (by simp [eA, ct_i, ct_l, ct_r, ct_n, ct_x, mX7_copyFrom, (cat_R hx30)])) (bind_cg fun b33 => ?_)
  refine Eq.trans (cV_bind rfl) (bind_cg fun p33 => ?_)
  show RS (ZZ L xs) (d + 1) mX2_duel 36 [some (.ref o), some (.int i1), some (.int i2), some (.int i3), some (.int i4), none] [] p33 = _
  refine Eq.trans (q_aload_n dX2_duel_36 (mk0 rfl) rfl rfl) ?_
  refine Eq.trans (q_iconst (v := 0) dX2_duel_37 (mk0 rfl) rfl) ?_
  refine Eq.trans (q_callV (as := [.int 0]) dX2_duel_38 (mk0 rfl) rfl rfl rfl (Nat.le_of_ble_eq_true rfl) (Nat.le_of_ble_eq_true rfl)) (bind_cg fun b38 => ?_)
  refine Eq.trans (cI_bind (Or.inl rfl)) (bind_cg fun p38 => ?_)
  show RS (ZZ L xs) (d + 1) mX2_duel 41 [some (.ref o), some (.int i1), some (.int i2), some (.int i3), some (.int i4), none] [.int p38.2] p38.1 = _
  refine Eq.trans (q_istore (lv2 := [some (.ref o), some (.int i1), some (.int i2), some (.int i3), some (.int i4), some (.int p38.2)]) dX2_duel_41 (mk0 rfl) (Nat.le_of_ble_eq_true rfl) rfl) ?_
  refine Eq.trans (q_iload dX2_duel_43 (mk0 rfl) rfl) ?_
  refine Eq.trans (q_if_ne (t := 53) dX2_duel_45 (mk0 rfl) rfl) (ite_cg ?_ ?_)
  · refine Eq.trans (q_aload_n dX2_duel_53 (mk0 rfl) rfl rfl) ?_
    refine Eq.trans (q_getI (ci := 2) (k := 9) dX2_duel_54 (mk0 rfl) rfl) (bind_cg fun x54 => ?_)
    rfl
  · refine Eq.trans (q_iload dX2_duel_48 (mk0 rfl) rfl) ?_
    refine Eq.trans (q_goto (t := 57) dX2_duel_50 (mk0 rfl) rfl) ?_
    rfl
set_option maxRecDepth 20000 in
theorem bX2_duel_57 {L : Nat} {xs : Nat → Int32} (d : Nat) (u0 : Option Value) (u1 : Option Value) (u2 : Option Value) (u3 : Option Value) (u4 : Option Value) (u5 : Option Value) (t0 : Int32) (ph : PH) : RS (ZZ L xs) (d + 1) mX2_duel 57 [u0, u1, u2, u3, u4, u5] [.int t0] ph = some (ph, some (.int t0)) := by
  exact q_ireturn dX2_duel_57 (show mK mX2_duel 57 [u0, u1, u2, u3, u4, u5] = [none, none, none, none, none, none] from rfl) rfl
set_option maxRecDepth 20000 in
theorem bX2_play_0 {L : Nat} {xs : Nat → Int32} (d : Nat) (o : Nat) (i1 : Int32) (ph : PH) : RS (ZZ L xs) (d + 1) mX2_play 0 [some (.ref o), some (.int i1), none, none, none, none, none, none, none, none, none] [] ph = (fR ph (.ref o) 2 3).bind fun x1 => (eR ph x1 i1).bind fun x5 => (fI ph (.ref o) 2 8).bind fun x9 => if (x9 : Int32) ≤ i1 then RS (ZZ L xs) (d + 1) mX2_play 20 [some (.ref o), some (.int i1), some (x5), none, none, none, none, none, none, none, none] [] ph else if (i1 : Int32) < 3 then if (2 : Int32) = 0 then none else if ¬ (iRem i1 2 : Int32) = 0 then RS (ZZ L xs) (d + 1) mX2_play 49 [some (.ref o), some (.int i1), some (x5), none, none, none, none, none, none, none, none] [.int 0] ph else RS (ZZ L xs) (d + 1) mX2_play 49 [some (.ref o), some (.int i1), some (x5), none, none, none, none, none, none, none, none] [.int 1] ph else RS (ZZ L xs) (d + 1) mX2_play 20 [some (.ref o), some (.int i1), some (x5), none, none, none, none, none, none, none, none] [] ph := by
  refine Eq.trans (q_aload_n dX2_play_0 (mk0 rfl) rfl rfl) ?_
  refine Eq.trans (q_getR (ci := 2) (k := 3) dX2_play_1 (mk0 rfl) rfl) (bind_cg2 fun x1 hx1 => ?_)
  have hx1 := fR_isR hx1
  refine Eq.trans (q_iload_n dX2_play_4 (mk0 rfl) rfl) ?_
  refine Eq.trans (q_aaload dX2_play_5 (mk0 rfl)) (bind_cg2 fun x5 hx5 => ?_)
  have hx5 := eR_isR hx5
  refine Eq.trans (q_astore_n (lv2 := [some (.ref o), some (.int i1), some (x5), none, none, none, none, none, none, none, none]) dX2_play_6 (mk0 rfl) (Nat.le_of_ble_eq_true rfl) (isA_R hx5) rfl) ?_
  refine Eq.trans (q_iload_n dX2_play_7 (mk0 rfl) rfl) ?_
  refine Eq.trans (q_aload_n dX2_play_8 (mk0 rfl) rfl rfl) ?_
  refine Eq.trans (q_getI (ci := 2) (k := 8) dX2_play_9 (mk0 rfl) rfl) (bind_cg fun x9 => ?_)
  refine Eq.trans (q_icmp_ge (t := 20) dX2_play_12 (mk0 rfl) rfl) (ite_cg ?_ ?_)
  · rfl
  · refine Eq.trans (q_iload_n dX2_play_15 (mk0 rfl) rfl) ?_
    refine Eq.trans (q_iconst (v := 3) dX2_play_16 (mk0 rfl) rfl) ?_
    refine Eq.trans (q_icmp_lt (t := 38) dX2_play_17 (mk0 rfl) rfl) (ite_cg ?_ ?_)
    · refine Eq.trans (q_iload_n dX2_play_38 (mk0 rfl) rfl) ?_
      refine Eq.trans (q_iconst (v := 2) dX2_play_39 (mk0 rfl) rfl) ?_
      refine Eq.trans (q_irem dX2_play_40 (mk0 rfl)) (ite_cg rfl ?_)
      refine Eq.trans (q_if_ne (t := 48) dX2_play_41 (mk0 rfl) rfl) (ite_cg ?_ ?_)
      · refine Eq.trans (q_iconst (v := 0) dX2_play_48 (mk0 rfl) rfl) ?_
        rfl
      · refine Eq.trans (q_iconst (v := 1) dX2_play_44 (mk0 rfl) rfl) ?_
        refine Eq.trans (q_goto (t := 49) dX2_play_45 (mk0 rfl) rfl) ?_
        rfl
    · rfl
set_option maxRecDepth 20000 in
theorem bX2_play_20 {L : Nat} {xs : Nat → Int32} (d : Nat) (o : Nat) (u1 : Option Value) (v2 : Value) (u3 : Option Value) (u4 : Option Value) (u5 : Option Value) (u6 : Option Value) (u7 : Option Value) (u8 : Option Value) (u9 : Option Value) (u10 : Option Value) (hv2 : isR v2 = true) (ph : PH) : RS (ZZ L xs) (d + 1) mX2_play 20 [some (.ref o), u1, some (v2), u3, u4, u5, u6, u7, u8, u9, u10] [] ph = (iO ph (.ref o) 2).bind fun b22 => (cI (ZZ L xs) d mX2_lead [.ref b22, v2] ph).bind fun p22 => (fR p22.1 (.ref o) 2 0).bind fun x27 => (fR p22.1 x27 6 1).bind fun x30 => (iO p22.1 (.ref o) 2).bind fun b33 => (cI (ZZ L xs) d mX2_lead [.ref b33, x30] p22.1).bind fun p33 => some (p33.1, some (.int (p22.2 - p33.2))) := by
  refine Eq.trans (q_aload_n dX2_play_20 (show mK mX2_play 20 [some (.ref o), u1, some (v2), u3, u4, u5, u6, u7, u8, u9, u10] = [some (.ref o), none, some (v2), none, none, none, none, none, none, none, none] from rfl) rfl rfl) ?_
  refine Eq.trans (q_aload_n dX2_play_21 (mk0 rfl) rfl (isA_R hv2)) ?_
  refine Eq.trans (q_callV (as := [v2]) dX2_play_22 (mk0 rfl) rfl rfl rfl (Nat.le_of_ble_eq_true rfl) (by simp [eA, ct_i, ct_l, ct_r, ct_n, ct_x, mX2_lead, (cat_R hv2)])) (bind_cg fun b22 => ?_)
  refine Eq.trans (cI_bind (Or.inl rfl)) (bind_cg fun p22 => ?_)
  show RS (ZZ L xs) (d + 1) mX2_play 25 [some (.ref o), none, some (v2), none, none, none, none, none, none, none, none] [.int p22.2] p22.1 = _
  refine Eq.trans (q_aload_n dX2_play_25 (mk0 rfl) rfl rfl) ?_
  refine Eq.trans (q_aload_n dX2_play_26 (mk0 rfl) rfl rfl) ?_
  refine Eq.trans (q_getR (ci := 2) (k := 0) dX2_play_27 (mk0 rfl) rfl) (bind_cg2 fun x27 hx27 => ?_)
  have hx27 := fR_isR hx27
  refine Eq.trans (q_getR (ci := 6) (k := 1) dX2_play_30 (mk0 rfl) rfl) (bind_cg2 fun x30 hx30 => ?_)
  have hx30 := fR_isR hx30
  refine Eq.trans (q_callV (as := [x30]) dX2_play_33 (mk0 rfl) rfl rfl rfl (Nat.le_of_ble_eq_true rfl) (by simp [eA, ct_i, ct_l, ct_r, ct_n, ct_x, mX2_lead, (cat_R hx30)])) (bind_cg fun b33 => ?_)
  refine Eq.trans (cI_bind (Or.inl rfl)) (bind_cg fun p33 => ?_)
  show RS (ZZ L xs) (d + 1) mX2_play 36 [some (.ref o), none, some (v2), none, none, none, none, none, none, none, none] [.int p33.2, .int p22.2] p33.1 = _
  refine Eq.trans (q_isub dX2_play_36 (mk0 rfl)) ?_
  exact q_ireturn dX2_play_37 (mk0 rfl) rfl
set_option maxRecDepth 20000 in
theorem bX2_play_49 {L : Nat} {xs : Nat → Int32} (d : Nat) (o : Nat) (i1 : Int32) (v2 : Value) (u3 : Option Value) (u4 : Option Value) (u5 : Option Value) (u6 : Option Value) (u7 : Option Value) (u8 : Option Value) (u9 : Option Value) (u10 : Option Value) (t0 : Int32) (hv2 : isR v2 = true) (ph : PH) : RS (ZZ L xs) (d + 1) mX2_play 49 [some (.ref o), some (.int i1), some (v2), u3, u4, u5, u6, u7, u8, u9, u10] [.int t0] ph = if (t0 : Int32) = 0 then (fI ph (.ref o) 2 7).bind fun x62 => RS (ZZ L xs) (d + 1) mX2_play 65 [some (.ref o), some (.int i1), some (v2), some (.int t0), none, none, none, none, none, none, none] [.int x62] ph else (fI ph (.ref o) 2 6).bind fun x55 => RS (ZZ L xs) (d + 1) mX2_play 65 [some (.ref o), some (.int i1), some (v2), some (.int t0), none, none, none, none, none, none, none] [.int x55] ph := by
  refine Eq.trans (q_istore_n (lv2 := [some (.ref o), some (.int i1), some (v2), some (.int t0), none, none, none, none, none, none, none]) dX2_play_49 (show mK mX2_play 49 [some (.ref o), some (.int i1), some (v2), u3, u4, u5, u6, u7, u8, u9, u10] = [some (.ref o), some (.int i1), some (v2), none, none, none, none, none, none, none, none] from rfl) (Nat.le_of_ble_eq_true rfl) (by simp [s1, s2, s0, (cat_R hv2)] <;> rfl)) ?_
  refine Eq.trans (q_iload_n dX2_play_50 (mk0 rfl) rfl) ?_
  refine Eq.trans (q_if_eq (t := 61) dX2_play_51 (mk0 rfl) rfl) (ite_cg ?_ ?_)
  · refine Eq.trans (q_aload_n dX2_play_61 (mk0 rfl) rfl rfl) ?_
    refine Eq.trans (q_getI (ci := 2) (k := 7) dX2_play_62 (mk0 rfl) rfl) (bind_cg fun x62 => ?_)
    rfl
  · refine Eq.trans (q_aload_n dX2_play_54 (mk0 rfl) rfl rfl) ?_
    refine Eq.trans (q_getI (ci := 2) (k := 6) dX2_play_55 (mk0 rfl) rfl) (bind_cg fun x55 => ?_)
    refine Eq.trans (q_goto (t := 65) dX2_play_58 (mk0 rfl) rfl) ?_
    rfl
set_option maxRecDepth 20000 in
theorem bX2_play_65 {L : Nat} {xs : Nat → Int32} (d : Nat) (o : Nat) (i1 : Int32) (v2 : Value) (i3 : Int32) (u4 : Option Value) (u5 : Option Value) (u6 : Option Value) (u7 : Option Value) (u8 : Option Value) (u9 : Option Value) (u10 : Option Value) (t0 : Int32) (hv2 : isR v2 = true) (ph : PH) : RS (ZZ L xs) (d + 1) mX2_play 65 [some (.ref o), some (.int i1), some (v2), some (.int i3), u4, u5, u6, u7, u8, u9, u10] [.int t0] ph = (fL ph v2 7 3).bind fun x68 => (fR ph v2 7 4).bind fun x72 => (eI ph x72 t0).bind fun x77 => (cI (ZZ L xs) d mX11_neighbours [.long x68, .int x77] ph).bind fun p78 => (fR p78.1 v2 7 4).bind fun x83 => (eI p78.1 x83 t0).bind fun x88 => (fR p78.1 (.ref o) 2 3).bind fun x94 => (eR p78.1 x94 (i1 + 1)).bind fun x100 => RS (ZZ L xs) (d + 1) mX2_play 112 [some (.ref o), some (.int i1), some (v2), some (.int i3), some (.int t0), some (.int (p78.2 ||| (iShl 1 x88))), some (x100), some (.int 0), some (.int 0), some (.int 0), none] [] p78.1 := by
  refine Eq.trans (q_istore (lv2 := [some (.ref o), some (.int i1), some (v2), some (.int i3), some (.int t0), none, none, none, none, none, none]) dX2_play_65 (show mK mX2_play 65 [some (.ref o), some (.int i1), some (v2), some (.int i3), u4, u5, u6, u7, u8, u9, u10] = [some (.ref o), some (.int i1), some (v2), some (.int i3), none, none, none, none, none, none, none] from rfl) (Nat.le_of_ble_eq_true rfl) rfl) ?_
  refine Eq.trans (q_aload_n dX2_play_67 (mk0 rfl) rfl (isA_R hv2)) ?_
  refine Eq.trans (q_getL (ci := 7) (k := 3) dX2_play_68 (mk0 rfl) rfl) (bind_cg fun x68 => ?_)
  refine Eq.trans (q_aload_n dX2_play_71 (mk0 rfl) rfl (isA_R hv2)) ?_
  refine Eq.trans (q_getR (ci := 7) (k := 4) dX2_play_72 (mk0 rfl) rfl) (bind_cg2 fun x72 hx72 => ?_)
  have hx72 := fR_isR hx72
  refine Eq.trans (q_iload dX2_play_75 (mk0 rfl) rfl) ?_
  refine Eq.trans (q_iaload dX2_play_77 (mk0 rfl) (no_ext hx72)) (bind_cg fun x77 => ?_)
  refine Eq.trans (q_callS (as := [.long x68, .int x77]) dX2_play_78 (mk0 rfl) rfl (Or.inl rfl) rfl rfl (Nat.le_of_ble_eq_true rfl) (Nat.le_of_ble_eq_true rfl)) ?_
  refine Eq.trans (cI_bind (Or.inl rfl)) (bind_cg fun p78 => ?_)
  show RS (ZZ L xs) (d + 1) mX2_play 81 [some (.ref o), some (.int i1), some (v2), some (.int i3), some (.int t0), none, none, none, none, none, none] [.int p78.2] p78.1 = _
  refine Eq.trans (q_iconst (v := 1) dX2_play_81 (mk0 rfl) rfl) ?_
  refine Eq.trans (q_aload_n dX2_play_82 (mk0 rfl) rfl (isA_R hv2)) ?_
  refine Eq.trans (q_getR (ci := 7) (k := 4) dX2_play_83 (mk0 rfl) rfl) (bind_cg2 fun x83 hx83 => ?_)
  have hx83 := fR_isR hx83
  refine Eq.trans (q_iload dX2_play_86 (mk0 rfl) rfl) ?_
  refine Eq.trans (q_iaload dX2_play_88 (mk0 rfl) (no_ext hx83)) (bind_cg fun x88 => ?_)
  refine Eq.trans (q_ishl dX2_play_89 (mk0 rfl)) ?_
  refine Eq.trans (q_ior dX2_play_90 (mk0 rfl)) ?_
  refine Eq.trans (q_istore (lv2 := [some (.ref o), some (.int i1), some (v2), some (.int i3), some (.int t0), some (.int (p78.2 ||| (iShl 1 x88))), none, none, none, none, none]) dX2_play_91 (mk0 rfl) (Nat.le_of_ble_eq_true rfl) rfl) ?_
  refine Eq.trans (q_aload_n dX2_play_93 (mk0 rfl) rfl rfl) ?_
  refine Eq.trans (q_getR (ci := 2) (k := 3) dX2_play_94 (mk0 rfl) rfl) (bind_cg2 fun x94 hx94 => ?_)
  have hx94 := fR_isR hx94
  refine Eq.trans (q_iload_n dX2_play_97 (mk0 rfl) rfl) ?_
  refine Eq.trans (q_iconst (v := 1) dX2_play_98 (mk0 rfl) rfl) ?_
  refine Eq.trans (q_iadd dX2_play_99 (mk0 rfl)) ?_
  refine Eq.trans (q_aaload dX2_play_100 (mk0 rfl)) (bind_cg2 fun x100 hx100 => ?_)
  have hx100 := eR_isR hx100
  refine Eq.trans (q_astore (lv2 := [some (.ref o), some (.int i1), some (v2), some (.int i3), some (.int t0), some (.int (p78.2 ||| (iShl 1 x88))), some (x100), none, none, none, none]) dX2_play_101 (mk0 rfl) (Nat.le_of_ble_eq_true rfl) (isA_R hx100) rfl) ?_
  refine Eq.trans (q_iconst (v := 0) dX2_play_103 (mk0 rfl) rfl) ?_
  refine Eq.trans (q_istore (lv2 := [some (.ref o), some (.int i1), some (v2), some (.int i3), some (.int t0), some (.int (p78.2 ||| (iShl 1 x88))), some (x100), some (.int 0), none, none, none]) dX2_play_104 (mk0 rfl) (Nat.le_of_ble_eq_true rfl) (by simp [s1, s2, s0, (cat_R hx100)] <;> rfl)) ?_
  refine Eq.trans (q_iconst (v := 0) dX2_play_106 (mk0 rfl) rfl) ?_
  refine Eq.trans (q_istore (lv2 := [some (.ref o), some (.int i1), some (v2), some (.int i3), some (.int t0), some (.int (p78.2 ||| (iShl 1 x88))), some (x100), some (.int 0), some (.int 0), none, none]) dX2_play_107 (mk0 rfl) (Nat.le_of_ble_eq_true rfl) rfl) ?_
  refine Eq.trans (q_iconst (v := 0) dX2_play_109 (mk0 rfl) rfl) ?_
  refine Eq.trans (q_istore (lv2 := [some (.ref o), some (.int i1), some (v2), some (.int i3), some (.int t0), some (.int (p78.2 ||| (iShl 1 x88))), some (x100), some (.int 0), some (.int 0), some (.int 0), none]) dX2_play_110 (mk0 rfl) (Nat.le_of_ble_eq_true rfl) rfl) ?_
  rfl
set_option maxRecDepth 20000 in
theorem bX2_play_112 {L : Nat} {xs : Nat → Int32} (d : Nat) (o : Nat) (i1 : Int32) (v2 : Value) (i3 : Int32) (i4 : Int32) (i5 : Int32) (v6 : Value) (i7 : Int32) (i8 : Int32) (i9 : Int32) (u10 : Option Value) (hv2 : isR v2 = true) (hv6 : isR v6 = true) (ph : PH) : RS (ZZ L xs) (d + 1) mX2_play 112 [some (.ref o), some (.int i1), some (v2), some (.int i3), some (.int i4), some (.int i5), some (v6), some (.int i7), some (.int i8), some (.int i9), u10] [] ph = (fR ph (.ref o) 2 0).bind fun x115 => (fR ph x115 6 0).bind fun x118 => (fI ph x118 9 0).bind fun x121 => if (x121 : Int32) ≤ i9 then some (ph, some (.int i7)) else if ¬ ((iShr i5 i9) &&& 1 : Int32) = 1 then RS (ZZ L xs) (d + 1) mX2_play 223 [some (.ref o), some (.int i1), some (v2), some (.int i3), some (.int i4), some (.int i5), some (v6), some (.int i7), some (.int i8), some (.int i9), none] [] ph else (iO ph v6 7).bind fun b141 => (cV (ZZ L xs) d mX7_copyFrom [.ref b141, v2] ph).bind fun p141 => (fR p141 v6 7 4).bind fun x146 => (wI p141 x146 i4 i9).bind fun h153 => (fR h153 (.ref o) 2 1).bind fun x155 => (iO h153 x155 0).bind fun b160 => (cI (ZZ L xs) d mX0_pass [.ref b160, v6] h153).bind fun p160 => (iO p160.1 (.ref o) 2).bind fun b168 => (cI (ZZ L xs) d mX2_play [.ref b168, .int (i1 + 1)] p160.1).bind fun p168 => if (i8 : Int32) = 0 then RS (ZZ L xs) (d + 1) mX2_play 199 [some (.ref o), some (.int i1), some (v2), some (.int i3), some (.int i4), some (.int i5), some (v6), some (.int i7), some (.int i8), some (.int i9), some (.int p168.2)] [] p168.1 else if (i3 : Int32) = 0 then if (i7 : Int32) ≤ p168.2 then RS (ZZ L xs) (d + 1) mX2_play 223 [some (.ref o), some (.int i1), some (v2), some (.int i3), some (.int i4), some (.int i5), some (v6), some (.int i7), some (.int i8), some (.int i9), some (.int p168.2)] [] p168.1 else RS (ZZ L xs) (d + 1) mX2_play 199 [some (.ref o), some (.int i1), some (v2), some (.int i3), some (.int i4), some (.int i5), some (v6), some (.int i7), some (.int i8), some (.int i9), some (.int p168.2)] [] p168.1 else if (p168.2 : Int32) ≤ i7 then RS (ZZ L xs) (d + 1) mX2_play 223 [some (.ref o), some (.int i1), some (v2), some (.int i3), some (.int i4), some (.int i5), some (v6), some (.int i7), some (.int i8), some (.int i9), some (.int p168.2)] [] p168.1 else RS (ZZ L xs) (d + 1) mX2_play 199 [some (.ref o), some (.int i1), some (v2), some (.int i3), some (.int i4), some (.int i5), some (v6), some (.int i7), some (.int i8), some (.int i9), some (.int p168.2)] [] p168.1 := by
  refine Eq.trans (q_iload dX2_play_112 (show mK mX2_play 112 [some (.ref o), some (.int i1), some (v2), some (.int i3), some (.int i4), some (.int i5), some (v6), some (.int i7), some (.int i8), some (.int i9), u10] = [some (.ref o), some (.int i1), some (v2), some (.int i3), some (.int i4), some (.int i5), some (v6), some (.int i7), some (.int i8), some (.int i9), none] from rfl) rfl) ?_
  refine Eq.trans (q_aload_n dX2_play_114 (mk0 rfl) rfl rfl) ?_
  refine Eq.trans (q_getR (ci := 2) (k := 0) dX2_play_115 (mk0 rfl) rfl) (bind_cg2 fun x115 hx115 => ?_)
  have hx115 := fR_isR hx115
  refine Eq.trans (q_getR (ci := 6) (k := 0) dX2_play_118 (mk0 rfl) rfl) (bind_cg2 fun x118 hx118 => ?_)
  have hx118 := fR_isR hx118
  refine Eq.trans (q_getI (ci := 9) (k := 0) dX2_play_121 (mk0 rfl) rfl) (bind_cg fun x121 => ?_)
  refine Eq.trans (q_icmp_ge (t := 229) dX2_play_124 (mk0 rfl) rfl) (ite_cg ?_ ?_)
  · refine Eq.trans (q_iload dX2_play_229 (mk0 rfl) rfl) ?_
    exact q_ireturn dX2_play_231 (mk0 rfl) rfl
  · refine Eq.trans (q_iload dX2_play_127 (mk0 rfl) rfl) ?_
    refine Eq.trans (q_iload dX2_play_129 (mk0 rfl) rfl) ?_
    refine Eq.trans (q_ishr dX2_play_131 (mk0 rfl)) ?_
    refine Eq.trans (q_iconst (v := 1) dX2_play_132 (mk0 rfl) rfl) ?_
    refine Eq.trans (q_iand dX2_play_133 (mk0 rfl)) ?_
    refine Eq.trans (q_iconst (v := 1) dX2_play_134 (mk0 rfl) rfl) ?_
    refine Eq.trans (q_icmp_ne (t := 223) dX2_play_135 (mk0 rfl) rfl) (ite_cg ?_ ?_)
    · rfl
    · refine Eq.trans (q_aload dX2_play_138 (mk0 rfl) rfl (isA_R hv6)) ?_
      refine Eq.trans (q_aload_n dX2_play_140 (mk0 rfl) rfl (isA_R hv2)) ?_
      refine Eq.trans (q_callV (as := [v2]) dX2_play_141 (mk0 rfl) rfl rfl rfl (Nat.le_of_ble_eq_true rfl) (by simp [eA, ct_i, ct_l, ct_r, ct_n, ct_x, mX7_copyFrom, (cat_R hv2)])) (bind_cg fun b141 => ?_)
      refine Eq.trans (cV_bind rfl) (bind_cg fun p141 => ?_)
      show RS (ZZ L xs) (d + 1) mX2_play 144 [some (.ref o), some (.int i1), some (v2), some (.int i3), some (.int i4), some (.int i5), some (v6), some (.int i7), some (.int i8), some (.int i9), none] [] p141 = _
      refine Eq.trans (q_aload dX2_play_144 (mk0 rfl) rfl (isA_R hv6)) ?_
      refine Eq.trans (q_getR (ci := 7) (k := 4) dX2_play_146 (mk0 rfl) rfl) (bind_cg2 fun x146 hx146 => ?_)
      have hx146 := fR_isR hx146
      refine Eq.trans (q_iload dX2_play_149 (mk0 rfl) rfl) ?_
      refine Eq.trans (q_iload dX2_play_151 (mk0 rfl) rfl) ?_
      refine Eq.trans (q_iastore dX2_play_153 (mk0 rfl)) (bind_cg fun h153 => ?_)
      refine Eq.trans (q_aload_n dX2_play_154 (mk0 rfl) rfl rfl) ?_
      refine Eq.trans (q_getR (ci := 2) (k := 1) dX2_play_155 (mk0 rfl) rfl) (bind_cg2 fun x155 hx155 => ?_)
      have hx155 := fR_isR hx155
      refine Eq.trans (q_aload dX2_play_158 (mk0 rfl) rfl (isA_R hv6)) ?_
      refine Eq.trans (q_callV (as := [v6]) dX2_play_160 (mk0 rfl) rfl rfl rfl (Nat.le_of_ble_eq_true rfl) (by simp [eA, ct_i, ct_l, ct_r, ct_n, ct_x, mX0_pass, (cat_R hv6)])) (bind_cg fun b160 => ?_)
      refine Eq.trans (cI_bind (Or.inl rfl)) (bind_cg fun p160 => ?_)
      show RS (ZZ L xs) (d + 1) mX2_play 163 [some (.ref o), some (.int i1), some (v2), some (.int i3), some (.int i4), some (.int i5), some (v6), some (.int i7), some (.int i8), some (.int i9), none] [.int p160.2] p160.1 = _
      refine Eq.trans (q_pop dX2_play_163 (mk0 rfl) rfl) ?_
      refine Eq.trans (q_aload_n dX2_play_164 (mk0 rfl) rfl rfl) ?_
      refine Eq.trans (q_iload_n dX2_play_165 (mk0 rfl) rfl) ?_
      refine Eq.trans (q_iconst (v := 1) dX2_play_166 (mk0 rfl) rfl) ?_
      refine Eq.trans (q_iadd dX2_play_167 (mk0 rfl)) ?_
      refine Eq.trans (q_callV (as := [.int (i1 + 1)]) dX2_play_168 (mk0 rfl) rfl rfl rfl (Nat.le_of_ble_eq_true rfl) (Nat.le_of_ble_eq_true rfl)) (bind_cg fun b168 => ?_)
      refine Eq.trans (cI_bind (Or.inl rfl)) (bind_cg fun p168 => ?_)
      show RS (ZZ L xs) (d + 1) mX2_play 171 [some (.ref o), some (.int i1), some (v2), some (.int i3), some (.int i4), some (.int i5), some (v6), some (.int i7), some (.int i8), some (.int i9), none] [.int p168.2] p168.1 = _
      refine Eq.trans (q_istore (lv2 := [some (.ref o), some (.int i1), some (v2), some (.int i3), some (.int i4), some (.int i5), some (v6), some (.int i7), some (.int i8), some (.int i9), some (.int p168.2)]) dX2_play_171 (mk0 rfl) (Nat.le_of_ble_eq_true rfl) rfl) ?_
      refine Eq.trans (q_iload dX2_play_173 (mk0 rfl) rfl) ?_
      refine Eq.trans (q_if_eq (t := 199) dX2_play_175 (mk0 rfl) rfl) (ite_cg ?_ ?_)
      · rfl
      · refine Eq.trans (q_iload_n dX2_play_178 (mk0 rfl) rfl) ?_
        refine Eq.trans (q_if_eq (t := 192) dX2_play_179 (mk0 rfl) rfl) (ite_cg ?_ ?_)
        · refine Eq.trans (q_iload dX2_play_192 (mk0 rfl) rfl) ?_
          refine Eq.trans (q_iload dX2_play_194 (mk0 rfl) rfl) ?_
          refine Eq.trans (q_icmp_ge (t := 223) dX2_play_196 (mk0 rfl) rfl) (ite_cg ?_ ?_)
          · rfl
          · rfl
        · refine Eq.trans (q_iload dX2_play_182 (mk0 rfl) rfl) ?_
          refine Eq.trans (q_iload dX2_play_184 (mk0 rfl) rfl) ?_
          refine Eq.trans (q_icmp_le (t := 223) dX2_play_186 (mk0 rfl) rfl) (ite_cg ?_ ?_)
          · rfl
          · refine Eq.trans (q_goto (t := 199) dX2_play_189 (mk0 rfl) rfl) ?_
            rfl
set_option maxRecDepth 20000 in
theorem bX2_play_199 {L : Nat} {xs : Nat → Int32} (d : Nat) (o : Nat) (i1 : Int32) (v2 : Value) (i3 : Int32) (i4 : Int32) (i5 : Int32) (v6 : Value) (u7 : Option Value) (u8 : Option Value) (i9 : Int32) (i10 : Int32) (hv2 : isR v2 = true) (hv6 : isR v6 = true) (ph : PH) : RS (ZZ L xs) (d + 1) mX2_play 199 [some (.ref o), some (.int i1), some (v2), some (.int i3), some (.int i4), some (.int i5), some (v6), u7, u8, some (.int i9), some (.int i10)] [] ph = if ¬ (i1 : Int32) = 0 then (fI ph (.ref o) 2 9).bind fun x217 => RS (ZZ L xs) (d + 1) mX2_play 220 [some (.ref o), some (.int i1), some (v2), some (.int i3), some (.int i4), some (.int i5), some (v6), some (.int i10), some (.int 1), some (.int i9), some (.int i10)] [.int x217, .ref o] ph else RS (ZZ L xs) (d + 1) mX2_play 220 [some (.ref o), some (.int i1), some (v2), some (.int i3), some (.int i4), some (.int i5), some (v6), some (.int i10), some (.int 1), some (.int i9), some (.int i10)] [.int i9, .ref o] ph := by
  refine Eq.trans (q_iconst (v := 1) dX2_play_199 (show mK mX2_play 199 [some (.ref o), some (.int i1), some (v2), some (.int i3), some (.int i4), some (.int i5), some (v6), u7, u8, some (.int i9), some (.int i10)] = [some (.ref o), some (.int i1), some (v2), some (.int i3), some (.int i4), some (.int i5), some (v6), none, none, some (.int i9), some (.int i10)] from rfl) rfl) ?_
  refine Eq.trans (q_istore (lv2 := [some (.ref o), some (.int i1), some (v2), some (.int i3), some (.int i4), some (.int i5), some (v6), none, some (.int 1), some (.int i9), some (.int i10)]) dX2_play_200 (mk0 rfl) (Nat.le_of_ble_eq_true rfl) rfl) ?_
  refine Eq.trans (q_iload dX2_play_202 (mk0 rfl) rfl) ?_
  refine Eq.trans (q_istore (lv2 := [some (.ref o), some (.int i1), some (v2), some (.int i3), some (.int i4), some (.int i5), some (v6), some (.int i10), some (.int 1), some (.int i9), some (.int i10)]) dX2_play_204 (mk0 rfl) (Nat.le_of_ble_eq_true rfl) (by simp [s1, s2, s0, (cat_R hv6)] <;> rfl)) ?_
  refine Eq.trans (q_aload_n dX2_play_206 (mk0 rfl) rfl rfl) ?_
  refine Eq.trans (q_iload_n dX2_play_207 (mk0 rfl) rfl) ?_
  refine Eq.trans (q_if_ne (t := 216) dX2_play_208 (mk0 rfl) rfl) (ite_cg ?_ ?_)
  · refine Eq.trans (q_aload_n dX2_play_216 (mk0 rfl) rfl rfl) ?_
    refine Eq.trans (q_getI (ci := 2) (k := 9) dX2_play_217 (mk0 rfl) rfl) (bind_cg fun x217 => ?_)
    rfl
  · refine Eq.trans (q_iload dX2_play_211 (mk0 rfl) rfl) ?_
    refine Eq.trans (q_goto (t := 220) dX2_play_213 (mk0 rfl) rfl) ?_
    rfl
set_option maxRecDepth 20000 in
theorem bX2_play_220 {L : Nat} {xs : Nat → Int32} (d : Nat) (o : Nat) (i1 : Int32) (v2 : Value) (i3 : Int32) (i4 : Int32) (i5 : Int32) (v6 : Value) (i7 : Int32) (i8 : Int32) (i9 : Int32) (u10 : Option Value) (t0 : Int32) (w1 : Value) (hv2 : isR v2 = true) (hv6 : isR v6 = true) (hw1 : isR w1 = true) (ph : PH) : RS (ZZ L xs) (d + 1) mX2_play 220 [some (.ref o), some (.int i1), some (v2), some (.int i3), some (.int i4), some (.int i5), some (v6), some (.int i7), some (.int i8), some (.int i9), u10] [.int t0, w1] ph = (fP ph w1 2 9 (.int t0)).bind fun h220 => RS (ZZ L xs) (d + 1) mX2_play 223 [some (.ref o), some (.int i1), some (v2), some (.int i3), some (.int i4), some (.int i5), some (v6), some (.int i7), some (.int i8), some (.int i9), none] [] h220 := by
  refine Eq.trans (q_put (ci := 2) (k := 9) (kd := 0) dX2_play_220 (show mK mX2_play 220 [some (.ref o), some (.int i1), some (v2), some (.int i3), some (.int i4), some (.int i5), some (v6), some (.int i7), some (.int i8), some (.int i9), u10] = [some (.ref o), some (.int i1), some (v2), some (.int i3), some (.int i4), some (.int i5), some (v6), some (.int i7), some (.int i8), some (.int i9), none] from rfl) rfl rfl (fun h => by cases h)) (bind_cg fun h220 => ?_)
  rfl
set_option maxRecDepth 20000 in
theorem bX2_play_223 {L : Nat} {xs : Nat → Int32} (d : Nat) (o : Nat) (i1 : Int32) (v2 : Value) (i3 : Int32) (i4 : Int32) (i5 : Int32) (v6 : Value) (i7 : Int32) (i8 : Int32) (i9 : Int32) (u10 : Option Value) (hv2 : isR v2 = true) (hv6 : isR v6 = true) (ph : PH) : RS (ZZ L xs) (d + 1) mX2_play 223 [some (.ref o), some (.int i1), some (v2), some (.int i3), some (.int i4), some (.int i5), some (v6), some (.int i7), some (.int i8), some (.int i9), u10] [] ph = RS (ZZ L xs) (d + 1) mX2_play 112 [some (.ref o), some (.int i1), some (v2), some (.int i3), some (.int i4), some (.int i5), some (v6), some (.int i7), some (.int i8), some (.int (i9 + 1)), none] [] ph := by
  refine Eq.trans (q_iinc (v := 1) (lv2 := [some (.ref o), some (.int i1), some (v2), some (.int i3), some (.int i4), some (.int i5), some (v6), some (.int i7), some (.int i8), some (.int (i9 + 1)), none]) dX2_play_223 (show mK mX2_play 223 [some (.ref o), some (.int i1), some (v2), some (.int i3), some (.int i4), some (.int i5), some (v6), some (.int i7), some (.int i8), some (.int i9), u10] = [some (.ref o), some (.int i1), some (v2), some (.int i3), some (.int i4), some (.int i5), some (v6), some (.int i7), some (.int i8), some (.int i9), none] from rfl) rfl rfl rfl) ?_
  refine Eq.trans (q_goto (t := 112) dX2_play_226 (mk0 rfl) rfl) ?_
  rfl
set_option maxRecDepth 20000 in
theorem bX2_lead_0 {L : Nat} {xs : Nat → Int32} (d : Nat) (o : Nat) (v1 : Value) (hv1 : isR v1 = true) (ph : PH) : RS (ZZ L xs) (d + 1) mX2_lead 0 [some (.ref o), some (v1)] [] ph = (fR ph v1 7 7).bind fun x1 => (fI ph (.ref o) 2 6).bind fun x5 => (eI ph x1 x5).bind fun x8 => (fR ph v1 7 7).bind fun x10 => (fI ph (.ref o) 2 7).bind fun x14 => (eI ph x10 x14).bind fun x17 => some (ph, some (.int (x8 - x17))) := by
  refine Eq.trans (q_aload_n dX2_lead_0 (mk0 rfl) rfl (isA_R hv1)) ?_
  refine Eq.trans (q_getR (ci := 7) (k := 7) dX2_lead_1 (mk0 rfl) rfl) (bind_cg2 fun x1 hx1 => ?_)
  have hx1 := fR_isR hx1
  refine Eq.trans (q_aload_n dX2_lead_4 (mk0 rfl) rfl rfl) ?_
  refine Eq.trans (q_getI (ci := 2) (k := 6) dX2_lead_5 (mk0 rfl) rfl) (bind_cg fun x5 => ?_)
  refine Eq.trans (q_iaload dX2_lead_8 (mk0 rfl) (no_ext hx1)) (bind_cg fun x8 => ?_)
  refine Eq.trans (q_aload_n dX2_lead_9 (mk0 rfl) rfl (isA_R hv1)) ?_
  refine Eq.trans (q_getR (ci := 7) (k := 7) dX2_lead_10 (mk0 rfl) rfl) (bind_cg2 fun x10 hx10 => ?_)
  have hx10 := fR_isR hx10
  refine Eq.trans (q_aload_n dX2_lead_13 (mk0 rfl) rfl rfl) ?_
  refine Eq.trans (q_getI (ci := 2) (k := 7) dX2_lead_14 (mk0 rfl) rfl) (bind_cg fun x14 => ?_)
  refine Eq.trans (q_iaload dX2_lead_17 (mk0 rfl) (no_ext hx10)) (bind_cg fun x17 => ?_)
  refine Eq.trans (q_isub dX2_lead_18 (mk0 rfl)) ?_
  exact q_ireturn dX2_lead_19 (mk0 rfl) rfl
set_option maxRecDepth 20000 in
theorem bX2_stableTwos_0 {L : Nat} {xs : Nat → Int32} (d : Nat) (o : Nat) (i1 : Int32) (i2 : Int32) (i3 : Int32) (i4 : Int32) (ph : PH) : RS (ZZ L xs) (d + 1) mX2_stableTwos 0 [some (.ref o), some (.int i1), some (.int i2), some (.int i3), some (.int i4), none, none, none, none, none] [] ph = (iO ph (.ref o) 2).bind fun b4 => (cV (ZZ L xs) d mX2_fillGains [.ref b4, .int i1, .int i2, .int i3] ph).bind fun p4 => RS (ZZ L xs) (d + 1) mX2_stableTwos 21 [some (.ref o), some (.int i1), some (.int i2), some (.int i3), some (.int i4), some (.int 0), some (.int ((-2))), some (.int ((-2))), some (.int 0), none] [] p4 := by
  refine Eq.trans (q_aload_n dX2_stableTwos_0 (mk0 rfl) rfl rfl) ?_
  refine Eq.trans (q_iload_n dX2_stableTwos_1 (mk0 rfl) rfl) ?_
  refine Eq.trans (q_iload_n dX2_stableTwos_2 (mk0 rfl) rfl) ?_
  refine Eq.trans (q_iload_n dX2_stableTwos_3 (mk0 rfl) rfl) ?_
  refine Eq.trans (q_callV (as := [.int i1, .int i2, .int i3]) dX2_stableTwos_4 (mk0 rfl) rfl rfl rfl (Nat.le_of_ble_eq_true rfl) (Nat.le_of_ble_eq_true rfl)) (bind_cg fun b4 => ?_)
  refine Eq.trans (cV_bind rfl) (bind_cg fun p4 => ?_)
  show RS (ZZ L xs) (d + 1) mX2_stableTwos 7 [some (.ref o), some (.int i1), some (.int i2), some (.int i3), some (.int i4), none, none, none, none, none] [] p4 = _
  refine Eq.trans (q_iconst (v := 0) dX2_stableTwos_7 (mk0 rfl) rfl) ?_
  refine Eq.trans (q_istore (lv2 := [some (.ref o), some (.int i1), some (.int i2), some (.int i3), some (.int i4), some (.int 0), none, none, none, none]) dX2_stableTwos_8 (mk0 rfl) (Nat.le_of_ble_eq_true rfl) rfl) ?_
  refine Eq.trans (q_bipush (v := (-2)) dX2_stableTwos_10 (mk0 rfl) rfl) ?_
  refine Eq.trans (q_istore (lv2 := [some (.ref o), some (.int i1), some (.int i2), some (.int i3), some (.int i4), some (.int 0), some (.int ((-2))), none, none, none]) dX2_stableTwos_12 (mk0 rfl) (Nat.le_of_ble_eq_true rfl) rfl) ?_
  refine Eq.trans (q_bipush (v := (-2)) dX2_stableTwos_14 (mk0 rfl) rfl) ?_
  refine Eq.trans (q_istore (lv2 := [some (.ref o), some (.int i1), some (.int i2), some (.int i3), some (.int i4), some (.int 0), some (.int ((-2))), some (.int ((-2))), none, none]) dX2_stableTwos_16 (mk0 rfl) (Nat.le_of_ble_eq_true rfl) rfl) ?_
  refine Eq.trans (q_iconst (v := 0) dX2_stableTwos_18 (mk0 rfl) rfl) ?_
  refine Eq.trans (q_istore (lv2 := [some (.ref o), some (.int i1), some (.int i2), some (.int i3), some (.int i4), some (.int 0), some (.int ((-2))), some (.int ((-2))), some (.int 0), none]) dX2_stableTwos_19 (mk0 rfl) (Nat.le_of_ble_eq_true rfl) rfl) ?_
  rfl
set_option maxRecDepth 20000 in
theorem bX2_stableTwos_21 {L : Nat} {xs : Nat → Int32} (d : Nat) (o : Nat) (u1 : Option Value) (u2 : Option Value) (u3 : Option Value) (i4 : Int32) (i5 : Int32) (i6 : Int32) (i7 : Int32) (i8 : Int32) (u9 : Option Value) (ph : PH) : RS (ZZ L xs) (d + 1) mX2_stableTwos 21 [some (.ref o), u1, u2, u3, some (.int i4), some (.int i5), some (.int i6), some (.int i7), some (.int i8), u9] [] ph = (fR ph (.ref o) 2 0).bind fun x24 => (fR ph x24 6 0).bind fun x27 => (fI ph x27 9 0).bind fun x30 => if (x30 : Int32) ≤ i8 then if ¬ (i4 : Int32) = 0 then if ¬ (i4 : Int32) = 1 then RS (ZZ L xs) (d + 1) mX2_stableTwos 131 [some (.ref o), none, none, none, some (.int i4), some (.int i5), some (.int i6), some (.int i7), some (.int i8), none] [.int i7] ph else RS (ZZ L xs) (d + 1) mX2_stableTwos 131 [some (.ref o), none, none, none, some (.int i4), some (.int i5), some (.int i6), some (.int i7), some (.int i8), none] [.int i6] ph else some (ph, some (.int i5)) else RS (ZZ L xs) (d + 1) mX2_stableTwos 39 [some (.ref o), none, none, none, some (.int i4), some (.int i5), some (.int i6), some (.int i7), some (.int i8), some (.int 0)] [] ph := by
  refine Eq.trans (q_iload dX2_stableTwos_21 (show mK mX2_stableTwos 21 [some (.ref o), u1, u2, u3, some (.int i4), some (.int i5), some (.int i6), some (.int i7), some (.int i8), u9] = [some (.ref o), none, none, none, some (.int i4), some (.int i5), some (.int i6), some (.int i7), some (.int i8), none] from rfl) rfl) ?_
  refine Eq.trans (q_aload_n dX2_stableTwos_23 (mk0 rfl) rfl rfl) ?_
  refine Eq.trans (q_getR (ci := 2) (k := 0) dX2_stableTwos_24 (mk0 rfl) rfl) (bind_cg2 fun x24 hx24 => ?_)
  have hx24 := fR_isR hx24
  refine Eq.trans (q_getR (ci := 6) (k := 0) dX2_stableTwos_27 (mk0 rfl) rfl) (bind_cg2 fun x27 hx27 => ?_)
  have hx27 := fR_isR hx27
  refine Eq.trans (q_getI (ci := 9) (k := 0) dX2_stableTwos_30 (mk0 rfl) rfl) (bind_cg fun x30 => ?_)
  refine Eq.trans (q_icmp_ge (t := 110) dX2_stableTwos_33 (mk0 rfl) rfl) (ite_cg ?_ ?_)
  · refine Eq.trans (q_iload dX2_stableTwos_110 (mk0 rfl) rfl) ?_
    refine Eq.trans (q_if_ne (t := 118) dX2_stableTwos_112 (mk0 rfl) rfl) (ite_cg ?_ ?_)
    · refine Eq.trans (q_iload dX2_stableTwos_118 (mk0 rfl) rfl) ?_
      refine Eq.trans (q_iconst (v := 1) dX2_stableTwos_120 (mk0 rfl) rfl) ?_
      refine Eq.trans (q_icmp_ne (t := 129) dX2_stableTwos_121 (mk0 rfl) rfl) (ite_cg ?_ ?_)
      · refine Eq.trans (q_iload dX2_stableTwos_129 (mk0 rfl) rfl) ?_
        rfl
      · refine Eq.trans (q_iload dX2_stableTwos_124 (mk0 rfl) rfl) ?_
        refine Eq.trans (q_goto (t := 131) dX2_stableTwos_126 (mk0 rfl) rfl) ?_
        rfl
    · refine Eq.trans (q_iload dX2_stableTwos_115 (mk0 rfl) rfl) ?_
      exact q_ireturn dX2_stableTwos_117 (mk0 rfl) rfl
  · refine Eq.trans (q_iconst (v := 0) dX2_stableTwos_36 (mk0 rfl) rfl) ?_
    refine Eq.trans (q_istore (lv2 := [some (.ref o), none, none, none, some (.int i4), some (.int i5), some (.int i6), some (.int i7), some (.int i8), some (.int 0)]) dX2_stableTwos_37 (mk0 rfl) (Nat.le_of_ble_eq_true rfl) rfl) ?_
    rfl
set_option maxRecDepth 20000 in
theorem bX2_stableTwos_39 {L : Nat} {xs : Nat → Int32} (d : Nat) (o : Nat) (u1 : Option Value) (u2 : Option Value) (u3 : Option Value) (i4 : Int32) (i5 : Int32) (i6 : Int32) (i7 : Int32) (i8 : Int32) (i9 : Int32) (ph : PH) : RS (ZZ L xs) (d + 1) mX2_stableTwos 39 [some (.ref o), u1, u2, u3, some (.int i4), some (.int i5), some (.int i6), some (.int i7), some (.int i8), some (.int i9)] [] ph = (fR ph (.ref o) 2 0).bind fun x42 => (fR ph x42 6 0).bind fun x45 => (fI ph x45 9 0).bind fun x48 => if (x48 : Int32) ≤ i9 then RS (ZZ L xs) (d + 1) mX2_stableTwos 21 [some (.ref o), none, none, none, some (.int i4), some (.int i5), some (.int i6), some (.int i7), some (.int (i8 + 1)), some (.int i9)] [] ph else (iO ph (.ref o) 2).bind fun b59 => (cI (ZZ L xs) d mX2_rest [.ref b59, .int i8, .int i9] ph).bind fun p59 => if (p59.2 : Int32) = 0 then RS (ZZ L xs) (d + 1) mX2_stableTwos 98 [some (.ref o), none, none, none, some (.int i4), some (.int i5), some (.int i6), some (.int i7), some (.int i8), some (.int i9)] [] p59.1 else if ¬ (i5 + 1 : Int32) = 1 then RS (ZZ L xs) (d + 1) mX2_stableTwos 81 [some (.ref o), none, none, none, some (.int i4), some (.int (i5 + 1)), some (.int i6), some (.int i7), some (.int i8), some (.int i9)] [.int i6] p59.1 else RS (ZZ L xs) (d + 1) mX2_stableTwos 81 [some (.ref o), none, none, none, some (.int i4), some (.int (i5 + 1)), some (.int i6), some (.int i7), some (.int i8), some (.int i9)] [.int i8] p59.1 := by
  refine Eq.trans (q_iload dX2_stableTwos_39 (show mK mX2_stableTwos 39 [some (.ref o), u1, u2, u3, some (.int i4), some (.int i5), some (.int i6), some (.int i7), some (.int i8), some (.int i9)] = [some (.ref o), none, none, none, some (.int i4), some (.int i5), some (.int i6), some (.int i7), some (.int i8), some (.int i9)] from rfl) rfl) ?_
  refine Eq.trans (q_aload_n dX2_stableTwos_41 (mk0 rfl) rfl rfl) ?_
  refine Eq.trans (q_getR (ci := 2) (k := 0) dX2_stableTwos_42 (mk0 rfl) rfl) (bind_cg2 fun x42 hx42 => ?_)
  have hx42 := fR_isR hx42
  refine Eq.trans (q_getR (ci := 6) (k := 0) dX2_stableTwos_45 (mk0 rfl) rfl) (bind_cg2 fun x45 hx45 => ?_)
  have hx45 := fR_isR hx45
  refine Eq.trans (q_getI (ci := 9) (k := 0) dX2_stableTwos_48 (mk0 rfl) rfl) (bind_cg fun x48 => ?_)
  refine Eq.trans (q_icmp_ge (t := 104) dX2_stableTwos_51 (mk0 rfl) rfl) (ite_cg ?_ ?_)
  · refine Eq.trans (q_iinc (v := 1) (lv2 := [some (.ref o), none, none, none, some (.int i4), some (.int i5), some (.int i6), some (.int i7), some (.int (i8 + 1)), some (.int i9)]) dX2_stableTwos_104 (mk0 rfl) rfl rfl rfl) ?_
    refine Eq.trans (q_goto (t := 21) dX2_stableTwos_107 (mk0 rfl) rfl) ?_
    rfl
  · refine Eq.trans (q_aload_n dX2_stableTwos_54 (mk0 rfl) rfl rfl) ?_
    refine Eq.trans (q_iload dX2_stableTwos_55 (mk0 rfl) rfl) ?_
    refine Eq.trans (q_iload dX2_stableTwos_57 (mk0 rfl) rfl) ?_
    refine Eq.trans (q_callV (as := [.int i8, .int i9]) dX2_stableTwos_59 (mk0 rfl) rfl rfl rfl (Nat.le_of_ble_eq_true rfl) (Nat.le_of_ble_eq_true rfl)) (bind_cg fun b59 => ?_)
    refine Eq.trans (cI_bind (Or.inr rfl)) (bind_cg fun p59 => ?_)
    show RS (ZZ L xs) (d + 1) mX2_stableTwos 62 [some (.ref o), none, none, none, some (.int i4), some (.int i5), some (.int i6), some (.int i7), some (.int i8), some (.int i9)] [.int p59.2] p59.1 = _
    refine Eq.trans (q_if_eq (t := 98) dX2_stableTwos_62 (mk0 rfl) rfl) (ite_cg ?_ ?_)
    · rfl
    · refine Eq.trans (q_iinc (v := 1) (lv2 := [some (.ref o), none, none, none, some (.int i4), some (.int (i5 + 1)), some (.int i6), some (.int i7), some (.int i8), some (.int i9)]) dX2_stableTwos_65 (mk0 rfl) rfl rfl rfl) ?_
      refine Eq.trans (q_iload dX2_stableTwos_68 (mk0 rfl) rfl) ?_
      refine Eq.trans (q_iconst (v := 1) dX2_stableTwos_70 (mk0 rfl) rfl) ?_
      refine Eq.trans (q_icmp_ne (t := 79) dX2_stableTwos_71 (mk0 rfl) rfl) (ite_cg ?_ ?_)
      · refine Eq.trans (q_iload dX2_stableTwos_79 (mk0 rfl) rfl) ?_
        rfl
      · refine Eq.trans (q_iload dX2_stableTwos_74 (mk0 rfl) rfl) ?_
        refine Eq.trans (q_goto (t := 81) dX2_stableTwos_76 (mk0 rfl) rfl) ?_
        rfl
set_option maxRecDepth 20000 in
theorem bX2_stableTwos_81 {L : Nat} {xs : Nat → Int32} (d : Nat) (o : Nat) (u1 : Option Value) (u2 : Option Value) (u3 : Option Value) (i4 : Int32) (i5 : Int32) (u6 : Option Value) (i7 : Int32) (i8 : Int32) (i9 : Int32) (t0 : Int32) (ph : PH) : RS (ZZ L xs) (d + 1) mX2_stableTwos 81 [some (.ref o), u1, u2, u3, some (.int i4), some (.int i5), u6, some (.int i7), some (.int i8), some (.int i9)] [.int t0] ph = if ¬ (i5 : Int32) = 1 then RS (ZZ L xs) (d + 1) mX2_stableTwos 96 [some (.ref o), none, none, none, some (.int i4), some (.int i5), some (.int t0), some (.int i7), some (.int i8), some (.int i9)] [.int i7] ph else RS (ZZ L xs) (d + 1) mX2_stableTwos 96 [some (.ref o), none, none, none, some (.int i4), some (.int i5), some (.int t0), some (.int i7), some (.int i8), some (.int i9)] [.int i9] ph := by
  refine Eq.trans (q_istore (lv2 := [some (.ref o), none, none, none, some (.int i4), some (.int i5), some (.int t0), some (.int i7), some (.int i8), some (.int i9)]) dX2_stableTwos_81 (show mK mX2_stableTwos 81 [some (.ref o), u1, u2, u3, some (.int i4), some (.int i5), u6, some (.int i7), some (.int i8), some (.int i9)] = [some (.ref o), none, none, none, some (.int i4), some (.int i5), none, some (.int i7), some (.int i8), some (.int i9)] from rfl) (Nat.le_of_ble_eq_true rfl) rfl) ?_
  refine Eq.trans (q_iload dX2_stableTwos_83 (mk0 rfl) rfl) ?_
  refine Eq.trans (q_iconst (v := 1) dX2_stableTwos_85 (mk0 rfl) rfl) ?_
  refine Eq.trans (q_icmp_ne (t := 94) dX2_stableTwos_86 (mk0 rfl) rfl) (ite_cg ?_ ?_)
  · refine Eq.trans (q_iload dX2_stableTwos_94 (mk0 rfl) rfl) ?_
    rfl
  · refine Eq.trans (q_iload dX2_stableTwos_89 (mk0 rfl) rfl) ?_
    refine Eq.trans (q_goto (t := 96) dX2_stableTwos_91 (mk0 rfl) rfl) ?_
    rfl
set_option maxRecDepth 20000 in
theorem bX2_stableTwos_96 {L : Nat} {xs : Nat → Int32} (d : Nat) (o : Nat) (u1 : Option Value) (u2 : Option Value) (u3 : Option Value) (i4 : Int32) (i5 : Int32) (i6 : Int32) (u7 : Option Value) (i8 : Int32) (i9 : Int32) (t0 : Int32) (ph : PH) : RS (ZZ L xs) (d + 1) mX2_stableTwos 96 [some (.ref o), u1, u2, u3, some (.int i4), some (.int i5), some (.int i6), u7, some (.int i8), some (.int i9)] [.int t0] ph = RS (ZZ L xs) (d + 1) mX2_stableTwos 98 [some (.ref o), none, none, none, some (.int i4), some (.int i5), some (.int i6), some (.int t0), some (.int i8), some (.int i9)] [] ph := by
  refine Eq.trans (q_istore (lv2 := [some (.ref o), none, none, none, some (.int i4), some (.int i5), some (.int i6), some (.int t0), some (.int i8), some (.int i9)]) dX2_stableTwos_96 (show mK mX2_stableTwos 96 [some (.ref o), u1, u2, u3, some (.int i4), some (.int i5), some (.int i6), u7, some (.int i8), some (.int i9)] = [some (.ref o), none, none, none, some (.int i4), some (.int i5), some (.int i6), none, some (.int i8), some (.int i9)] from rfl) (Nat.le_of_ble_eq_true rfl) rfl) ?_
  rfl
set_option maxRecDepth 20000 in
theorem bX2_stableTwos_98 {L : Nat} {xs : Nat → Int32} (d : Nat) (o : Nat) (u1 : Option Value) (u2 : Option Value) (u3 : Option Value) (i4 : Int32) (i5 : Int32) (i6 : Int32) (i7 : Int32) (i8 : Int32) (i9 : Int32) (ph : PH) : RS (ZZ L xs) (d + 1) mX2_stableTwos 98 [some (.ref o), u1, u2, u3, some (.int i4), some (.int i5), some (.int i6), some (.int i7), some (.int i8), some (.int i9)] [] ph = RS (ZZ L xs) (d + 1) mX2_stableTwos 39 [some (.ref o), none, none, none, some (.int i4), some (.int i5), some (.int i6), some (.int i7), some (.int i8), some (.int (i9 + 1))] [] ph := by
  refine Eq.trans (q_iinc (v := 1) (lv2 := [some (.ref o), none, none, none, some (.int i4), some (.int i5), some (.int i6), some (.int i7), some (.int i8), some (.int (i9 + 1))]) dX2_stableTwos_98 (show mK mX2_stableTwos 98 [some (.ref o), u1, u2, u3, some (.int i4), some (.int i5), some (.int i6), some (.int i7), some (.int i8), some (.int i9)] = [some (.ref o), none, none, none, some (.int i4), some (.int i5), some (.int i6), some (.int i7), some (.int i8), some (.int i9)] from rfl) rfl rfl rfl) ?_
  refine Eq.trans (q_goto (t := 39) dX2_stableTwos_101 (mk0 rfl) rfl) ?_
  rfl
set_option maxRecDepth 20000 in
theorem bX2_stableTwos_131 {L : Nat} {xs : Nat → Int32} (d : Nat) (u0 : Option Value) (u1 : Option Value) (u2 : Option Value) (u3 : Option Value) (u4 : Option Value) (u5 : Option Value) (u6 : Option Value) (u7 : Option Value) (u8 : Option Value) (u9 : Option Value) (t0 : Int32) (ph : PH) : RS (ZZ L xs) (d + 1) mX2_stableTwos 131 [u0, u1, u2, u3, u4, u5, u6, u7, u8, u9] [.int t0] ph = some (ph, some (.int t0)) := by
  exact q_ireturn dX2_stableTwos_131 (show mK mX2_stableTwos 131 [u0, u1, u2, u3, u4, u5, u6, u7, u8, u9] = [none, none, none, none, none, none, none, none, none, none] from rfl) rfl
set_option maxRecDepth 20000 in
theorem bX2_fillGains_0 {L : Nat} {xs : Nat → Int32} (d : Nat) (o : Nat) (i1 : Int32) (i2 : Int32) (i3 : Int32) (ph : PH) : RS (ZZ L xs) (d + 1) mX2_fillGains 0 [some (.ref o), some (.int i1), some (.int i2), some (.int i3), none, none, none] [] ph = RS (ZZ L xs) (d + 1) mX2_fillGains 3 [some (.ref o), some (.int i1), some (.int i2), some (.int i3), some (.int 0), none, none] [] ph := by
  refine Eq.trans (q_iconst (v := 0) dX2_fillGains_0 (mk0 rfl) rfl) ?_
  refine Eq.trans (q_istore (lv2 := [some (.ref o), some (.int i1), some (.int i2), some (.int i3), some (.int 0), none, none]) dX2_fillGains_1 (mk0 rfl) (Nat.le_of_ble_eq_true rfl) rfl) ?_
  rfl
set_option maxRecDepth 20000 in
theorem bX2_fillGains_3 {L : Nat} {xs : Nat → Int32} (d : Nat) (o : Nat) (i1 : Int32) (i2 : Int32) (i3 : Int32) (i4 : Int32) (u5 : Option Value) (u6 : Option Value) (ph : PH) : RS (ZZ L xs) (d + 1) mX2_fillGains 3 [some (.ref o), some (.int i1), some (.int i2), some (.int i3), some (.int i4), u5, u6] [] ph = (fR ph (.ref o) 2 0).bind fun x6 => (fR ph x6 6 0).bind fun x9 => (fI ph x9 9 0).bind fun x12 => if (x12 : Int32) ≤ i4 then some (ph, none) else RS (ZZ L xs) (d + 1) mX2_fillGains 21 [some (.ref o), some (.int i1), some (.int i2), some (.int i3), some (.int i4), some (.int 0), none] [] ph := by
  refine Eq.trans (q_iload dX2_fillGains_3 (show mK mX2_fillGains 3 [some (.ref o), some (.int i1), some (.int i2), some (.int i3), some (.int i4), u5, u6] = [some (.ref o), some (.int i1), some (.int i2), some (.int i3), some (.int i4), none, none] from rfl) rfl) ?_
  refine Eq.trans (q_aload_n dX2_fillGains_5 (mk0 rfl) rfl rfl) ?_
  refine Eq.trans (q_getR (ci := 2) (k := 0) dX2_fillGains_6 (mk0 rfl) rfl) (bind_cg2 fun x6 hx6 => ?_)
  have hx6 := fR_isR hx6
  refine Eq.trans (q_getR (ci := 6) (k := 0) dX2_fillGains_9 (mk0 rfl) rfl) (bind_cg2 fun x9 hx9 => ?_)
  have hx9 := fR_isR hx9
  refine Eq.trans (q_getI (ci := 9) (k := 0) dX2_fillGains_12 (mk0 rfl) rfl) (bind_cg fun x12 => ?_)
  refine Eq.trans (q_icmp_ge (t := 164) dX2_fillGains_15 (mk0 rfl) rfl) (ite_cg ?_ ?_)
  · exact q_return dX2_fillGains_164 (mk0 rfl) rfl
  · refine Eq.trans (q_iconst (v := 0) dX2_fillGains_18 (mk0 rfl) rfl) ?_
    refine Eq.trans (q_istore (lv2 := [some (.ref o), some (.int i1), some (.int i2), some (.int i3), some (.int i4), some (.int 0), none]) dX2_fillGains_19 (mk0 rfl) (Nat.le_of_ble_eq_true rfl) rfl) ?_
    rfl
set_option maxRecDepth 20000 in
theorem bX2_fillGains_21 {L : Nat} {xs : Nat → Int32} (d : Nat) (o : Nat) (i1 : Int32) (i2 : Int32) (i3 : Int32) (i4 : Int32) (i5 : Int32) (u6 : Option Value) (ph : PH) : RS (ZZ L xs) (d + 1) mX2_fillGains 21 [some (.ref o), some (.int i1), some (.int i2), some (.int i3), some (.int i4), some (.int i5), u6] [] ph = (fR ph (.ref o) 2 0).bind fun x24 => (fR ph x24 6 0).bind fun x27 => (fI ph x27 9 0).bind fun x30 => if (x30 : Int32) ≤ i5 then RS (ZZ L xs) (d + 1) mX2_fillGains 3 [some (.ref o), some (.int i1), some (.int i2), some (.int i3), some (.int (i4 + 1)), some (.int i5), none] [] ph else (fR ph (.ref o) 2 2).bind fun x37 => (fR ph (.ref o) 2 0).bind fun x41 => (fR ph x41 6 1).bind fun x44 => (iO ph x37 7).bind fun b47 => (cV (ZZ L xs) d mX7_copyFrom [.ref b47, x44] ph).bind fun p47 => (fR p47 (.ref o) 2 2).bind fun x51 => (fR p47 x51 7 4).bind fun x54 => (wI p47 x54 i1 i4).bind fun h60 => (fR h60 (.ref o) 2 2).bind fun x62 => (fR h60 x62 7 4).bind fun x65 => (wI h60 x65 i2 i5).bind fun h71 => (fR h71 (.ref o) 2 1).bind fun x73 => (fR h71 (.ref o) 2 2).bind fun x77 => (iO h71 x73 0).bind fun b81 => (cV (ZZ L xs) d mX0_run [.ref b81, x77, .int i3] h71).bind fun p81 => (fR p81 (.ref o) 2 4).bind fun x95 => (fR p81 (.ref o) 2 2).bind fun x101 => (fR p81 x101 7 7).bind fun x104 => (eI p81 x104 i1).bind fun x108 => (fR p81 (.ref o) 2 0).bind fun x110 => (fR p81 x110 6 1).bind fun x113 => (fR p81 x113 7 7).bind fun x116 => (eI p81 x116 i1).bind fun x120 => (wI p81 x95 ((i4 * 8) + i5) (x108 - x120)).bind fun h122 => (fR h122 (.ref o) 2 5).bind fun x124 => (fR h122 (.ref o) 2 2).bind fun x130 => (fR h122 x130 7 7).bind fun x133 => (eI h122 x133 i2).bind fun x137 => (fR h122 (.ref o) 2 0).bind fun x139 => (fR h122 x139 6 1).bind fun x142 => (fR h122 x142 7 7).bind fun x145 => (eI h122 x145 i2).bind fun x149 => (wI h122 x124 ((i4 * 8) + i5) (x137 - x149)).bind fun h151 => RS (ZZ L xs) (d + 1) mX2_fillGains 21 [some (.ref o), some (.int i1), some (.int i2), some (.int i3), some (.int i4), some (.int (i5 + 1)), some (.int ((i4 * 8) + i5))] [] h151 := by
  refine Eq.trans (q_iload dX2_fillGains_21 (show mK mX2_fillGains 21 [some (.ref o), some (.int i1), some (.int i2), some (.int i3), some (.int i4), some (.int i5), u6] = [some (.ref o), some (.int i1), some (.int i2), some (.int i3), some (.int i4), some (.int i5), none] from rfl) rfl) ?_
  refine Eq.trans (q_aload_n dX2_fillGains_23 (mk0 rfl) rfl rfl) ?_
  refine Eq.trans (q_getR (ci := 2) (k := 0) dX2_fillGains_24 (mk0 rfl) rfl) (bind_cg2 fun x24 hx24 => ?_)
  have hx24 := fR_isR hx24
  refine Eq.trans (q_getR (ci := 6) (k := 0) dX2_fillGains_27 (mk0 rfl) rfl) (bind_cg2 fun x27 hx27 => ?_)
  have hx27 := fR_isR hx27
  refine Eq.trans (q_getI (ci := 9) (k := 0) dX2_fillGains_30 (mk0 rfl) rfl) (bind_cg fun x30 => ?_)
  refine Eq.trans (q_icmp_ge (t := 158) dX2_fillGains_33 (mk0 rfl) rfl) (ite_cg ?_ ?_)
  · refine Eq.trans (q_iinc (v := 1) (lv2 := [some (.ref o), some (.int i1), some (.int i2), some (.int i3), some (.int (i4 + 1)), some (.int i5), none]) dX2_fillGains_158 (mk0 rfl) rfl rfl rfl) ?_
    refine Eq.trans (q_goto (t := 3) dX2_fillGains_161 (mk0 rfl) rfl) ?_
    rfl
  · refine Eq.trans (q_aload_n dX2_fillGains_36 (mk0 rfl) rfl rfl) ?_
    refine Eq.trans (q_getR (ci := 2) (k := 2) dX2_fillGains_37 (mk0 rfl) rfl) (bind_cg2 fun x37 hx37 => ?_)
    have hx37 := fR_isR hx37
    refine Eq.trans (q_aload_n dX2_fillGains_40 (mk0 rfl) rfl rfl) ?_
    refine Eq.trans (q_getR (ci := 2) (k := 0) dX2_fillGains_41 (mk0 rfl) rfl) (bind_cg2 fun x41 hx41 => ?_)
    have hx41 := fR_isR hx41
    refine Eq.trans (q_getR (ci := 6) (k := 1) dX2_fillGains_44 (mk0 rfl) rfl) (bind_cg2 fun x44 hx44 => ?_)
    have hx44 := fR_isR hx44
    refine Eq.trans (q_callV (as := [x44]) dX2_fillGains_47 (mk0 rfl) rfl rfl rfl (Nat.le_of_ble_eq_true rfl) (by simp [eA, ct_i, ct_l, ct_r, ct_n, ct_x, mX7_copyFrom, (cat_R hx44)])) (bind_cg fun b47 => ?_)
    refine Eq.trans (cV_bind rfl) (bind_cg fun p47 => ?_)
    show RS (ZZ L xs) (d + 1) mX2_fillGains 50 [some (.ref o), some (.int i1), some (.int i2), some (.int i3), some (.int i4), some (.int i5), none] [] p47 = _
    refine Eq.trans (q_aload_n dX2_fillGains_50 (mk0 rfl) rfl rfl) ?_
    refine Eq.trans (q_getR (ci := 2) (k := 2) dX2_fillGains_51 (mk0 rfl) rfl) (bind_cg2 fun x51 hx51 => ?_)
    have hx51 := fR_isR hx51
    refine Eq.trans (q_getR (ci := 7) (k := 4) dX2_fillGains_54 (mk0 rfl) rfl) (bind_cg2 fun x54 hx54 => ?_)
    have hx54 := fR_isR hx54
    refine Eq.trans (q_iload_n dX2_fillGains_57 (mk0 rfl) rfl) ?_
    refine Eq.trans (q_iload dX2_fillGains_58 (mk0 rfl) rfl) ?_
    refine Eq.trans (q_iastore dX2_fillGains_60 (mk0 rfl)) (bind_cg fun h60 => ?_)
    refine Eq.trans (q_aload_n dX2_fillGains_61 (mk0 rfl) rfl rfl) ?_
    refine Eq.trans (q_getR (ci := 2) (k := 2) dX2_fillGains_62 (mk0 rfl) rfl) (bind_cg2 fun x62 hx62 => ?_)
    have hx62 := fR_isR hx62
    refine Eq.trans (q_getR (ci := 7) (k := 4) dX2_fillGains_65 (mk0 rfl) rfl) (bind_cg2 fun x65 hx65 => ?_)
    have hx65 := fR_isR hx65
    refine Eq.trans (q_iload_n dX2_fillGains_68 (mk0 rfl) rfl) ?_
    refine Eq.trans (q_iload dX2_fillGains_69 (mk0 rfl) rfl) ?_
    refine Eq.trans (q_iastore dX2_fillGains_71 (mk0 rfl)) (bind_cg fun h71 => ?_)
    refine Eq.trans (q_aload_n dX2_fillGains_72 (mk0 rfl) rfl rfl) ?_
    refine Eq.trans (q_getR (ci := 2) (k := 1) dX2_fillGains_73 (mk0 rfl) rfl) (bind_cg2 fun x73 hx73 => ?_)
    have hx73 := fR_isR hx73
    refine Eq.trans (q_aload_n dX2_fillGains_76 (mk0 rfl) rfl rfl) ?_
    refine Eq.trans (q_getR (ci := 2) (k := 2) dX2_fillGains_77 (mk0 rfl) rfl) (bind_cg2 fun x77 hx77 => ?_)
    have hx77 := fR_isR hx77
    refine Eq.trans (q_iload_n dX2_fillGains_80 (mk0 rfl) rfl) ?_
    refine Eq.trans (q_callV (as := [x77, .int i3]) dX2_fillGains_81 (mk0 rfl) rfl rfl rfl (Nat.le_of_ble_eq_true rfl) (by simp [eA, ct_i, ct_l, ct_r, ct_n, ct_x, mX0_run, (cat_R hx77)])) (bind_cg fun b81 => ?_)
    refine Eq.trans (cV_bind rfl) (bind_cg fun p81 => ?_)
    show RS (ZZ L xs) (d + 1) mX2_fillGains 84 [some (.ref o), some (.int i1), some (.int i2), some (.int i3), some (.int i4), some (.int i5), none] [] p81 = _
    refine Eq.trans (q_iload dX2_fillGains_84 (mk0 rfl) rfl) ?_
    refine Eq.trans (q_bipush (v := 8) dX2_fillGains_86 (mk0 rfl) rfl) ?_
    refine Eq.trans (q_imul dX2_fillGains_88 (mk0 rfl)) ?_
    refine Eq.trans (q_iload dX2_fillGains_89 (mk0 rfl) rfl) ?_
    refine Eq.trans (q_iadd dX2_fillGains_91 (mk0 rfl)) ?_
    refine Eq.trans (q_istore (lv2 := [some (.ref o), some (.int i1), some (.int i2), some (.int i3), some (.int i4), some (.int i5), some (.int ((i4 * 8) + i5))]) dX2_fillGains_92 (mk0 rfl) (Nat.le_of_ble_eq_true rfl) rfl) ?_
    refine Eq.trans (q_aload_n dX2_fillGains_94 (mk0 rfl) rfl rfl) ?_
    refine Eq.trans (q_getR (ci := 2) (k := 4) dX2_fillGains_95 (mk0 rfl) rfl) (bind_cg2 fun x95 hx95 => ?_)
    have hx95 := fR_isR hx95
    refine Eq.trans (q_iload dX2_fillGains_98 (mk0 rfl) rfl) ?_
    refine Eq.trans (q_aload_n dX2_fillGains_100 (mk0 rfl) rfl rfl) ?_
    refine Eq.trans (q_getR (ci := 2) (k := 2) dX2_fillGains_101 (mk0 rfl) rfl) (bind_cg2 fun x101 hx101 => ?_)
    have hx101 := fR_isR hx101
    refine Eq.trans (q_getR (ci := 7) (k := 7) dX2_fillGains_104 (mk0 rfl) rfl) (bind_cg2 fun x104 hx104 => ?_)
    have hx104 := fR_isR hx104
    refine Eq.trans (q_iload_n dX2_fillGains_107 (mk0 rfl) rfl) ?_
    refine Eq.trans (q_iaload dX2_fillGains_108 (mk0 rfl) (no_ext hx104)) (bind_cg fun x108 => ?_)
    refine Eq.trans (q_aload_n dX2_fillGains_109 (mk0 rfl) rfl rfl) ?_
    refine Eq.trans (q_getR (ci := 2) (k := 0) dX2_fillGains_110 (mk0 rfl) rfl) (bind_cg2 fun x110 hx110 => ?_)
    have hx110 := fR_isR hx110
    refine Eq.trans (q_getR (ci := 6) (k := 1) dX2_fillGains_113 (mk0 rfl) rfl) (bind_cg2 fun x113 hx113 => ?_)
    have hx113 := fR_isR hx113
    refine Eq.trans (q_getR (ci := 7) (k := 7) dX2_fillGains_116 (mk0 rfl) rfl) (bind_cg2 fun x116 hx116 => ?_)
    have hx116 := fR_isR hx116
    refine Eq.trans (q_iload_n dX2_fillGains_119 (mk0 rfl) rfl) ?_
    refine Eq.trans (q_iaload dX2_fillGains_120 (mk0 rfl) (no_ext hx116)) (bind_cg fun x120 => ?_)
    refine Eq.trans (q_isub dX2_fillGains_121 (mk0 rfl)) ?_
    refine Eq.trans (q_iastore dX2_fillGains_122 (mk0 rfl)) (bind_cg fun h122 => ?_)
    refine Eq.trans (q_aload_n dX2_fillGains_123 (mk0 rfl) rfl rfl) ?_
    refine Eq.trans (q_getR (ci := 2) (k := 5) dX2_fillGains_124 (mk0 rfl) rfl) (bind_cg2 fun x124 hx124 => ?_)
    have hx124 := fR_isR hx124
    refine Eq.trans (q_iload dX2_fillGains_127 (mk0 rfl) rfl) ?_
    refine Eq.trans (q_aload_n dX2_fillGains_129 (mk0 rfl) rfl rfl) ?_
    refine Eq.trans (q_getR (ci := 2) (k := 2) dX2_fillGains_130 (mk0 rfl) rfl) (bind_cg2 fun x130 hx130 => ?_)
    have hx130 := fR_isR hx130
    refine Eq.trans (q_getR (ci := 7) (k := 7) dX2_fillGains_133 (mk0 rfl) rfl) (bind_cg2 fun x133 hx133 => ?_)
    have hx133 := fR_isR hx133
    refine Eq.trans (q_iload_n dX2_fillGains_136 (mk0 rfl) rfl) ?_
    refine Eq.trans (q_iaload dX2_fillGains_137 (mk0 rfl) (no_ext hx133)) (bind_cg fun x137 => ?_)
    refine Eq.trans (q_aload_n dX2_fillGains_138 (mk0 rfl) rfl rfl) ?_
    refine Eq.trans (q_getR (ci := 2) (k := 0) dX2_fillGains_139 (mk0 rfl) rfl) (bind_cg2 fun x139 hx139 => ?_)
    have hx139 := fR_isR hx139
    refine Eq.trans (q_getR (ci := 6) (k := 1) dX2_fillGains_142 (mk0 rfl) rfl) (bind_cg2 fun x142 hx142 => ?_)
    have hx142 := fR_isR hx142
    refine Eq.trans (q_getR (ci := 7) (k := 7) dX2_fillGains_145 (mk0 rfl) rfl) (bind_cg2 fun x145 hx145 => ?_)
    have hx145 := fR_isR hx145
    refine Eq.trans (q_iload_n dX2_fillGains_148 (mk0 rfl) rfl) ?_
    refine Eq.trans (q_iaload dX2_fillGains_149 (mk0 rfl) (no_ext hx145)) (bind_cg fun x149 => ?_)
    refine Eq.trans (q_isub dX2_fillGains_150 (mk0 rfl)) ?_
    refine Eq.trans (q_iastore dX2_fillGains_151 (mk0 rfl)) (bind_cg fun h151 => ?_)
    refine Eq.trans (q_iinc (v := 1) (lv2 := [some (.ref o), some (.int i1), some (.int i2), some (.int i3), some (.int i4), some (.int (i5 + 1)), some (.int ((i4 * 8) + i5))]) dX2_fillGains_152 (mk0 rfl) rfl rfl rfl) ?_
    refine Eq.trans (q_goto (t := 21) dX2_fillGains_155 (mk0 rfl) rfl) ?_
    rfl
set_option maxRecDepth 20000 in
theorem bX2_rest_0 {L : Nat} {xs : Nat → Int32} (d : Nat) (o : Nat) (i1 : Int32) (i2 : Int32) (ph : PH) : RS (ZZ L xs) (d + 1) mX2_rest 0 [some (.ref o), some (.int i1), some (.int i2), none, none] [] ph = RS (ZZ L xs) (d + 1) mX2_rest 10 [some (.ref o), some (.int i1), some (.int i2), some (.int ((i1 * 8) + i2)), some (.int 0)] [] ph := by
  refine Eq.trans (q_iload_n dX2_rest_0 (mk0 rfl) rfl) ?_
  refine Eq.trans (q_bipush (v := 8) dX2_rest_1 (mk0 rfl) rfl) ?_
  refine Eq.trans (q_imul dX2_rest_3 (mk0 rfl)) ?_
  refine Eq.trans (q_iload_n dX2_rest_4 (mk0 rfl) rfl) ?_
  refine Eq.trans (q_iadd dX2_rest_5 (mk0 rfl)) ?_
  refine Eq.trans (q_istore_n (lv2 := [some (.ref o), some (.int i1), some (.int i2), some (.int ((i1 * 8) + i2)), none]) dX2_rest_6 (mk0 rfl) (Nat.le_of_ble_eq_true rfl) rfl) ?_
  refine Eq.trans (q_iconst (v := 0) dX2_rest_7 (mk0 rfl) rfl) ?_
  refine Eq.trans (q_istore (lv2 := [some (.ref o), some (.int i1), some (.int i2), some (.int ((i1 * 8) + i2)), some (.int 0)]) dX2_rest_8 (mk0 rfl) (Nat.le_of_ble_eq_true rfl) rfl) ?_
  rfl
set_option maxRecDepth 20000 in
theorem bX2_rest_10 {L : Nat} {xs : Nat → Int32} (d : Nat) (o : Nat) (i1 : Int32) (i2 : Int32) (i3 : Int32) (i4 : Int32) (ph : PH) : RS (ZZ L xs) (d + 1) mX2_rest 10 [some (.ref o), some (.int i1), some (.int i2), some (.int i3), some (.int i4)] [] ph = (fR ph (.ref o) 2 0).bind fun x13 => (fR ph x13 6 0).bind fun x16 => (fI ph x16 9 0).bind fun x19 => if (x19 : Int32) ≤ i4 then if (1 : Int32) = 0 ∨ (1 : Int32) = 1 then some (ph, some (.int 1)) else none else (fR ph (.ref o) 2 4).bind fun x26 => (eI ph x26 ((i4 * 8) + i2)).bind fun x36 => (fR ph (.ref o) 2 4).bind fun x38 => (eI ph x38 i3).bind fun x42 => if (x42 : Int32) < x36 then RS (ZZ L xs) (d + 1) mX2_rest 67 [some (.ref o), some (.int i1), some (.int i2), some (.int i3), some (.int i4)] [] ph else (fR ph (.ref o) 2 5).bind fun x47 => (eI ph x47 ((i1 * 8) + i4)).bind fun x57 => (fR ph (.ref o) 2 5).bind fun x59 => (eI ph x59 i3).bind fun x63 => if (x57 : Int32) ≤ x63 then RS (ZZ L xs) (d + 1) mX2_rest 10 [some (.ref o), some (.int i1), some (.int i2), some (.int i3), some (.int (i4 + 1))] [] ph else RS (ZZ L xs) (d + 1) mX2_rest 67 [some (.ref o), some (.int i1), some (.int i2), some (.int i3), some (.int i4)] [] ph := by
  refine Eq.trans (q_iload dX2_rest_10 (mk0 rfl) rfl) ?_
  refine Eq.trans (q_aload_n dX2_rest_12 (mk0 rfl) rfl rfl) ?_
  refine Eq.trans (q_getR (ci := 2) (k := 0) dX2_rest_13 (mk0 rfl) rfl) (bind_cg2 fun x13 hx13 => ?_)
  have hx13 := fR_isR hx13
  refine Eq.trans (q_getR (ci := 6) (k := 0) dX2_rest_16 (mk0 rfl) rfl) (bind_cg2 fun x16 hx16 => ?_)
  have hx16 := fR_isR hx16
  refine Eq.trans (q_getI (ci := 9) (k := 0) dX2_rest_19 (mk0 rfl) rfl) (bind_cg fun x19 => ?_)
  refine Eq.trans (q_icmp_ge (t := 75) dX2_rest_22 (mk0 rfl) rfl) (ite_cg ?_ ?_)
  · refine Eq.trans (q_iconst (v := 1) dX2_rest_75 (mk0 rfl) rfl) ?_
    exact q_zreturn dX2_rest_76 (mk0 rfl) rfl
  · refine Eq.trans (q_aload_n dX2_rest_25 (mk0 rfl) rfl rfl) ?_
    refine Eq.trans (q_getR (ci := 2) (k := 4) dX2_rest_26 (mk0 rfl) rfl) (bind_cg2 fun x26 hx26 => ?_)
    have hx26 := fR_isR hx26
    refine Eq.trans (q_iload dX2_rest_29 (mk0 rfl) rfl) ?_
    refine Eq.trans (q_bipush (v := 8) dX2_rest_31 (mk0 rfl) rfl) ?_
    refine Eq.trans (q_imul dX2_rest_33 (mk0 rfl)) ?_
    refine Eq.trans (q_iload_n dX2_rest_34 (mk0 rfl) rfl) ?_
    refine Eq.trans (q_iadd dX2_rest_35 (mk0 rfl)) ?_
    refine Eq.trans (q_iaload dX2_rest_36 (mk0 rfl) (no_ext hx26)) (bind_cg fun x36 => ?_)
    refine Eq.trans (q_aload_n dX2_rest_37 (mk0 rfl) rfl rfl) ?_
    refine Eq.trans (q_getR (ci := 2) (k := 4) dX2_rest_38 (mk0 rfl) rfl) (bind_cg2 fun x38 hx38 => ?_)
    have hx38 := fR_isR hx38
    refine Eq.trans (q_iload_n dX2_rest_41 (mk0 rfl) rfl) ?_
    refine Eq.trans (q_iaload dX2_rest_42 (mk0 rfl) (no_ext hx38)) (bind_cg fun x42 => ?_)
    refine Eq.trans (q_icmp_gt (t := 67) dX2_rest_43 (mk0 rfl) rfl) (ite_cg ?_ ?_)
    · rfl
    · refine Eq.trans (q_aload_n dX2_rest_46 (mk0 rfl) rfl rfl) ?_
      refine Eq.trans (q_getR (ci := 2) (k := 5) dX2_rest_47 (mk0 rfl) rfl) (bind_cg2 fun x47 hx47 => ?_)
      have hx47 := fR_isR hx47
      refine Eq.trans (q_iload_n dX2_rest_50 (mk0 rfl) rfl) ?_
      refine Eq.trans (q_bipush (v := 8) dX2_rest_51 (mk0 rfl) rfl) ?_
      refine Eq.trans (q_imul dX2_rest_53 (mk0 rfl)) ?_
      refine Eq.trans (q_iload dX2_rest_54 (mk0 rfl) rfl) ?_
      refine Eq.trans (q_iadd dX2_rest_56 (mk0 rfl)) ?_
      refine Eq.trans (q_iaload dX2_rest_57 (mk0 rfl) (no_ext hx47)) (bind_cg fun x57 => ?_)
      refine Eq.trans (q_aload_n dX2_rest_58 (mk0 rfl) rfl rfl) ?_
      refine Eq.trans (q_getR (ci := 2) (k := 5) dX2_rest_59 (mk0 rfl) rfl) (bind_cg2 fun x59 hx59 => ?_)
      have hx59 := fR_isR hx59
      refine Eq.trans (q_iload_n dX2_rest_62 (mk0 rfl) rfl) ?_
      refine Eq.trans (q_iaload dX2_rest_63 (mk0 rfl) (no_ext hx59)) (bind_cg fun x63 => ?_)
      refine Eq.trans (q_icmp_le (t := 69) dX2_rest_64 (mk0 rfl) rfl) (ite_cg ?_ ?_)
      · refine Eq.trans (q_iinc (v := 1) (lv2 := [some (.ref o), some (.int i1), some (.int i2), some (.int i3), some (.int (i4 + 1))]) dX2_rest_69 (mk0 rfl) rfl rfl rfl) ?_
        refine Eq.trans (q_goto (t := 10) dX2_rest_72 (mk0 rfl) rfl) ?_
        rfl
      · rfl
set_option maxRecDepth 20000 in
theorem bX2_rest_67 {L : Nat} {xs : Nat → Int32} (d : Nat) (u0 : Option Value) (u1 : Option Value) (u2 : Option Value) (u3 : Option Value) (u4 : Option Value) (ph : PH) : RS (ZZ L xs) (d + 1) mX2_rest 67 [u0, u1, u2, u3, u4] [] ph = if (0 : Int32) = 0 ∨ (0 : Int32) = 1 then some (ph, some (.int 0)) else none := by
  refine Eq.trans (q_iconst (v := 0) dX2_rest_67 (show mK mX2_rest 67 [u0, u1, u2, u3, u4] = [none, none, none, none, none] from rfl) rfl) ?_
  exact q_zreturn dX2_rest_68 (mk0 rfl) rfl
set_option maxRecDepth 20000 in
theorem bX2_drawn_0 {L : Nat} {xs : Nat → Int32} (d : Nat) (o : Nat) (i1 : Int32) (i2 : Int32) (i3 : Int32) (i4 : Int32) (ph : PH) : RS (ZZ L xs) (d + 1) mX2_drawn 0 [some (.ref o), some (.int i1), some (.int i2), some (.int i3), some (.int i4), none, none, none, none] [] ph = (fR ph (.ref o) 2 0).bind fun x2 => (fI ph x2 6 4).bind fun x5 => (fP ph (.ref o) 2 10 (.int x5)).bind fun h8 => RS (ZZ L xs) (d + 1) mX2_drawn 20 [some (.ref o), some (.int i1), some (.int i2), some (.int i3), some (.int i4), some (.int 0), some (.int 0), some (.int 0), none] [] h8 := by
  refine Eq.trans (q_aload_n dX2_drawn_0 (mk0 rfl) rfl rfl) ?_
  refine Eq.trans (q_aload_n dX2_drawn_1 (mk0 rfl) rfl rfl) ?_
  refine Eq.trans (q_getR (ci := 2) (k := 0) dX2_drawn_2 (mk0 rfl) rfl) (bind_cg2 fun x2 hx2 => ?_)
  have hx2 := fR_isR hx2
  refine Eq.trans (q_getI (ci := 6) (k := 4) dX2_drawn_5 (mk0 rfl) rfl) (bind_cg fun x5 => ?_)
  refine Eq.trans (q_put (ci := 2) (k := 10) (kd := 0) dX2_drawn_8 (mk0 rfl) rfl rfl (fun h => by cases h)) (bind_cg fun h8 => ?_)
  refine Eq.trans (q_iconst (v := 0) dX2_drawn_11 (mk0 rfl) rfl) ?_
  refine Eq.trans (q_istore (lv2 := [some (.ref o), some (.int i1), some (.int i2), some (.int i3), some (.int i4), some (.int 0), none, none, none]) dX2_drawn_12 (mk0 rfl) (Nat.le_of_ble_eq_true rfl) rfl) ?_
  refine Eq.trans (q_iconst (v := 0) dX2_drawn_14 (mk0 rfl) rfl) ?_
  refine Eq.trans (q_istore (lv2 := [some (.ref o), some (.int i1), some (.int i2), some (.int i3), some (.int i4), some (.int 0), some (.int 0), none, none]) dX2_drawn_15 (mk0 rfl) (Nat.le_of_ble_eq_true rfl) rfl) ?_
  refine Eq.trans (q_iconst (v := 0) dX2_drawn_17 (mk0 rfl) rfl) ?_
  refine Eq.trans (q_istore (lv2 := [some (.ref o), some (.int i1), some (.int i2), some (.int i3), some (.int i4), some (.int 0), some (.int 0), some (.int 0), none]) dX2_drawn_18 (mk0 rfl) (Nat.le_of_ble_eq_true rfl) rfl) ?_
  rfl
set_option maxRecDepth 20000 in
theorem bX2_drawn_20 {L : Nat} {xs : Nat → Int32} (d : Nat) (o : Nat) (i1 : Int32) (i2 : Int32) (i3 : Int32) (i4 : Int32) (i5 : Int32) (i6 : Int32) (i7 : Int32) (u8 : Option Value) (ph : PH) : RS (ZZ L xs) (d + 1) mX2_drawn 20 [some (.ref o), some (.int i1), some (.int i2), some (.int i3), some (.int i4), some (.int i5), some (.int i6), some (.int i7), u8] [] ph = if (i1 : Int32) ≤ i7 then if ¬ (i4 : Int32) = 0 then RS (ZZ L xs) (d + 1) mX2_drawn 127 [some (.ref o), some (.int i1), some (.int i2), some (.int i3), some (.int i4), some (.int i5), some (.int i6), some (.int i7), none] [.int i6] ph else RS (ZZ L xs) (d + 1) mX2_drawn 127 [some (.ref o), some (.int i1), some (.int i2), some (.int i3), some (.int i4), some (.int i5), some (.int i6), some (.int i7), none] [.int i5] ph else (fR ph (.ref o) 2 2).bind fun x27 => (fR ph (.ref o) 2 0).bind fun x31 => (fR ph x31 6 1).bind fun x34 => (iO ph x27 7).bind fun b37 => (cV (ZZ L xs) d mX7_copyFrom [.ref b37, x34] ph).bind fun p37 => RS (ZZ L xs) (d + 1) mX2_drawn 43 [some (.ref o), some (.int i1), some (.int i2), some (.int i3), some (.int i4), some (.int i5), some (.int i6), some (.int i7), some (.int 0)] [] p37 := by
  refine Eq.trans (q_iload dX2_drawn_20 (show mK mX2_drawn 20 [some (.ref o), some (.int i1), some (.int i2), some (.int i3), some (.int i4), some (.int i5), some (.int i6), some (.int i7), u8] = [some (.ref o), some (.int i1), some (.int i2), some (.int i3), some (.int i4), some (.int i5), some (.int i6), some (.int i7), none] from rfl) rfl) ?_
  refine Eq.trans (q_iload_n dX2_drawn_22 (mk0 rfl) rfl) ?_
  refine Eq.trans (q_icmp_ge (t := 115) dX2_drawn_23 (mk0 rfl) rfl) (ite_cg ?_ ?_)
  · refine Eq.trans (q_iload dX2_drawn_115 (mk0 rfl) rfl) ?_
    refine Eq.trans (q_if_ne (t := 125) dX2_drawn_117 (mk0 rfl) rfl) (ite_cg ?_ ?_)
    · refine Eq.trans (q_iload dX2_drawn_125 (mk0 rfl) rfl) ?_
      rfl
    · refine Eq.trans (q_iload dX2_drawn_120 (mk0 rfl) rfl) ?_
      refine Eq.trans (q_goto (t := 127) dX2_drawn_122 (mk0 rfl) rfl) ?_
      rfl
  · refine Eq.trans (q_aload_n dX2_drawn_26 (mk0 rfl) rfl rfl) ?_
    refine Eq.trans (q_getR (ci := 2) (k := 2) dX2_drawn_27 (mk0 rfl) rfl) (bind_cg2 fun x27 hx27 => ?_)
    have hx27 := fR_isR hx27
    refine Eq.trans (q_aload_n dX2_drawn_30 (mk0 rfl) rfl rfl) ?_
    refine Eq.trans (q_getR (ci := 2) (k := 0) dX2_drawn_31 (mk0 rfl) rfl) (bind_cg2 fun x31 hx31 => ?_)
    have hx31 := fR_isR hx31
    refine Eq.trans (q_getR (ci := 6) (k := 1) dX2_drawn_34 (mk0 rfl) rfl) (bind_cg2 fun x34 hx34 => ?_)
    have hx34 := fR_isR hx34
    refine Eq.trans (q_callV (as := [x34]) dX2_drawn_37 (mk0 rfl) rfl rfl rfl (Nat.le_of_ble_eq_true rfl) (by simp [eA, ct_i, ct_l, ct_r, ct_n, ct_x, mX7_copyFrom, (cat_R hx34)])) (bind_cg fun b37 => ?_)
    refine Eq.trans (cV_bind rfl) (bind_cg fun p37 => ?_)
    show RS (ZZ L xs) (d + 1) mX2_drawn 40 [some (.ref o), some (.int i1), some (.int i2), some (.int i3), some (.int i4), some (.int i5), some (.int i6), some (.int i7), none] [] p37 = _
    refine Eq.trans (q_iconst (v := 0) dX2_drawn_40 (mk0 rfl) rfl) ?_
    refine Eq.trans (q_istore (lv2 := [some (.ref o), some (.int i1), some (.int i2), some (.int i3), some (.int i4), some (.int i5), some (.int i6), some (.int i7), some (.int 0)]) dX2_drawn_41 (mk0 rfl) (Nat.le_of_ble_eq_true rfl) rfl) ?_
    rfl
set_option maxRecDepth 20000 in
theorem bX2_drawn_43 {L : Nat} {xs : Nat → Int32} (d : Nat) (o : Nat) (i1 : Int32) (i2 : Int32) (i3 : Int32) (i4 : Int32) (i5 : Int32) (i6 : Int32) (i7 : Int32) (i8 : Int32) (ph : PH) : RS (ZZ L xs) (d + 1) mX2_drawn 43 [some (.ref o), some (.int i1), some (.int i2), some (.int i3), some (.int i4), some (.int i5), some (.int i6), some (.int i7), some (.int i8)] [] ph = if (i2 : Int32) ≤ i8 then (fR ph (.ref o) 2 2).bind fun x89 => (fI ph x89 7 2).bind fun x92 => (fR ph (.ref o) 2 0).bind fun x96 => (fR ph x96 6 1).bind fun x99 => (fI ph x99 7 2).bind fun x102 => RS (ZZ L xs) (d + 1) mX2_drawn 20 [some (.ref o), some (.int i1), some (.int i2), some (.int i3), some (.int i4), some (.int (i5 + (x92 - x102))), some (.int i6), some (.int (i7 + 1)), some (.int i8)] [] ph else (iO ph (.ref o) 2).bind fun b50 => (cI (ZZ L xs) d mX2_draw [.ref b50] ph).bind fun p50 => if (100 : Int32) = 0 then none else if (i3 : Int32) ≤ iRem p50.2 100 then RS (ZZ L xs) (d + 1) mX2_drawn 64 [some (.ref o), some (.int i1), some (.int i2), some (.int i3), some (.int i4), some (.int i5), some (.int i6), some (.int i7), some (.int i8)] [] p50.1 else (iO p50.1 (.ref o) 2).bind fun b61 => (cV (ZZ L xs) d mX2_placeByDraw [.ref b61] p50.1).bind fun p61 => RS (ZZ L xs) (d + 1) mX2_drawn 64 [some (.ref o), some (.int i1), some (.int i2), some (.int i3), some (.int i4), some (.int i5), some (.int i6), some (.int i7), some (.int i8)] [] p61 := by
  refine Eq.trans (q_iload dX2_drawn_43 (mk0 rfl) rfl) ?_
  refine Eq.trans (q_iload_n dX2_drawn_45 (mk0 rfl) rfl) ?_
  refine Eq.trans (q_icmp_ge (t := 86) dX2_drawn_46 (mk0 rfl) rfl) (ite_cg ?_ ?_)
  · refine Eq.trans (q_iload dX2_drawn_86 (mk0 rfl) rfl) ?_
    refine Eq.trans (q_aload_n dX2_drawn_88 (mk0 rfl) rfl rfl) ?_
    refine Eq.trans (q_getR (ci := 2) (k := 2) dX2_drawn_89 (mk0 rfl) rfl) (bind_cg2 fun x89 hx89 => ?_)
    have hx89 := fR_isR hx89
    refine Eq.trans (q_getI (ci := 7) (k := 2) dX2_drawn_92 (mk0 rfl) rfl) (bind_cg fun x92 => ?_)
    refine Eq.trans (q_aload_n dX2_drawn_95 (mk0 rfl) rfl rfl) ?_
    refine Eq.trans (q_getR (ci := 2) (k := 0) dX2_drawn_96 (mk0 rfl) rfl) (bind_cg2 fun x96 hx96 => ?_)
    have hx96 := fR_isR hx96
    refine Eq.trans (q_getR (ci := 6) (k := 1) dX2_drawn_99 (mk0 rfl) rfl) (bind_cg2 fun x99 hx99 => ?_)
    have hx99 := fR_isR hx99
    refine Eq.trans (q_getI (ci := 7) (k := 2) dX2_drawn_102 (mk0 rfl) rfl) (bind_cg fun x102 => ?_)
    refine Eq.trans (q_isub dX2_drawn_105 (mk0 rfl)) ?_
    refine Eq.trans (q_iadd dX2_drawn_106 (mk0 rfl)) ?_
    refine Eq.trans (q_istore (lv2 := [some (.ref o), some (.int i1), some (.int i2), some (.int i3), some (.int i4), some (.int (i5 + (x92 - x102))), some (.int i6), some (.int i7), some (.int i8)]) dX2_drawn_107 (mk0 rfl) (Nat.le_of_ble_eq_true rfl) rfl) ?_
    refine Eq.trans (q_iinc (v := 1) (lv2 := [some (.ref o), some (.int i1), some (.int i2), some (.int i3), some (.int i4), some (.int (i5 + (x92 - x102))), some (.int i6), some (.int (i7 + 1)), some (.int i8)]) dX2_drawn_109 (mk0 rfl) rfl rfl rfl) ?_
    refine Eq.trans (q_goto (t := 20) dX2_drawn_112 (mk0 rfl) rfl) ?_
    rfl
  · refine Eq.trans (q_aload_n dX2_drawn_49 (mk0 rfl) rfl rfl) ?_
    refine Eq.trans (q_callV (as := []) dX2_drawn_50 (mk0 rfl) rfl rfl rfl (Nat.le_of_ble_eq_true rfl) (Nat.le_of_ble_eq_true rfl)) (bind_cg fun b50 => ?_)
    refine Eq.trans (cI_bind (Or.inl rfl)) (bind_cg fun p50 => ?_)
    show RS (ZZ L xs) (d + 1) mX2_drawn 53 [some (.ref o), some (.int i1), some (.int i2), some (.int i3), some (.int i4), some (.int i5), some (.int i6), some (.int i7), some (.int i8)] [.int p50.2] p50.1 = _
    refine Eq.trans (q_bipush (v := 100) dX2_drawn_53 (mk0 rfl) rfl) ?_
    refine Eq.trans (q_irem dX2_drawn_55 (mk0 rfl)) (ite_cg rfl ?_)
    refine Eq.trans (q_iload_n dX2_drawn_56 (mk0 rfl) rfl) ?_
    refine Eq.trans (q_icmp_ge (t := 64) dX2_drawn_57 (mk0 rfl) rfl) (ite_cg ?_ ?_)
    · rfl
    · refine Eq.trans (q_aload_n dX2_drawn_60 (mk0 rfl) rfl rfl) ?_
      refine Eq.trans (q_callV (as := []) dX2_drawn_61 (mk0 rfl) rfl rfl rfl (Nat.le_of_ble_eq_true rfl) (Nat.le_of_ble_eq_true rfl)) (bind_cg fun b61 => ?_)
      refine Eq.trans (cV_bind rfl) (bind_cg fun p61 => ?_)
      show RS (ZZ L xs) (d + 1) mX2_drawn 64 [some (.ref o), some (.int i1), some (.int i2), some (.int i3), some (.int i4), some (.int i5), some (.int i6), some (.int i7), some (.int i8)] [] p61 = _
      rfl
set_option maxRecDepth 20000 in
theorem bX2_drawn_64 {L : Nat} {xs : Nat → Int32} (d : Nat) (o : Nat) (i1 : Int32) (i2 : Int32) (i3 : Int32) (i4 : Int32) (i5 : Int32) (i6 : Int32) (i7 : Int32) (i8 : Int32) (ph : PH) : RS (ZZ L xs) (d + 1) mX2_drawn 64 [some (.ref o), some (.int i1), some (.int i2), some (.int i3), some (.int i4), some (.int i5), some (.int i6), some (.int i7), some (.int i8)] [] ph = (fR ph (.ref o) 2 1).bind fun x67 => (fR ph (.ref o) 2 2).bind fun x71 => (iO ph x67 0).bind fun b74 => (cI (ZZ L xs) d mX0_pass [.ref b74, x71] ph).bind fun p74 => RS (ZZ L xs) (d + 1) mX2_drawn 43 [some (.ref o), some (.int i1), some (.int i2), some (.int i3), some (.int i4), some (.int i5), some (.int (i6 + p74.2)), some (.int i7), some (.int (i8 + 1))] [] p74.1 := by
  refine Eq.trans (q_iload dX2_drawn_64 (mk0 rfl) rfl) ?_
  refine Eq.trans (q_aload_n dX2_drawn_66 (mk0 rfl) rfl rfl) ?_
  refine Eq.trans (q_getR (ci := 2) (k := 1) dX2_drawn_67 (mk0 rfl) rfl) (bind_cg2 fun x67 hx67 => ?_)
  have hx67 := fR_isR hx67
  refine Eq.trans (q_aload_n dX2_drawn_70 (mk0 rfl) rfl rfl) ?_
  refine Eq.trans (q_getR (ci := 2) (k := 2) dX2_drawn_71 (mk0 rfl) rfl) (bind_cg2 fun x71 hx71 => ?_)
  have hx71 := fR_isR hx71
  refine Eq.trans (q_callV (as := [x71]) dX2_drawn_74 (mk0 rfl) rfl rfl rfl (Nat.le_of_ble_eq_true rfl) (by simp [eA, ct_i, ct_l, ct_r, ct_n, ct_x, mX0_pass, (cat_R hx71)])) (bind_cg fun b74 => ?_)
  refine Eq.trans (cI_bind (Or.inl rfl)) (bind_cg fun p74 => ?_)
  show RS (ZZ L xs) (d + 1) mX2_drawn 77 [some (.ref o), some (.int i1), some (.int i2), some (.int i3), some (.int i4), some (.int i5), some (.int i6), some (.int i7), some (.int i8)] [.int p74.2, .int i6] p74.1 = _
  refine Eq.trans (q_iadd dX2_drawn_77 (mk0 rfl)) ?_
  refine Eq.trans (q_istore (lv2 := [some (.ref o), some (.int i1), some (.int i2), some (.int i3), some (.int i4), some (.int i5), some (.int (i6 + p74.2)), some (.int i7), some (.int i8)]) dX2_drawn_78 (mk0 rfl) (Nat.le_of_ble_eq_true rfl) rfl) ?_
  refine Eq.trans (q_iinc (v := 1) (lv2 := [some (.ref o), some (.int i1), some (.int i2), some (.int i3), some (.int i4), some (.int i5), some (.int (i6 + p74.2)), some (.int i7), some (.int (i8 + 1))]) dX2_drawn_80 (mk0 rfl) rfl rfl rfl) ?_
  refine Eq.trans (q_goto (t := 43) dX2_drawn_83 (mk0 rfl) rfl) ?_
  rfl
set_option maxRecDepth 20000 in
theorem bX2_drawn_127 {L : Nat} {xs : Nat → Int32} (d : Nat) (u0 : Option Value) (u1 : Option Value) (u2 : Option Value) (u3 : Option Value) (u4 : Option Value) (u5 : Option Value) (u6 : Option Value) (u7 : Option Value) (u8 : Option Value) (t0 : Int32) (ph : PH) : RS (ZZ L xs) (d + 1) mX2_drawn 127 [u0, u1, u2, u3, u4, u5, u6, u7, u8] [.int t0] ph = some (ph, some (.int t0)) := by
  exact q_ireturn dX2_drawn_127 (show mK mX2_drawn 127 [u0, u1, u2, u3, u4, u5, u6, u7, u8] = [none, none, none, none, none, none, none, none, none] from rfl) rfl
set_option maxRecDepth 20000 in
theorem bX2_placeByDraw_0 {L : Nat} {xs : Nat → Int32} (d : Nat) (o : Nat) (ph : PH) : RS (ZZ L xs) (d + 1) mX2_placeByDraw 0 [some (.ref o), none, none, none] [] ph = (fR ph (.ref o) 2 0).bind fun x1 => (fR ph x1 6 0).bind fun x4 => (fI ph x4 9 2).bind fun x7 => (fR ph (.ref o) 2 0).bind fun x12 => (fR ph x12 6 0).bind fun x15 => (fI ph x15 9 0).bind fun x18 => if (x7 : Int32) ≤ 0 then RS (ZZ L xs) (d + 1) mX2_placeByDraw 52 [some (.ref o), some (.int x7), some (.int x18), none] [] ph else if (x18 : Int32) ≤ 0 then RS (ZZ L xs) (d + 1) mX2_placeByDraw 52 [some (.ref o), some (.int x7), some (.int x18), none] [] ph else (iO ph (.ref o) 2).bind fun b31 => (cI (ZZ L xs) d mX2_draw [.ref b31] ph).bind fun p31 => if (x7 : Int32) = 0 then none else (fR p31.1 (.ref o) 2 2).bind fun x38 => (fR p31.1 x38 7 4).bind fun x41 => (iO p31.1 (.ref o) 2).bind fun b46 => (cI (ZZ L xs) d mX2_draw [.ref b46] p31.1).bind fun p46 => if (x18 : Int32) = 0 then none else (wI p46.1 x41 (iRem p31.2 x7) (iRem p46.2 x18)).bind fun h51 => RS (ZZ L xs) (d + 1) mX2_placeByDraw 52 [some (.ref o), some (.int x7), some (.int x18), some (.int (iRem p31.2 x7))] [] h51 := by
  refine Eq.trans (q_aload_n dX2_placeByDraw_0 (mk0 rfl) rfl rfl) ?_
  refine Eq.trans (q_getR (ci := 2) (k := 0) dX2_placeByDraw_1 (mk0 rfl) rfl) (bind_cg2 fun x1 hx1 => ?_)
  have hx1 := fR_isR hx1
  refine Eq.trans (q_getR (ci := 6) (k := 0) dX2_placeByDraw_4 (mk0 rfl) rfl) (bind_cg2 fun x4 hx4 => ?_)
  have hx4 := fR_isR hx4
  refine Eq.trans (q_getI (ci := 9) (k := 2) dX2_placeByDraw_7 (mk0 rfl) rfl) (bind_cg fun x7 => ?_)
  refine Eq.trans (q_istore_n (lv2 := [some (.ref o), some (.int x7), none, none]) dX2_placeByDraw_10 (mk0 rfl) (Nat.le_of_ble_eq_true rfl) rfl) ?_
  refine Eq.trans (q_aload_n dX2_placeByDraw_11 (mk0 rfl) rfl rfl) ?_
  refine Eq.trans (q_getR (ci := 2) (k := 0) dX2_placeByDraw_12 (mk0 rfl) rfl) (bind_cg2 fun x12 hx12 => ?_)
  have hx12 := fR_isR hx12
  refine Eq.trans (q_getR (ci := 6) (k := 0) dX2_placeByDraw_15 (mk0 rfl) rfl) (bind_cg2 fun x15 hx15 => ?_)
  have hx15 := fR_isR hx15
  refine Eq.trans (q_getI (ci := 9) (k := 0) dX2_placeByDraw_18 (mk0 rfl) rfl) (bind_cg fun x18 => ?_)
  refine Eq.trans (q_istore_n (lv2 := [some (.ref o), some (.int x7), some (.int x18), none]) dX2_placeByDraw_21 (mk0 rfl) (Nat.le_of_ble_eq_true rfl) rfl) ?_
  refine Eq.trans (q_iload_n dX2_placeByDraw_22 (mk0 rfl) rfl) ?_
  refine Eq.trans (q_if_le (t := 52) dX2_placeByDraw_23 (mk0 rfl) rfl) (ite_cg ?_ ?_)
  · rfl
  · refine Eq.trans (q_iload_n dX2_placeByDraw_26 (mk0 rfl) rfl) ?_
    refine Eq.trans (q_if_le (t := 52) dX2_placeByDraw_27 (mk0 rfl) rfl) (ite_cg ?_ ?_)
    · rfl
    · refine Eq.trans (q_aload_n dX2_placeByDraw_30 (mk0 rfl) rfl rfl) ?_
      refine Eq.trans (q_callV (as := []) dX2_placeByDraw_31 (mk0 rfl) rfl rfl rfl (Nat.le_of_ble_eq_true rfl) (Nat.le_of_ble_eq_true rfl)) (bind_cg fun b31 => ?_)
      refine Eq.trans (cI_bind (Or.inl rfl)) (bind_cg fun p31 => ?_)
      show RS (ZZ L xs) (d + 1) mX2_placeByDraw 34 [some (.ref o), some (.int x7), some (.int x18), none] [.int p31.2] p31.1 = _
      refine Eq.trans (q_iload_n dX2_placeByDraw_34 (mk0 rfl) rfl) ?_
      refine Eq.trans (q_irem dX2_placeByDraw_35 (mk0 rfl)) (ite_cg rfl ?_)
      refine Eq.trans (q_istore_n (lv2 := [some (.ref o), some (.int x7), some (.int x18), some (.int (iRem p31.2 x7))]) dX2_placeByDraw_36 (mk0 rfl) (Nat.le_of_ble_eq_true rfl) rfl) ?_
      refine Eq.trans (q_aload_n dX2_placeByDraw_37 (mk0 rfl) rfl rfl) ?_
      refine Eq.trans (q_getR (ci := 2) (k := 2) dX2_placeByDraw_38 (mk0 rfl) rfl) (bind_cg2 fun x38 hx38 => ?_)
      have hx38 := fR_isR hx38
      refine Eq.trans (q_getR (ci := 7) (k := 4) dX2_placeByDraw_41 (mk0 rfl) rfl) (bind_cg2 fun x41 hx41 => ?_)
      have hx41 := fR_isR hx41
      refine Eq.trans (q_iload_n dX2_placeByDraw_44 (mk0 rfl) rfl) ?_
      refine Eq.trans (q_aload_n dX2_placeByDraw_45 (mk0 rfl) rfl rfl) ?_
      refine Eq.trans (q_callV (as := []) dX2_placeByDraw_46 (mk0 rfl) rfl rfl rfl (by simp [catS, ct_i, ct_l, ct_r, ct_n, ct_x, (cat_R hx41)]) (Nat.le_of_ble_eq_true rfl)) (bind_cg fun b46 => ?_)
      refine Eq.trans (cI_bind (Or.inl rfl)) (bind_cg fun p46 => ?_)
      show RS (ZZ L xs) (d + 1) mX2_placeByDraw 49 [some (.ref o), some (.int x7), some (.int x18), some (.int (iRem p31.2 x7))] [.int p46.2, .int (iRem p31.2 x7), x41] p46.1 = _
      refine Eq.trans (q_iload_n dX2_placeByDraw_49 (mk0 rfl) rfl) ?_
      refine Eq.trans (q_irem dX2_placeByDraw_50 (mk0 rfl)) (ite_cg rfl ?_)
      refine Eq.trans (q_iastore dX2_placeByDraw_51 (mk0 rfl)) (bind_cg fun h51 => ?_)
      rfl
set_option maxRecDepth 20000 in
theorem bX2_placeByDraw_52 {L : Nat} {xs : Nat → Int32} (d : Nat) (u0 : Option Value) (u1 : Option Value) (u2 : Option Value) (u3 : Option Value) (ph : PH) : RS (ZZ L xs) (d + 1) mX2_placeByDraw 52 [u0, u1, u2, u3] [] ph = some (ph, none) := by
  exact q_return dX2_placeByDraw_52 (show mK mX2_placeByDraw 52 [u0, u1, u2, u3] = [none, none, none, none] from rfl) rfl
set_option maxRecDepth 20000 in
theorem bX2_draw_0 {L : Nat} {xs : Nat → Int32} (d : Nat) (o : Nat) (ph : PH) : RS (ZZ L xs) (d + 1) mX2_draw 0 [some (.ref o)] [] ph = (fI ph (.ref o) 2 10).bind fun x2 => (fP ph (.ref o) 2 10 (.int (((x2 * 1103515245) + 12345) &&& 2147483647))).bind fun h15 => (fI h15 (.ref o) 2 10).bind fun x19 => if (65536 : Int32) = 0 then none else some (h15, some (.int (x19 / 65536))) := by
  refine Eq.trans (q_aload_n dX2_draw_0 (mk0 rfl) rfl rfl) ?_
  refine Eq.trans (q_aload_n dX2_draw_1 (mk0 rfl) rfl rfl) ?_
  refine Eq.trans (q_getI (ci := 2) (k := 10) dX2_draw_2 (mk0 rfl) rfl) (bind_cg fun x2 => ?_)
  refine Eq.trans (q_ldcI (v := 1103515245) dX2_draw_5 (mk0 rfl) rfl) ?_
  refine Eq.trans (q_imul dX2_draw_7 (mk0 rfl)) ?_
  refine Eq.trans (q_sipush (v := 12345) dX2_draw_8 (mk0 rfl) rfl) ?_
  refine Eq.trans (q_iadd dX2_draw_11 (mk0 rfl)) ?_
  refine Eq.trans (q_ldcI (v := 2147483647) dX2_draw_12 (mk0 rfl) rfl) ?_
  refine Eq.trans (q_iand dX2_draw_14 (mk0 rfl)) ?_
  refine Eq.trans (q_put (ci := 2) (k := 10) (kd := 0) dX2_draw_15 (mk0 rfl) rfl rfl (fun h => by cases h)) (bind_cg fun h15 => ?_)
  refine Eq.trans (q_aload_n dX2_draw_18 (mk0 rfl) rfl rfl) ?_
  refine Eq.trans (q_getI (ci := 2) (k := 10) dX2_draw_19 (mk0 rfl) rfl) (bind_cg fun x19 => ?_)
  refine Eq.trans (q_ldcI (v := 65536) dX2_draw_22 (mk0 rfl) rfl) ?_
  refine Eq.trans (q_idiv dX2_draw_24 (mk0 rfl)) (ite_cg rfl ?_)
  exact q_ireturn dX2_draw_25 (mk0 rfl) rfl
