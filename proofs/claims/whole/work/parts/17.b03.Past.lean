set_option maxRecDepth 20000 in
theorem bX3_init_0 {L : Nat} {xs : Nat → Int32} (d : Nat) (o : Nat) (ph : PH) : RS (ZZ L xs) (d + 1) mX3_init 0 [some (.ref o), none] [] ph = (fP (ph ++ [nwR 5 ((20 : Int32).toNatClampNeg)]) (.ref o) 3 2 (.ref ph.length)).bind fun h10 => RS (ZZ L xs) (d + 1) mX3_init 15 [some (.ref o), some (.int 0)] [] h10 := by
  refine Eq.trans (q_aload_n dX3_init_0 (mk0 rfl) rfl rfl) ?_
  refine Eq.trans (q_obj dX3_init_1 (mk0 rfl) rfl (Nat.le_of_ble_eq_true rfl)) ?_
  refine Eq.trans (q_aload_n dX3_init_4 (mk0 rfl) rfl rfl) ?_
  refine Eq.trans (q_bipush (v := 20) dX3_init_5 (mk0 rfl) rfl) ?_
  refine Eq.trans (q_anewarray (t := 5) dX3_init_7 (mk0 rfl) rfl ⟨by decide, by decide, by decide⟩) ?_
  refine Eq.trans (q_put (ci := 3) (k := 2) (kd := 2) dX3_init_10 (mk0 rfl) rfl rfl (fun _ => ⟨rfl, rfl⟩)) (bind_cg fun h10 => ?_)
  refine Eq.trans (q_iconst (v := 0) dX3_init_13 (mk0 rfl) rfl) ?_
  refine Eq.trans (q_istore_n (lv2 := [some (.ref o), some (.int 0)]) dX3_init_14 (mk0 rfl) (Nat.le_of_ble_eq_true rfl) rfl) ?_
  rfl
set_option maxRecDepth 20000 in
theorem bX3_init_15 {L : Nat} {xs : Nat → Int32} (d : Nat) (o : Nat) (i1 : Int32) (ph : PH) : RS (ZZ L xs) (d + 1) mX3_init 15 [some (.ref o), some (.int i1)] [] ph = if (20 : Int32) ≤ i1 then some (ph, none) else (fR ph (.ref o) 3 2).bind fun x22 => (dR (.ref ph.length)).bind fun b30 => (cV (ZZ L xs) d mX7_init [.ref b30] (ph ++ [.inr (7, [.int 0, .int 0, .int 0, .long 0, .null, .null, .null, .null, .null, .null, .null])])).bind fun p30 => (wR p30 x22 i1 (.ref ph.length)).bind fun h33 => RS (ZZ L xs) (d + 1) mX3_init 15 [some (.ref o), some (.int (i1 + 1))] [] h33 := by
  refine Eq.trans (q_iload_n dX3_init_15 (mk0 rfl) rfl) ?_
  refine Eq.trans (q_bipush (v := 20) dX3_init_16 (mk0 rfl) rfl) ?_
  refine Eq.trans (q_icmp_ge (t := 40) dX3_init_18 (mk0 rfl) rfl) (ite_cg ?_ ?_)
  · exact q_return dX3_init_40 (mk0 rfl) rfl
  · refine Eq.trans (q_aload_n dX3_init_21 (mk0 rfl) rfl rfl) ?_
    refine Eq.trans (q_getR (ci := 3) (k := 2) dX3_init_22 (mk0 rfl) rfl) (bind_cg2 fun x22 hx22 => ?_)
    have hx22 := fR_isR hx22
    refine Eq.trans (q_iload_n dX3_init_25 (mk0 rfl) rfl) ?_
    refine Eq.trans (q_new dX3_init_26 (mk0 rfl) rfl) ?_
    refine Eq.trans (q_dup dX3_init_29 (mk0 rfl) rfl) ?_
    refine Eq.trans (q_callI (as := []) dX3_init_30 (mk0 rfl) rfl (Or.inr rfl) rfl rfl (by simp [catS, ct_i, ct_l, ct_r, ct_n, ct_x, (cat_R hx22)]) (Nat.le_of_ble_eq_true rfl)) (bind_cg fun b30 => ?_)
    refine Eq.trans (cV_bind rfl) (bind_cg fun p30 => ?_)
    show RS (ZZ L xs) (d + 1) mX3_init 33 [some (.ref o), some (.int i1)] [.ref ph.length, .int i1, x22] p30 = _
    refine Eq.trans (q_aastore dX3_init_33 (mk0 rfl)) (bind_cg fun h33 => ?_)
    refine Eq.trans (q_iinc (v := 1) (lv2 := [some (.ref o), some (.int (i1 + 1))]) dX3_init_34 (mk0 rfl) rfl rfl rfl) ?_
    refine Eq.trans (q_goto (t := 15) dX3_init_37 (mk0 rfl) rfl) ?_
    rfl
set_option maxRecDepth 20000 in
theorem bX3_clear_0 {L : Nat} {xs : Nat → Int32} (d : Nat) (o : Nat) (ph : PH) : RS (ZZ L xs) (d + 1) mX3_clear 0 [some (.ref o)] [] ph = (fP ph (.ref o) 3 0 (.int 0)).bind fun h2 => some (h2, none) := by
  refine Eq.trans (q_aload_n dX3_clear_0 (mk0 rfl) rfl rfl) ?_
  refine Eq.trans (q_iconst (v := 0) dX3_clear_1 (mk0 rfl) rfl) ?_
  refine Eq.trans (q_put (ci := 3) (k := 0) (kd := 0) dX3_clear_2 (mk0 rfl) rfl rfl (fun h => by cases h)) (bind_cg fun h2 => ?_)
  exact q_return dX3_clear_5 (mk0 rfl) rfl
set_option maxRecDepth 20000 in
theorem bX3_push_0 {L : Nat} {xs : Nat → Int32} (d : Nat) (o : Nat) (v1 : Value) (hv1 : isR v1 = true) (ph : PH) : RS (ZZ L xs) (d + 1) mX3_push 0 [some (.ref o), some (v1)] [] ph = (fR ph (.ref o) 3 2).bind fun x1 => (fI ph (.ref o) 3 1).bind fun x5 => (eR ph x1 x5).bind fun x8 => (iO ph x8 7).bind fun b10 => (cV (ZZ L xs) d mX7_copyFrom [.ref b10, v1] ph).bind fun p10 => (fI p10 (.ref o) 3 1).bind fun x15 => if (20 : Int32) = 0 then none else (fP p10 (.ref o) 3 1 (.int (iRem (x15 + 1) 20))).bind fun h23 => (fI h23 (.ref o) 3 0).bind fun x28 => (fP h23 (.ref o) 3 0 (.int (if (20 : Int32) < x28 + 1 then 20 else x28 + 1))).bind fun h38 => some (h38, none) := by
  refine Eq.trans (q_aload_n dX3_push_0 (mk0 rfl) rfl rfl) ?_
  refine Eq.trans (q_getR (ci := 3) (k := 2) dX3_push_1 (mk0 rfl) rfl) (bind_cg2 fun x1 hx1 => ?_)
  have hx1 := fR_isR hx1
  refine Eq.trans (q_aload_n dX3_push_4 (mk0 rfl) rfl rfl) ?_
  refine Eq.trans (q_getI (ci := 3) (k := 1) dX3_push_5 (mk0 rfl) rfl) (bind_cg fun x5 => ?_)
  refine Eq.trans (q_aaload dX3_push_8 (mk0 rfl)) (bind_cg2 fun x8 hx8 => ?_)
  have hx8 := eR_isR hx8
  refine Eq.trans (q_aload_n dX3_push_9 (mk0 rfl) rfl (isA_R hv1)) ?_
  refine Eq.trans (q_callV (as := [v1]) dX3_push_10 (mk0 rfl) rfl rfl rfl (Nat.le_of_ble_eq_true rfl) (by simp [eA, ct_i, ct_l, ct_r, ct_n, ct_x, mX7_copyFrom, (cat_R hv1)])) (bind_cg fun b10 => ?_)
  refine Eq.trans (cV_bind rfl) (bind_cg fun p10 => ?_)
  show RS (ZZ L xs) (d + 1) mX3_push 13 [some (.ref o), some (v1)] [] p10 = _
  refine Eq.trans (q_aload_n dX3_push_13 (mk0 rfl) rfl rfl) ?_
  refine Eq.trans (q_aload_n dX3_push_14 (mk0 rfl) rfl rfl) ?_
  refine Eq.trans (q_getI (ci := 3) (k := 1) dX3_push_15 (mk0 rfl) rfl) (bind_cg fun x15 => ?_)
  refine Eq.trans (q_iconst (v := 1) dX3_push_18 (mk0 rfl) rfl) ?_
  refine Eq.trans (q_iadd dX3_push_19 (mk0 rfl)) ?_
  refine Eq.trans (q_bipush (v := 20) dX3_push_20 (mk0 rfl) rfl) ?_
  refine Eq.trans (q_irem dX3_push_22 (mk0 rfl)) (ite_cg rfl ?_)
  refine Eq.trans (q_put (ci := 3) (k := 1) (kd := 0) dX3_push_23 (mk0 rfl) rfl rfl (fun h => by cases h)) (bind_cg fun h23 => ?_)
  refine Eq.trans (q_aload_n dX3_push_26 (mk0 rfl) rfl rfl) ?_
  refine Eq.trans (q_aload_n dX3_push_27 (mk0 rfl) rfl rfl) ?_
  refine Eq.trans (q_getI (ci := 3) (k := 0) dX3_push_28 (mk0 rfl) rfl) (bind_cg fun x28 => ?_)
  refine Eq.trans (q_iconst (v := 1) dX3_push_31 (mk0 rfl) rfl) ?_
  refine Eq.trans (q_iadd dX3_push_32 (mk0 rfl)) ?_
  refine Eq.trans (q_bipush (v := 20) dX3_push_33 (mk0 rfl) rfl) ?_
  refine Eq.trans (q_min dX3_push_35 (mk0 rfl) rfl (Nat.le_of_ble_eq_true rfl)) ?_
  refine Eq.trans (q_put (ci := 3) (k := 0) (kd := 0) dX3_push_38 (mk0 rfl) rfl rfl (fun h => by cases h)) (bind_cg fun h38 => ?_)
  exact q_return dX3_push_41 (mk0 rfl) rfl
set_option maxRecDepth 20000 in
theorem bX3_pop_0 {L : Nat} {xs : Nat → Int32} (d : Nat) (o : Nat) (v1 : Value) (hv1 : isR v1 = true) (ph : PH) : RS (ZZ L xs) (d + 1) mX3_pop 0 [some (.ref o), some (v1)] [] ph = (fI ph (.ref o) 3 0).bind fun x1 => if ¬ (x1 : Int32) = 0 then (fI ph (.ref o) 3 1).bind fun x10 => if (20 : Int32) = 0 then none else (fP ph (.ref o) 3 1 (.int (iRem ((x10 + 20) - 1) 20))).bind fun h21 => (fI h21 (.ref o) 3 0).bind fun x26 => (fP h21 (.ref o) 3 0 (.int (x26 - 1))).bind fun h31 => (fR h31 (.ref o) 3 2).bind fun x36 => (fI h31 (.ref o) 3 1).bind fun x40 => (eR h31 x36 x40).bind fun x43 => (iO h31 v1 7).bind fun b44 => (cV (ZZ L xs) d mX7_copyFrom [.ref b44, x43] h31).bind fun p44 => some (p44, none) else some (ph, none) := by
  refine Eq.trans (q_aload_n dX3_pop_0 (mk0 rfl) rfl rfl) ?_
  refine Eq.trans (q_getI (ci := 3) (k := 0) dX3_pop_1 (mk0 rfl) rfl) (bind_cg fun x1 => ?_)
  refine Eq.trans (q_if_ne (t := 8) dX3_pop_4 (mk0 rfl) rfl) (ite_cg ?_ ?_)
  · refine Eq.trans (q_aload_n dX3_pop_8 (mk0 rfl) rfl rfl) ?_
    refine Eq.trans (q_aload_n dX3_pop_9 (mk0 rfl) rfl rfl) ?_
    refine Eq.trans (q_getI (ci := 3) (k := 1) dX3_pop_10 (mk0 rfl) rfl) (bind_cg fun x10 => ?_)
    refine Eq.trans (q_bipush (v := 20) dX3_pop_13 (mk0 rfl) rfl) ?_
    refine Eq.trans (q_iadd dX3_pop_15 (mk0 rfl)) ?_
    refine Eq.trans (q_iconst (v := 1) dX3_pop_16 (mk0 rfl) rfl) ?_
    refine Eq.trans (q_isub dX3_pop_17 (mk0 rfl)) ?_
    refine Eq.trans (q_bipush (v := 20) dX3_pop_18 (mk0 rfl) rfl) ?_
    refine Eq.trans (q_irem dX3_pop_20 (mk0 rfl)) (ite_cg rfl ?_)
    refine Eq.trans (q_put (ci := 3) (k := 1) (kd := 0) dX3_pop_21 (mk0 rfl) rfl rfl (fun h => by cases h)) (bind_cg fun h21 => ?_)
    refine Eq.trans (q_aload_n dX3_pop_24 (mk0 rfl) rfl rfl) ?_
    refine Eq.trans (q_dup dX3_pop_25 (mk0 rfl) rfl) ?_
    refine Eq.trans (q_getI (ci := 3) (k := 0) dX3_pop_26 (mk0 rfl) rfl) (bind_cg fun x26 => ?_)
    refine Eq.trans (q_iconst (v := 1) dX3_pop_29 (mk0 rfl) rfl) ?_
    refine Eq.trans (q_isub dX3_pop_30 (mk0 rfl)) ?_
    refine Eq.trans (q_put (ci := 3) (k := 0) (kd := 0) dX3_pop_31 (mk0 rfl) rfl rfl (fun h => by cases h)) (bind_cg fun h31 => ?_)
    refine Eq.trans (q_aload_n dX3_pop_34 (mk0 rfl) rfl (isA_R hv1)) ?_
    refine Eq.trans (q_aload_n dX3_pop_35 (mk0 rfl) rfl rfl) ?_
    refine Eq.trans (q_getR (ci := 3) (k := 2) dX3_pop_36 (mk0 rfl) rfl) (bind_cg2 fun x36 hx36 => ?_)
    have hx36 := fR_isR hx36
    refine Eq.trans (q_aload_n dX3_pop_39 (mk0 rfl) rfl rfl) ?_
    refine Eq.trans (q_getI (ci := 3) (k := 1) dX3_pop_40 (mk0 rfl) rfl) (bind_cg fun x40 => ?_)
    refine Eq.trans (q_aaload dX3_pop_43 (mk0 rfl)) (bind_cg2 fun x43 hx43 => ?_)
    have hx43 := eR_isR hx43
    refine Eq.trans (q_callV (as := [x43]) dX3_pop_44 (mk0 rfl) rfl rfl rfl (Nat.le_of_ble_eq_true rfl) (by simp [eA, ct_i, ct_l, ct_r, ct_n, ct_x, mX7_copyFrom, (cat_R hx43)])) (bind_cg fun b44 => ?_)
    refine Eq.trans (cV_bind rfl) (bind_cg fun p44 => ?_)
    show RS (ZZ L xs) (d + 1) mX3_pop 47 [some (.ref o), some (v1)] [] p44 = _
    exact q_return dX3_pop_47 (mk0 rfl) rfl
  · exact q_return dX3_pop_7 (mk0 rfl) rfl
set_option maxRecDepth 20000 in
theorem bX3_copyFrom_0 {L : Nat} {xs : Nat → Int32} (d : Nat) (o : Nat) (v1 : Value) (hv1 : isR v1 = true) (ph : PH) : RS (ZZ L xs) (d + 1) mX3_copyFrom 0 [some (.ref o), some (v1), none, none] [] ph = (fI ph v1 3 0).bind fun x2 => (fP ph (.ref o) 3 0 (.int x2)).bind fun h5 => (fI h5 v1 3 1).bind fun x10 => (fP h5 (.ref o) 3 1 (.int x10)).bind fun h13 => RS (ZZ L xs) (d + 1) mX3_copyFrom 18 [some (.ref o), some (v1), some (.int 1), none] [] h13 := by
  refine Eq.trans (q_aload_n dX3_copyFrom_0 (mk0 rfl) rfl rfl) ?_
  refine Eq.trans (q_aload_n dX3_copyFrom_1 (mk0 rfl) rfl (isA_R hv1)) ?_
  refine Eq.trans (q_getI (ci := 3) (k := 0) dX3_copyFrom_2 (mk0 rfl) rfl) (bind_cg fun x2 => ?_)
  refine Eq.trans (q_put (ci := 3) (k := 0) (kd := 0) dX3_copyFrom_5 (mk0 rfl) rfl rfl (fun h => by cases h)) (bind_cg fun h5 => ?_)
  refine Eq.trans (q_aload_n dX3_copyFrom_8 (mk0 rfl) rfl rfl) ?_
  refine Eq.trans (q_aload_n dX3_copyFrom_9 (mk0 rfl) rfl (isA_R hv1)) ?_
  refine Eq.trans (q_getI (ci := 3) (k := 1) dX3_copyFrom_10 (mk0 rfl) rfl) (bind_cg fun x10 => ?_)
  refine Eq.trans (q_put (ci := 3) (k := 1) (kd := 0) dX3_copyFrom_13 (mk0 rfl) rfl rfl (fun h => by cases h)) (bind_cg fun h13 => ?_)
  refine Eq.trans (q_iconst (v := 1) dX3_copyFrom_16 (mk0 rfl) rfl) ?_
  refine Eq.trans (q_istore_n (lv2 := [some (.ref o), some (v1), some (.int 1), none]) dX3_copyFrom_17 (mk0 rfl) (Nat.le_of_ble_eq_true rfl) (by simp [s1, s2, s0, (cat_R hv1)] <;> rfl)) ?_
  rfl
set_option maxRecDepth 20000 in
theorem bX3_copyFrom_18 {L : Nat} {xs : Nat → Int32} (d : Nat) (o : Nat) (v1 : Value) (i2 : Int32) (u3 : Option Value) (hv1 : isR v1 = true) (ph : PH) : RS (ZZ L xs) (d + 1) mX3_copyFrom 18 [some (.ref o), some (v1), some (.int i2), u3] [] ph = (fI ph (.ref o) 3 0).bind fun x20 => if (x20 : Int32) < i2 then some (ph, none) else (fI ph (.ref o) 3 1).bind fun x27 => if (20 : Int32) = 0 then none else (fR ph (.ref o) 3 2).bind fun x40 => (eR ph x40 (iRem ((x27 + 20) - i2) 20)).bind fun x44 => (fR ph v1 3 2).bind fun x46 => (eR ph x46 (iRem ((x27 + 20) - i2) 20)).bind fun x50 => (iO ph x44 7).bind fun b51 => (cV (ZZ L xs) d mX7_copyFrom [.ref b51, x50] ph).bind fun p51 => RS (ZZ L xs) (d + 1) mX3_copyFrom 18 [some (.ref o), some (v1), some (.int (i2 + 1)), some (.int (iRem ((x27 + 20) - i2) 20))] [] p51 := by
  refine Eq.trans (q_iload_n dX3_copyFrom_18 (show mK mX3_copyFrom 18 [some (.ref o), some (v1), some (.int i2), u3] = [some (.ref o), some (v1), some (.int i2), none] from rfl) rfl) ?_
  refine Eq.trans (q_aload_n dX3_copyFrom_19 (mk0 rfl) rfl rfl) ?_
  refine Eq.trans (q_getI (ci := 3) (k := 0) dX3_copyFrom_20 (mk0 rfl) rfl) (bind_cg fun x20 => ?_)
  refine Eq.trans (q_icmp_gt (t := 60) dX3_copyFrom_23 (mk0 rfl) rfl) (ite_cg ?_ ?_)
  · exact q_return dX3_copyFrom_60 (mk0 rfl) rfl
  · refine Eq.trans (q_aload_n dX3_copyFrom_26 (mk0 rfl) rfl rfl) ?_
    refine Eq.trans (q_getI (ci := 3) (k := 1) dX3_copyFrom_27 (mk0 rfl) rfl) (bind_cg fun x27 => ?_)
    refine Eq.trans (q_bipush (v := 20) dX3_copyFrom_30 (mk0 rfl) rfl) ?_
    refine Eq.trans (q_iadd dX3_copyFrom_32 (mk0 rfl)) ?_
    refine Eq.trans (q_iload_n dX3_copyFrom_33 (mk0 rfl) rfl) ?_
    refine Eq.trans (q_isub dX3_copyFrom_34 (mk0 rfl)) ?_
    refine Eq.trans (q_bipush (v := 20) dX3_copyFrom_35 (mk0 rfl) rfl) ?_
    refine Eq.trans (q_irem dX3_copyFrom_37 (mk0 rfl)) (ite_cg rfl ?_)
    refine Eq.trans (q_istore_n (lv2 := [some (.ref o), some (v1), some (.int i2), some (.int (iRem ((x27 + 20) - i2) 20))]) dX3_copyFrom_38 (mk0 rfl) (Nat.le_of_ble_eq_true rfl) rfl) ?_
    refine Eq.trans (q_aload_n dX3_copyFrom_39 (mk0 rfl) rfl rfl) ?_
    refine Eq.trans (q_getR (ci := 3) (k := 2) dX3_copyFrom_40 (mk0 rfl) rfl) (bind_cg2 fun x40 hx40 => ?_)
    have hx40 := fR_isR hx40
    refine Eq.trans (q_iload_n dX3_copyFrom_43 (mk0 rfl) rfl) ?_
    refine Eq.trans (q_aaload dX3_copyFrom_44 (mk0 rfl)) (bind_cg2 fun x44 hx44 => ?_)
    have hx44 := eR_isR hx44
    refine Eq.trans (q_aload_n dX3_copyFrom_45 (mk0 rfl) rfl (isA_R hv1)) ?_
    refine Eq.trans (q_getR (ci := 3) (k := 2) dX3_copyFrom_46 (mk0 rfl) rfl) (bind_cg2 fun x46 hx46 => ?_)
    have hx46 := fR_isR hx46
    refine Eq.trans (q_iload_n dX3_copyFrom_49 (mk0 rfl) rfl) ?_
    refine Eq.trans (q_aaload dX3_copyFrom_50 (mk0 rfl)) (bind_cg2 fun x50 hx50 => ?_)
    have hx50 := eR_isR hx50
    refine Eq.trans (q_callV (as := [x50]) dX3_copyFrom_51 (mk0 rfl) rfl rfl rfl (Nat.le_of_ble_eq_true rfl) (by simp [eA, ct_i, ct_l, ct_r, ct_n, ct_x, mX7_copyFrom, (cat_R hx50)])) (bind_cg fun b51 => ?_)
    refine Eq.trans (cV_bind rfl) (bind_cg fun p51 => ?_)
    show RS (ZZ L xs) (d + 1) mX3_copyFrom 54 [some (.ref o), some (v1), some (.int i2), some (.int (iRem ((x27 + 20) - i2) 20))] [] p51 = _
    refine Eq.trans (q_iinc (v := 1) (lv2 := [some (.ref o), some (v1), some (.int (i2 + 1)), some (.int (iRem ((x27 + 20) - i2) 20))]) dX3_copyFrom_54 (mk0 rfl) rfl rfl (by simp [s1, s2, s0, (cat_R hv1)] <;> rfl)) ?_
    refine Eq.trans (q_goto (t := 18) dX3_copyFrom_57 (mk0 rfl) rfl) ?_
    rfl
