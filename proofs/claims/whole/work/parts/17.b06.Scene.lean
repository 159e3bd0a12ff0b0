set_option maxRecDepth 20000 in
theorem bX6_init_0 {L : Nat} {xs : Nat → Int32} (d : Nat) (o : Nat) (ph : PH) : RS (ZZ L xs) (d + 1) mX6_init 0 [some (.ref o)] [] ph = (dR (.ref ph.length)).bind fun b9 => (cV (ZZ L xs) d mX9_init [.ref b9] (ph ++ [.inr (9, [.int 0, .int 0, .int 0, .int 0, .long 0, .int 0, .null, .null, .null, .null, .null])])).bind fun p9 => (fP p9 (.ref o) 6 0 (.ref ph.length)).bind fun h12 => (dR (.ref h12.length)).bind fun b20 => (cV (ZZ L xs) d mX7_init [.ref b20] (h12 ++ [.inr (7, [.int 0, .int 0, .int 0, .long 0, .null, .null, .null, .null, .null, .null, .null])])).bind fun p20 => (fP p20 (.ref o) 6 1 (.ref h12.length)).bind fun h23 => (dR (.ref h23.length)).bind fun b31 => (cV (ZZ L xs) d mX3_init [.ref b31] (h23 ++ [.inr (3, [.int 0, .int 0, .null])])).bind fun p31 => (fP p31 (.ref o) 6 2 (.ref h23.length)).bind fun h34 => (fP h34 (.ref o) 6 3 (.int ((-1)))).bind fun h39 => (fP (h39 ++ [nwAr 0 10]) (.ref o) 6 6 (.ref h39.length)).bind fun h47 => (fP (h47 ++ [nwAr 0 10]) (.ref o) 6 7 (.ref h47.length)).bind fun h55 => (fP (h55 ++ [nwAr 0 10]) (.ref o) 6 8 (.ref h55.length)).bind fun h63 => some (h63, none) := by
  refine Eq.trans (q_aload_n dX6_init_0 (mk0 rfl) rfl rfl) ?_
  refine Eq.trans (q_obj dX6_init_1 (mk0 rfl) rfl (Nat.le_of_ble_eq_true rfl)) ?_
  refine Eq.trans (q_aload_n dX6_init_4 (mk0 rfl) rfl rfl) ?_
  refine Eq.trans (q_new dX6_init_5 (mk0 rfl) rfl) ?_
  refine Eq.trans (q_dup dX6_init_8 (mk0 rfl) rfl) ?_
  refine Eq.trans (q_callI (as := []) dX6_init_9 (mk0 rfl) rfl (Or.inr rfl) rfl rfl (Nat.le_of_ble_eq_true rfl) (Nat.le_of_ble_eq_true rfl)) (bind_cg fun b9 => ?_)
  refine Eq.trans (cV_bind rfl) (bind_cg fun p9 => ?_)
  show RS (ZZ L xs) (d + 1) mX6_init 12 [some (.ref o)] [.ref ph.length, .ref o] p9 = _
  refine Eq.trans (q_put (ci := 6) (k := 0) (kd := 2) dX6_init_12 (mk0 rfl) rfl rfl (fun h => by cases h)) (bind_cg fun h12 => ?_)
  refine Eq.trans (q_aload_n dX6_init_15 (mk0 rfl) rfl rfl) ?_
  refine Eq.trans (q_new dX6_init_16 (mk0 rfl) rfl) ?_
  refine Eq.trans (q_dup dX6_init_19 (mk0 rfl) rfl) ?_
  refine Eq.trans (q_callI (as := []) dX6_init_20 (mk0 rfl) rfl (Or.inr rfl) rfl rfl (Nat.le_of_ble_eq_true rfl) (Nat.le_of_ble_eq_true rfl)) (bind_cg fun b20 => ?_)
  refine Eq.trans (cV_bind rfl) (bind_cg fun p20 => ?_)
  show RS (ZZ L xs) (d + 1) mX6_init 23 [some (.ref o)] [.ref h12.length, .ref o] p20 = _
  refine Eq.trans (q_put (ci := 6) (k := 1) (kd := 2) dX6_init_23 (mk0 rfl) rfl rfl (fun _ => ⟨rfl, rfl⟩)) (bind_cg fun h23 => ?_)
  refine Eq.trans (q_aload_n dX6_init_26 (mk0 rfl) rfl rfl) ?_
  refine Eq.trans (q_new dX6_init_27 (mk0 rfl) rfl) ?_
  refine Eq.trans (q_dup dX6_init_30 (mk0 rfl) rfl) ?_
  refine Eq.trans (q_callI (as := []) dX6_init_31 (mk0 rfl) rfl (Or.inl rfl) rfl rfl (Nat.le_of_ble_eq_true rfl) (Nat.le_of_ble_eq_true rfl)) (bind_cg fun b31 => ?_)
  refine Eq.trans (cV_bind rfl) (bind_cg fun p31 => ?_)
  show RS (ZZ L xs) (d + 1) mX6_init 34 [some (.ref o)] [.ref h23.length, .ref o] p31 = _
  refine Eq.trans (q_put (ci := 6) (k := 2) (kd := 2) dX6_init_34 (mk0 rfl) rfl rfl (fun _ => ⟨rfl, rfl⟩)) (bind_cg fun h34 => ?_)
  refine Eq.trans (q_aload_n dX6_init_37 (mk0 rfl) rfl rfl) ?_
  refine Eq.trans (q_iconst (v := (-1)) dX6_init_38 (mk0 rfl) rfl) ?_
  refine Eq.trans (q_put (ci := 6) (k := 3) (kd := 0) dX6_init_39 (mk0 rfl) rfl rfl (fun h => by cases h)) (bind_cg fun h39 => ?_)
  refine Eq.trans (q_aload_n dX6_init_42 (mk0 rfl) rfl rfl) ?_
  refine Eq.trans (q_bipush (v := 10) dX6_init_43 (mk0 rfl) rfl) ?_
  refine Eq.trans (q_newarray (t := 0) (e := nwAr 0 10) dX6_init_45 (mk0 rfl) (Or.inl ⟨rfl, rfl⟩) ⟨by decide, by decide⟩ rfl) ?_
  refine Eq.trans (q_put (ci := 6) (k := 6) (kd := 2) dX6_init_47 (mk0 rfl) rfl rfl (fun _ => ⟨rfl, rfl⟩)) (bind_cg fun h47 => ?_)
  refine Eq.trans (q_aload_n dX6_init_50 (mk0 rfl) rfl rfl) ?_
  refine Eq.trans (q_bipush (v := 10) dX6_init_51 (mk0 rfl) rfl) ?_
  refine Eq.trans (q_newarray (t := 0) (e := nwAr 0 10) dX6_init_53 (mk0 rfl) (Or.inl ⟨rfl, rfl⟩) ⟨by decide, by decide⟩ rfl) ?_
  refine Eq.trans (q_put (ci := 6) (k := 7) (kd := 2) dX6_init_55 (mk0 rfl) rfl rfl (fun _ => ⟨rfl, rfl⟩)) (bind_cg fun h55 => ?_)
  refine Eq.trans (q_aload_n dX6_init_58 (mk0 rfl) rfl rfl) ?_
  refine Eq.trans (q_bipush (v := 10) dX6_init_59 (mk0 rfl) rfl) ?_
  refine Eq.trans (q_newarray (t := 0) (e := nwAr 0 10) dX6_init_61 (mk0 rfl) (Or.inl ⟨rfl, rfl⟩) ⟨by decide, by decide⟩ rfl) ?_
  refine Eq.trans (q_put (ci := 6) (k := 8) (kd := 2) dX6_init_63 (mk0 rfl) rfl rfl (fun _ => ⟨rfl, rfl⟩)) (bind_cg fun h63 => ?_)
  exact q_return dX6_init_66 (mk0 rfl) rfl
set_option maxRecDepth 20000 in
theorem bX6_move_0 {L : Nat} {xs : Nat → Int32} (d : Nat) (o : Nat) (v1 : Value) (hv1 : isR v1 = true) (ph : PH) : RS (ZZ L xs) (d + 1) mX6_move 0 [some (.ref o), some (v1)] [] ph = (fP ph (.ref o) 6 0 (v1)).bind fun h2 => (fR h2 (.ref o) 6 1).bind fun x6 => (iO h2 x6 7).bind fun b10 => (cV (ZZ L xs) d mX7_begin [.ref b10, v1] h2).bind fun p10 => (fR p10 (.ref o) 6 2).bind fun x14 => (iO p10 x14 3).bind fun b17 => (cV (ZZ L xs) d mX3_clear [.ref b17] p10).bind fun p17 => (fP p17 (.ref o) 6 5 (.int 0)).bind fun h22 => some (h22, none) := by
  refine Eq.trans (q_aload_n dX6_move_0 (mk0 rfl) rfl rfl) ?_
  refine Eq.trans (q_aload_n dX6_move_1 (mk0 rfl) rfl (isA_R hv1)) ?_
  refine Eq.trans (q_put (ci := 6) (k := 0) (kd := 2) dX6_move_2 (mk0 rfl) rfl (kV_2 hv1) (fun h => by cases h)) (bind_cg fun h2 => ?_)
  refine Eq.trans (q_aload_n dX6_move_5 (mk0 rfl) rfl rfl) ?_
  refine Eq.trans (q_getR (ci := 6) (k := 1) dX6_move_6 (mk0 rfl) rfl) (bind_cg2 fun x6 hx6 => ?_)
  have hx6 := fR_isR hx6
  refine Eq.trans (q_aload_n dX6_move_9 (mk0 rfl) rfl (isA_R hv1)) ?_
  refine Eq.trans (q_callV (as := [v1]) dX6_move_10 (mk0 rfl) rfl rfl rfl (Nat.le_of_ble_eq_true rfl) (by simp [eA, ct_i, ct_l, ct_r, ct_n, ct_x, mX7_begin, (cat_R hv1)])) (bind_cg fun b10 => ?_)
  refine Eq.trans (cV_bind rfl) (bind_cg fun p10 => ?_)
  show RS (ZZ L xs) (d + 1) mX6_move 13 [some (.ref o), some (v1)] [] p10 = _
  refine Eq.trans (q_aload_n dX6_move_13 (mk0 rfl) rfl rfl) ?_
  refine Eq.trans (q_getR (ci := 6) (k := 2) dX6_move_14 (mk0 rfl) rfl) (bind_cg2 fun x14 hx14 => ?_)
  have hx14 := fR_isR hx14
  refine Eq.trans (q_callV (as := []) dX6_move_17 (mk0 rfl) rfl rfl rfl (Nat.le_of_ble_eq_true rfl) (Nat.le_of_ble_eq_true rfl)) (bind_cg fun b17 => ?_)
  refine Eq.trans (cV_bind rfl) (bind_cg fun p17 => ?_)
  show RS (ZZ L xs) (d + 1) mX6_move 20 [some (.ref o), some (v1)] [] p17 = _
  refine Eq.trans (q_aload_n dX6_move_20 (mk0 rfl) rfl rfl) ?_
  refine Eq.trans (q_iconst (v := 0) dX6_move_21 (mk0 rfl) rfl) ?_
  refine Eq.trans (q_put (ci := 6) (k := 5) (kd := 0) dX6_move_22 (mk0 rfl) rfl rfl (fun h => by cases h)) (bind_cg fun h22 => ?_)
  exact q_return dX6_move_25 (mk0 rfl) rfl
set_option maxRecDepth 20000 in
theorem bX6_addNote_0 {L : Nat} {xs : Nat → Int32} (d : Nat) (o : Nat) (i1 : Int32) (i2 : Int32) (i3 : Int32) (ph : PH) : RS (ZZ L xs) (d + 1) mX6_addNote 0 [some (.ref o), some (.int i1), some (.int i2), some (.int i3)] [] ph = (fI ph (.ref o) 6 5).bind fun x1 => if (10 : Int32) ≤ x1 then RS (ZZ L xs) (d + 1) mX6_addNote 49 [some (.ref o), some (.int i1), some (.int i2), some (.int i3)] [] ph else (fR ph (.ref o) 6 6).bind fun x10 => (fI ph (.ref o) 6 5).bind fun x14 => (wI ph x10 x14 i1).bind fun h18 => (fR h18 (.ref o) 6 7).bind fun x20 => (fI h18 (.ref o) 6 5).bind fun x24 => (wI h18 x20 x24 i2).bind fun h28 => (fR h28 (.ref o) 6 8).bind fun x30 => (fI h28 (.ref o) 6 5).bind fun x34 => (wI h28 x30 x34 i3).bind fun h38 => (fI h38 (.ref o) 6 5).bind fun x41 => (fP h38 (.ref o) 6 5 (.int (x41 + 1))).bind fun h46 => RS (ZZ L xs) (d + 1) mX6_addNote 49 [some (.ref o), some (.int i1), some (.int i2), some (.int i3)] [] h46 := by
  refine Eq.trans (q_aload_n dX6_addNote_0 (mk0 rfl) rfl rfl) ?_
  refine Eq.trans (q_getI (ci := 6) (k := 5) dX6_addNote_1 (mk0 rfl) rfl) (bind_cg fun x1 => ?_)
  refine Eq.trans (q_bipush (v := 10) dX6_addNote_4 (mk0 rfl) rfl) ?_
  refine Eq.trans (q_icmp_ge (t := 49) dX6_addNote_6 (mk0 rfl) rfl) (ite_cg ?_ ?_)
  · rfl
  · refine Eq.trans (q_aload_n dX6_addNote_9 (mk0 rfl) rfl rfl) ?_
    refine Eq.trans (q_getR (ci := 6) (k := 6) dX6_addNote_10 (mk0 rfl) rfl) (bind_cg2 fun x10 hx10 => ?_)
    have hx10 := fR_isR hx10
    refine Eq.trans (q_aload_n dX6_addNote_13 (mk0 rfl) rfl rfl) ?_
    refine Eq.trans (q_getI (ci := 6) (k := 5) dX6_addNote_14 (mk0 rfl) rfl) (bind_cg fun x14 => ?_)
    refine Eq.trans (q_iload_n dX6_addNote_17 (mk0 rfl) rfl) ?_
    refine Eq.trans (q_iastore dX6_addNote_18 (mk0 rfl)) (bind_cg fun h18 => ?_)
    refine Eq.trans (q_aload_n dX6_addNote_19 (mk0 rfl) rfl rfl) ?_
    refine Eq.trans (q_getR (ci := 6) (k := 7) dX6_addNote_20 (mk0 rfl) rfl) (bind_cg2 fun x20 hx20 => ?_)
    have hx20 := fR_isR hx20
    refine Eq.trans (q_aload_n dX6_addNote_23 (mk0 rfl) rfl rfl) ?_
    refine Eq.trans (q_getI (ci := 6) (k := 5) dX6_addNote_24 (mk0 rfl) rfl) (bind_cg fun x24 => ?_)
    refine Eq.trans (q_iload_n dX6_addNote_27 (mk0 rfl) rfl) ?_
    refine Eq.trans (q_iastore dX6_addNote_28 (mk0 rfl)) (bind_cg fun h28 => ?_)
    refine Eq.trans (q_aload_n dX6_addNote_29 (mk0 rfl) rfl rfl) ?_
    refine Eq.trans (q_getR (ci := 6) (k := 8) dX6_addNote_30 (mk0 rfl) rfl) (bind_cg2 fun x30 hx30 => ?_)
    have hx30 := fR_isR hx30
    refine Eq.trans (q_aload_n dX6_addNote_33 (mk0 rfl) rfl rfl) ?_
    refine Eq.trans (q_getI (ci := 6) (k := 5) dX6_addNote_34 (mk0 rfl) rfl) (bind_cg fun x34 => ?_)
    refine Eq.trans (q_iload_n dX6_addNote_37 (mk0 rfl) rfl) ?_
    refine Eq.trans (q_iastore dX6_addNote_38 (mk0 rfl)) (bind_cg fun h38 => ?_)
    refine Eq.trans (q_aload_n dX6_addNote_39 (mk0 rfl) rfl rfl) ?_
    refine Eq.trans (q_dup dX6_addNote_40 (mk0 rfl) rfl) ?_
    refine Eq.trans (q_getI (ci := 6) (k := 5) dX6_addNote_41 (mk0 rfl) rfl) (bind_cg fun x41 => ?_)
    refine Eq.trans (q_iconst (v := 1) dX6_addNote_44 (mk0 rfl) rfl) ?_
    refine Eq.trans (q_iadd dX6_addNote_45 (mk0 rfl)) ?_
    refine Eq.trans (q_put (ci := 6) (k := 5) (kd := 0) dX6_addNote_46 (mk0 rfl) rfl rfl (fun h => by cases h)) (bind_cg fun h46 => ?_)
    rfl
set_option maxRecDepth 20000 in
theorem bX6_addNote_49 {L : Nat} {xs : Nat → Int32} (d : Nat) (u0 : Option Value) (u1 : Option Value) (u2 : Option Value) (u3 : Option Value) (ph : PH) : RS (ZZ L xs) (d + 1) mX6_addNote 49 [u0, u1, u2, u3] [] ph = some (ph, none) := by
  exact q_return dX6_addNote_49 (show mK mX6_addNote 49 [u0, u1, u2, u3] = [none, none, none, none] from rfl) rfl
set_option maxRecDepth 20000 in
theorem bX6_copyFrom_0 {L : Nat} {xs : Nat → Int32} (d : Nat) (o : Nat) (v1 : Value) (hv1 : isR v1 = true) (ph : PH) : RS (ZZ L xs) (d + 1) mX6_copyFrom 0 [some (.ref o), some (v1)] [] ph = (fR ph v1 6 0).bind fun x2 => (fP ph (.ref o) 6 0 (x2)).bind fun h5 => (fR h5 (.ref o) 6 1).bind fun x9 => (fR h5 v1 6 1).bind fun x13 => (iO h5 x9 7).bind fun b16 => (cV (ZZ L xs) d mX7_copyFrom [.ref b16, x13] h5).bind fun p16 => (fR p16 (.ref o) 6 2).bind fun x20 => (fR p16 v1 6 2).bind fun x24 => (iO p16 x20 3).bind fun b27 => (cV (ZZ L xs) d mX3_copyFrom [.ref b27, x24] p16).bind fun p27 => (fI p27 v1 6 3).bind fun x32 => (fP p27 (.ref o) 6 3 (.int x32)).bind fun h35 => (fI h35 v1 6 4).bind fun x40 => (fP h35 (.ref o) 6 4 (.int x40)).bind fun h43 => (fI h43 v1 6 5).bind fun x48 => (fP h43 (.ref o) 6 5 (.int x48)).bind fun h51 => (fR h51 v1 6 6).bind fun x55 => (fR h51 (.ref o) 6 6).bind fun x60 => (cP h51 x55 0 x60 0 10).bind fun h66 => (fR h66 v1 6 7).bind fun x70 => (fR h66 (.ref o) 6 7).bind fun x75 => (cP h66 x70 0 x75 0 10).bind fun h81 => (fR h81 v1 6 8).bind fun x85 => (fR h81 (.ref o) 6 8).bind fun x90 => (cP h81 x85 0 x90 0 10).bind fun h96 => some (h96, none) := by
  refine Eq.trans (q_aload_n dX6_copyFrom_0 (mk0 rfl) rfl rfl) ?_
  refine Eq.trans (q_aload_n dX6_copyFrom_1 (mk0 rfl) rfl (isA_R hv1)) ?_
  refine Eq.trans (q_getR (ci := 6) (k := 0) dX6_copyFrom_2 (mk0 rfl) rfl) (bind_cg2 fun x2 hx2 => ?_)
  have hx2 := fR_isR hx2
  refine Eq.trans (q_put (ci := 6) (k := 0) (kd := 2) dX6_copyFrom_5 (mk0 rfl) rfl (kV_2 hx2) (fun h => by cases h)) (bind_cg fun h5 => ?_)
  refine Eq.trans (q_aload_n dX6_copyFrom_8 (mk0 rfl) rfl rfl) ?_
  refine Eq.trans (q_getR (ci := 6) (k := 1) dX6_copyFrom_9 (mk0 rfl) rfl) (bind_cg2 fun x9 hx9 => ?_)
  have hx9 := fR_isR hx9
  refine Eq.trans (q_aload_n dX6_copyFrom_12 (mk0 rfl) rfl (isA_R hv1)) ?_
  refine Eq.trans (q_getR (ci := 6) (k := 1) dX6_copyFrom_13 (mk0 rfl) rfl) (bind_cg2 fun x13 hx13 => ?_)
  have hx13 := fR_isR hx13
  refine Eq.trans (q_callV (as := [x13]) dX6_copyFrom_16 (mk0 rfl) rfl rfl rfl (Nat.le_of_ble_eq_true rfl) (by simp [eA, ct_i, ct_l, ct_r, ct_n, ct_x, mX7_copyFrom, (cat_R hx13)])) (bind_cg fun b16 => ?_)
  refine Eq.trans (cV_bind rfl) (bind_cg fun p16 => ?_)
  show RS (ZZ L xs) (d + 1) mX6_copyFrom 19 [some (.ref o), some (v1)] [] p16 = _
  refine Eq.trans (q_aload_n dX6_copyFrom_19 (mk0 rfl) rfl rfl) ?_
  refine Eq.trans (q_getR (ci := 6) (k := 2) dX6_copyFrom_20 (mk0 rfl) rfl) (bind_cg2 fun x20 hx20 => ?_)
  have hx20 := fR_isR hx20
  refine Eq.trans (q_aload_n dX6_copyFrom_23 (mk0 rfl) rfl (isA_R hv1)) ?_
  refine Eq.trans (q_getR (ci := 6) (k := 2) dX6_copyFrom_24 (mk0 rfl) rfl) (bind_cg2 fun x24 hx24 => ?_)
  have hx24 := fR_isR hx24
  refine Eq.trans (q_callV (as := [x24]) dX6_copyFrom_27 (mk0 rfl) rfl rfl rfl (Nat.le_of_ble_eq_true rfl) (by simp [eA, ct_i, ct_l, ct_r, ct_n, ct_x, mX3_copyFrom, (cat_R hx24)])) (bind_cg fun b27 => ?_)
  refine Eq.trans (cV_bind rfl) (bind_cg fun p27 => ?_)
  show RS (ZZ L xs) (d + 1) mX6_copyFrom 30 [some (.ref o), some (v1)] [] p27 = _
  refine Eq.trans (q_aload_n dX6_copyFrom_30 (mk0 rfl) rfl rfl) ?_
  refine Eq.trans (q_aload_n dX6_copyFrom_31 (mk0 rfl) rfl (isA_R hv1)) ?_
  refine Eq.trans (q_getI (ci := 6) (k := 3) dX6_copyFrom_32 (mk0 rfl) rfl) (bind_cg fun x32 => ?_)
  refine Eq.trans (q_put (ci := 6) (k := 3) (kd := 0) dX6_copyFrom_35 (mk0 rfl) rfl rfl (fun h => by cases h)) (bind_cg fun h35 => ?_)
  refine Eq.trans (q_aload_n dX6_copyFrom_38 (mk0 rfl) rfl rfl) ?_
  refine Eq.trans (q_aload_n dX6_copyFrom_39 (mk0 rfl) rfl (isA_R hv1)) ?_
  refine Eq.trans (q_getI (ci := 6) (k := 4) dX6_copyFrom_40 (mk0 rfl) rfl) (bind_cg fun x40 => ?_)
  refine Eq.trans (q_put (ci := 6) (k := 4) (kd := 0) dX6_copyFrom_43 (mk0 rfl) rfl rfl (fun h => by cases h)) (bind_cg fun h43 => ?_)
  refine Eq.trans (q_aload_n dX6_copyFrom_46 (mk0 rfl) rfl rfl) ?_
  refine Eq.trans (q_aload_n dX6_copyFrom_47 (mk0 rfl) rfl (isA_R hv1)) ?_
  refine Eq.trans (q_getI (ci := 6) (k := 5) dX6_copyFrom_48 (mk0 rfl) rfl) (bind_cg fun x48 => ?_)
  refine Eq.trans (q_put (ci := 6) (k := 5) (kd := 0) dX6_copyFrom_51 (mk0 rfl) rfl rfl (fun h => by cases h)) (bind_cg fun h51 => ?_)
  refine Eq.trans (q_aload_n dX6_copyFrom_54 (mk0 rfl) rfl (isA_R hv1)) ?_
  refine Eq.trans (q_getR (ci := 6) (k := 6) dX6_copyFrom_55 (mk0 rfl) rfl) (bind_cg2 fun x55 hx55 => ?_)
  have hx55 := fR_isR hx55
  refine Eq.trans (q_iconst (v := 0) dX6_copyFrom_58 (mk0 rfl) rfl) ?_
  refine Eq.trans (q_aload_n dX6_copyFrom_59 (mk0 rfl) rfl rfl) ?_
  refine Eq.trans (q_getR (ci := 6) (k := 6) dX6_copyFrom_60 (mk0 rfl) rfl) (bind_cg2 fun x60 hx60 => ?_)
  have hx60 := fR_isR hx60
  refine Eq.trans (q_iconst (v := 0) dX6_copyFrom_63 (mk0 rfl) rfl) ?_
  refine Eq.trans (q_bipush (v := 10) dX6_copyFrom_64 (mk0 rfl) rfl) ?_
  refine Eq.trans (q_copy dX6_copyFrom_66 (mk0 rfl) rfl (Nat.le_of_ble_eq_true rfl)) (bind_cg fun h66 => ?_)
  refine Eq.trans (q_aload_n dX6_copyFrom_69 (mk0 rfl) rfl (isA_R hv1)) ?_
  refine Eq.trans (q_getR (ci := 6) (k := 7) dX6_copyFrom_70 (mk0 rfl) rfl) (bind_cg2 fun x70 hx70 => ?_)
  have hx70 := fR_isR hx70
  refine Eq.trans (q_iconst (v := 0) dX6_copyFrom_73 (mk0 rfl) rfl) ?_
  refine Eq.trans (q_aload_n dX6_copyFrom_74 (mk0 rfl) rfl rfl) ?_
  refine Eq.trans (q_getR (ci := 6) (k := 7) dX6_copyFrom_75 (mk0 rfl) rfl) (bind_cg2 fun x75 hx75 => ?_)
  have hx75 := fR_isR hx75
  refine Eq.trans (q_iconst (v := 0) dX6_copyFrom_78 (mk0 rfl) rfl) ?_
  refine Eq.trans (q_bipush (v := 10) dX6_copyFrom_79 (mk0 rfl) rfl) ?_
  refine Eq.trans (q_copy dX6_copyFrom_81 (mk0 rfl) rfl (Nat.le_of_ble_eq_true rfl)) (bind_cg fun h81 => ?_)
  refine Eq.trans (q_aload_n dX6_copyFrom_84 (mk0 rfl) rfl (isA_R hv1)) ?_
  refine Eq.trans (q_getR (ci := 6) (k := 8) dX6_copyFrom_85 (mk0 rfl) rfl) (bind_cg2 fun x85 hx85 => ?_)
  have hx85 := fR_isR hx85
  refine Eq.trans (q_iconst (v := 0) dX6_copyFrom_88 (mk0 rfl) rfl) ?_
  refine Eq.trans (q_aload_n dX6_copyFrom_89 (mk0 rfl) rfl rfl) ?_
  refine Eq.trans (q_getR (ci := 6) (k := 8) dX6_copyFrom_90 (mk0 rfl) rfl) (bind_cg2 fun x90 hx90 => ?_)
  have hx90 := fR_isR hx90
  refine Eq.trans (q_iconst (v := 0) dX6_copyFrom_93 (mk0 rfl) rfl) ?_
  refine Eq.trans (q_bipush (v := 10) dX6_copyFrom_94 (mk0 rfl) rfl) ?_
  refine Eq.trans (q_copy dX6_copyFrom_96 (mk0 rfl) rfl (Nat.le_of_ble_eq_true rfl)) (bind_cg fun h96 => ?_)
  exact q_return dX6_copyFrom_99 (mk0 rfl) rfl
set_option maxRecDepth 20000 in
theorem bX6_share_0 {L : Nat} {xs : Nat → Int32} (d : Nat) (o : Nat) (i1 : Int32) (i2 : Int32) (ph : PH) : RS (ZZ L xs) (d + 1) mX6_share 0 [some (.ref o), some (.int i1), some (.int i2), none, none, none, none, none, none] [] ph = (fR ph (.ref o) 6 1).bind fun x1 => (iO ph x1 7).bind fun b4 => (cI (ZZ L xs) d mX7_askedInAll [.ref b4] ph).bind fun p4 => if ¬ (p4.2 : Int32) = 0 then (fR p4.1 (.ref o) 6 1).bind fun x22 => (fR p4.1 x22 7 7).bind fun x25 => (eI p4.1 x25 i2).bind fun x29 => if (p4.2 : Int32) = 0 then none else RS (ZZ L xs) (d + 1) mX6_share 38 [some (.ref o), some (.int i1), some (.int i2), some (.int p4.2), some (.int i1), some (.int 0), some (.int (iRem (i1 * x29) p4.2)), some (.int 0), none] [] p4.1 else some (p4.1, some (.int 0)) := by
  refine Eq.trans (q_aload_n dX6_share_0 (mk0 rfl) rfl rfl) ?_
  refine Eq.trans (q_getR (ci := 6) (k := 1) dX6_share_1 (mk0 rfl) rfl) (bind_cg2 fun x1 hx1 => ?_)
  have hx1 := fR_isR hx1
  refine Eq.trans (q_callV (as := []) dX6_share_4 (mk0 rfl) rfl rfl rfl (Nat.le_of_ble_eq_true rfl) (Nat.le_of_ble_eq_true rfl)) (bind_cg fun b4 => ?_)
  refine Eq.trans (cI_bind (Or.inl rfl)) (bind_cg fun p4 => ?_)
  show RS (ZZ L xs) (d + 1) mX6_share 7 [some (.ref o), some (.int i1), some (.int i2), none, none, none, none, none, none] [.int p4.2] p4.1 = _
  refine Eq.trans (q_istore_n (lv2 := [some (.ref o), some (.int i1), some (.int i2), some (.int p4.2), none, none, none, none, none]) dX6_share_7 (mk0 rfl) (Nat.le_of_ble_eq_true rfl) rfl) ?_
  refine Eq.trans (q_iload_n dX6_share_8 (mk0 rfl) rfl) ?_
  refine Eq.trans (q_if_ne (t := 14) dX6_share_9 (mk0 rfl) rfl) (ite_cg ?_ ?_)
  · refine Eq.trans (q_iload_n dX6_share_14 (mk0 rfl) rfl) ?_
    refine Eq.trans (q_istore (lv2 := [some (.ref o), some (.int i1), some (.int i2), some (.int p4.2), some (.int i1), none, none, none, none]) dX6_share_15 (mk0 rfl) (Nat.le_of_ble_eq_true rfl) rfl) ?_
    refine Eq.trans (q_iconst (v := 0) dX6_share_17 (mk0 rfl) rfl) ?_
    refine Eq.trans (q_istore (lv2 := [some (.ref o), some (.int i1), some (.int i2), some (.int p4.2), some (.int i1), some (.int 0), none, none, none]) dX6_share_18 (mk0 rfl) (Nat.le_of_ble_eq_true rfl) rfl) ?_
    refine Eq.trans (q_iload_n dX6_share_20 (mk0 rfl) rfl) ?_
    refine Eq.trans (q_aload_n dX6_share_21 (mk0 rfl) rfl rfl) ?_
    refine Eq.trans (q_getR (ci := 6) (k := 1) dX6_share_22 (mk0 rfl) rfl) (bind_cg2 fun x22 hx22 => ?_)
    have hx22 := fR_isR hx22
    refine Eq.trans (q_getR (ci := 7) (k := 7) dX6_share_25 (mk0 rfl) rfl) (bind_cg2 fun x25 hx25 => ?_)
    have hx25 := fR_isR hx25
    refine Eq.trans (q_iload_n dX6_share_28 (mk0 rfl) rfl) ?_
    refine Eq.trans (q_iaload dX6_share_29 (mk0 rfl) (no_ext hx25)) (bind_cg fun x29 => ?_)
    refine Eq.trans (q_imul dX6_share_30 (mk0 rfl)) ?_
    refine Eq.trans (q_iload_n dX6_share_31 (mk0 rfl) rfl) ?_
    refine Eq.trans (q_irem dX6_share_32 (mk0 rfl)) (ite_cg rfl ?_)
    refine Eq.trans (q_istore (lv2 := [some (.ref o), some (.int i1), some (.int i2), some (.int p4.2), some (.int i1), some (.int 0), some (.int (iRem (i1 * x29) p4.2)), none, none]) dX6_share_33 (mk0 rfl) (Nat.le_of_ble_eq_true rfl) rfl) ?_
    refine Eq.trans (q_iconst (v := 0) dX6_share_35 (mk0 rfl) rfl) ?_
    refine Eq.trans (q_istore (lv2 := [some (.ref o), some (.int i1), some (.int i2), some (.int p4.2), some (.int i1), some (.int 0), some (.int (iRem (i1 * x29) p4.2)), some (.int 0), none]) dX6_share_36 (mk0 rfl) (Nat.le_of_ble_eq_true rfl) rfl) ?_
    rfl
  · refine Eq.trans (q_iconst (v := 0) dX6_share_12 (mk0 rfl) rfl) ?_
    exact q_ireturn dX6_share_13 (mk0 rfl) rfl
set_option maxRecDepth 20000 in
theorem bX6_share_38 {L : Nat} {xs : Nat → Int32} (d : Nat) (o : Nat) (i1 : Int32) (i2 : Int32) (i3 : Int32) (i4 : Int32) (i5 : Int32) (i6 : Int32) (i7 : Int32) (u8 : Option Value) (ph : PH) : RS (ZZ L xs) (d + 1) mX6_share 38 [some (.ref o), some (.int i1), some (.int i2), some (.int i3), some (.int i4), some (.int i5), some (.int i6), some (.int i7), u8] [] ph = (fR ph (.ref o) 6 0).bind fun x41 => (fI ph x41 9 2).bind fun x44 => if (x44 : Int32) ≤ i7 then (fR ph (.ref o) 6 1).bind fun x116 => (fR ph x116 7 7).bind fun x119 => (eI ph x119 i2).bind fun x123 => if (i3 : Int32) = 0 then none else if (i4 : Int32) ≤ i5 then RS (ZZ L xs) (d + 1) mX6_share 139 [some (.ref o), some (.int i1), some (.int i2), some (.int i3), some (.int i4), some (.int i5), some (.int i6), some (.int i7), none] [.int 0, .int ((i1 * x123) / i3)] ph else RS (ZZ L xs) (d + 1) mX6_share 139 [some (.ref o), some (.int i1), some (.int i2), some (.int i3), some (.int i4), some (.int i5), some (.int i6), some (.int i7), none] [.int 1, .int ((i1 * x123) / i3)] ph else (fR ph (.ref o) 6 1).bind fun x54 => (fR ph x54 7 7).bind fun x57 => (eI ph x57 i7).bind fun x62 => if (i3 : Int32) = 0 then none else (fR ph (.ref o) 6 1).bind fun x71 => (fR ph x71 7 7).bind fun x74 => (eI ph x74 i7).bind fun x79 => if (i3 : Int32) = 0 then none else if (i6 : Int32) < iRem (i1 * x79) i3 then RS (ZZ L xs) (d + 1) mX6_share 105 [some (.ref o), some (.int i1), some (.int i2), some (.int i3), some (.int (i4 - ((i1 * x62) / i3))), some (.int i5), some (.int i6), some (.int i7), some (.int (iRem (i1 * x79) i3))] [] ph else if ¬ (iRem (i1 * x79) i3 : Int32) = i6 then RS (ZZ L xs) (d + 1) mX6_share 108 [some (.ref o), some (.int i1), some (.int i2), some (.int i3), some (.int (i4 - ((i1 * x62) / i3))), some (.int i5), some (.int i6), some (.int i7), some (.int (iRem (i1 * x79) i3))] [] ph else if (i2 : Int32) ≤ i7 then RS (ZZ L xs) (d + 1) mX6_share 108 [some (.ref o), some (.int i1), some (.int i2), some (.int i3), some (.int (i4 - ((i1 * x62) / i3))), some (.int i5), some (.int i6), some (.int i7), some (.int (iRem (i1 * x79) i3))] [] ph else RS (ZZ L xs) (d + 1) mX6_share 105 [some (.ref o), some (.int i1), some (.int i2), some (.int i3), some (.int (i4 - ((i1 * x62) / i3))), some (.int i5), some (.int i6), some (.int i7), some (.int (iRem (i1 * x79) i3))] [] ph := by
  refine Eq.trans (q_iload dX6_share_38 (show mK mX6_share 38 [some (.ref o), some (.int i1), some (.int i2), some (.int i3), some (.int i4), some (.int i5), some (.int i6), some (.int i7), u8] = [some (.ref o), some (.int i1), some (.int i2), some (.int i3), some (.int i4), some (.int i5), some (.int i6), some (.int i7), none] from rfl) rfl) ?_
  refine Eq.trans (q_aload_n dX6_share_40 (mk0 rfl) rfl rfl) ?_
  refine Eq.trans (q_getR (ci := 6) (k := 0) dX6_share_41 (mk0 rfl) rfl) (bind_cg2 fun x41 hx41 => ?_)
  have hx41 := fR_isR hx41
  refine Eq.trans (q_getI (ci := 9) (k := 2) dX6_share_44 (mk0 rfl) rfl) (bind_cg fun x44 => ?_)
  refine Eq.trans (q_icmp_ge (t := 114) dX6_share_47 (mk0 rfl) rfl) (ite_cg ?_ ?_)
  · refine Eq.trans (q_iload_n dX6_share_114 (mk0 rfl) rfl) ?_
    refine Eq.trans (q_aload_n dX6_share_115 (mk0 rfl) rfl rfl) ?_
    refine Eq.trans (q_getR (ci := 6) (k := 1) dX6_share_116 (mk0 rfl) rfl) (bind_cg2 fun x116 hx116 => ?_)
    have hx116 := fR_isR hx116
    refine Eq.trans (q_getR (ci := 7) (k := 7) dX6_share_119 (mk0 rfl) rfl) (bind_cg2 fun x119 hx119 => ?_)
    have hx119 := fR_isR hx119
    refine Eq.trans (q_iload_n dX6_share_122 (mk0 rfl) rfl) ?_
    refine Eq.trans (q_iaload dX6_share_123 (mk0 rfl) (no_ext hx119)) (bind_cg fun x123 => ?_)
    refine Eq.trans (q_imul dX6_share_124 (mk0 rfl)) ?_
    refine Eq.trans (q_iload_n dX6_share_125 (mk0 rfl) rfl) ?_
    refine Eq.trans (q_idiv dX6_share_126 (mk0 rfl)) (ite_cg rfl ?_)
    refine Eq.trans (q_iload dX6_share_127 (mk0 rfl) rfl) ?_
    refine Eq.trans (q_iload dX6_share_129 (mk0 rfl) rfl) ?_
    refine Eq.trans (q_icmp_ge (t := 138) dX6_share_131 (mk0 rfl) rfl) (ite_cg ?_ ?_)
    · refine Eq.trans (q_iconst (v := 0) dX6_share_138 (mk0 rfl) rfl) ?_
      rfl
    · refine Eq.trans (q_iconst (v := 1) dX6_share_134 (mk0 rfl) rfl) ?_
      refine Eq.trans (q_goto (t := 139) dX6_share_135 (mk0 rfl) rfl) ?_
      rfl
  · refine Eq.trans (q_iload dX6_share_50 (mk0 rfl) rfl) ?_
    refine Eq.trans (q_iload_n dX6_share_52 (mk0 rfl) rfl) ?_
    refine Eq.trans (q_aload_n dX6_share_53 (mk0 rfl) rfl rfl) ?_
    refine Eq.trans (q_getR (ci := 6) (k := 1) dX6_share_54 (mk0 rfl) rfl) (bind_cg2 fun x54 hx54 => ?_)
    have hx54 := fR_isR hx54
    refine Eq.trans (q_getR (ci := 7) (k := 7) dX6_share_57 (mk0 rfl) rfl) (bind_cg2 fun x57 hx57 => ?_)
    have hx57 := fR_isR hx57
    refine Eq.trans (q_iload dX6_share_60 (mk0 rfl) rfl) ?_
    refine Eq.trans (q_iaload dX6_share_62 (mk0 rfl) (no_ext hx57)) (bind_cg fun x62 => ?_)
    refine Eq.trans (q_imul dX6_share_63 (mk0 rfl)) ?_
    refine Eq.trans (q_iload_n dX6_share_64 (mk0 rfl) rfl) ?_
    refine Eq.trans (q_idiv dX6_share_65 (mk0 rfl)) (ite_cg rfl ?_)
    refine Eq.trans (q_isub dX6_share_66 (mk0 rfl)) ?_
    refine Eq.trans (q_istore (lv2 := [some (.ref o), some (.int i1), some (.int i2), some (.int i3), some (.int (i4 - ((i1 * x62) / i3))), some (.int i5), some (.int i6), some (.int i7), none]) dX6_share_67 (mk0 rfl) (Nat.le_of_ble_eq_true rfl) rfl) ?_
    refine Eq.trans (q_iload_n dX6_share_69 (mk0 rfl) rfl) ?_
    refine Eq.trans (q_aload_n dX6_share_70 (mk0 rfl) rfl rfl) ?_
    refine Eq.trans (q_getR (ci := 6) (k := 1) dX6_share_71 (mk0 rfl) rfl) (bind_cg2 fun x71 hx71 => ?_)
    have hx71 := fR_isR hx71
    refine Eq.trans (q_getR (ci := 7) (k := 7) dX6_share_74 (mk0 rfl) rfl) (bind_cg2 fun x74 hx74 => ?_)
    have hx74 := fR_isR hx74
    refine Eq.trans (q_iload dX6_share_77 (mk0 rfl) rfl) ?_
    refine Eq.trans (q_iaload dX6_share_79 (mk0 rfl) (no_ext hx74)) (bind_cg fun x79 => ?_)
    refine Eq.trans (q_imul dX6_share_80 (mk0 rfl)) ?_
    refine Eq.trans (q_iload_n dX6_share_81 (mk0 rfl) rfl) ?_
    refine Eq.trans (q_irem dX6_share_82 (mk0 rfl)) (ite_cg rfl ?_)
    refine Eq.trans (q_istore (lv2 := [some (.ref o), some (.int i1), some (.int i2), some (.int i3), some (.int (i4 - ((i1 * x62) / i3))), some (.int i5), some (.int i6), some (.int i7), some (.int (iRem (i1 * x79) i3))]) dX6_share_83 (mk0 rfl) (Nat.le_of_ble_eq_true rfl) rfl) ?_
    refine Eq.trans (q_iload dX6_share_85 (mk0 rfl) rfl) ?_
    refine Eq.trans (q_iload dX6_share_87 (mk0 rfl) rfl) ?_
    refine Eq.trans (q_icmp_gt (t := 105) dX6_share_89 (mk0 rfl) rfl) (ite_cg ?_ ?_)
    · rfl
    · refine Eq.trans (q_iload dX6_share_92 (mk0 rfl) rfl) ?_
      refine Eq.trans (q_iload dX6_share_94 (mk0 rfl) rfl) ?_
      refine Eq.trans (q_icmp_ne (t := 108) dX6_share_96 (mk0 rfl) rfl) (ite_cg ?_ ?_)
      · rfl
      · refine Eq.trans (q_iload dX6_share_99 (mk0 rfl) rfl) ?_
        refine Eq.trans (q_iload_n dX6_share_101 (mk0 rfl) rfl) ?_
        refine Eq.trans (q_icmp_ge (t := 108) dX6_share_102 (mk0 rfl) rfl) (ite_cg ?_ ?_)
        · rfl
        · rfl
set_option maxRecDepth 20000 in
theorem bX6_share_105 {L : Nat} {xs : Nat → Int32} (d : Nat) (o : Nat) (i1 : Int32) (i2 : Int32) (i3 : Int32) (i4 : Int32) (i5 : Int32) (i6 : Int32) (i7 : Int32) (u8 : Option Value) (ph : PH) : RS (ZZ L xs) (d + 1) mX6_share 105 [some (.ref o), some (.int i1), some (.int i2), some (.int i3), some (.int i4), some (.int i5), some (.int i6), some (.int i7), u8] [] ph = RS (ZZ L xs) (d + 1) mX6_share 108 [some (.ref o), some (.int i1), some (.int i2), some (.int i3), some (.int i4), some (.int (i5 + 1)), some (.int i6), some (.int i7), none] [] ph := by
  refine Eq.trans (q_iinc (v := 1) (lv2 := [some (.ref o), some (.int i1), some (.int i2), some (.int i3), some (.int i4), some (.int (i5 + 1)), some (.int i6), some (.int i7), none]) dX6_share_105 (show mK mX6_share 105 [some (.ref o), some (.int i1), some (.int i2), some (.int i3), some (.int i4), some (.int i5), some (.int i6), some (.int i7), u8] = [some (.ref o), some (.int i1), some (.int i2), some (.int i3), some (.int i4), some (.int i5), some (.int i6), some (.int i7), none] from rfl) rfl rfl rfl) ?_
  rfl
set_option maxRecDepth 20000 in
theorem bX6_share_108 {L : Nat} {xs : Nat → Int32} (d : Nat) (o : Nat) (i1 : Int32) (i2 : Int32) (i3 : Int32) (i4 : Int32) (i5 : Int32) (i6 : Int32) (i7 : Int32) (u8 : Option Value) (ph : PH) : RS (ZZ L xs) (d + 1) mX6_share 108 [some (.ref o), some (.int i1), some (.int i2), some (.int i3), some (.int i4), some (.int i5), some (.int i6), some (.int i7), u8] [] ph = RS (ZZ L xs) (d + 1) mX6_share 38 [some (.ref o), some (.int i1), some (.int i2), some (.int i3), some (.int i4), some (.int i5), some (.int i6), some (.int (i7 + 1)), none] [] ph := by
  refine Eq.trans (q_iinc (v := 1) (lv2 := [some (.ref o), some (.int i1), some (.int i2), some (.int i3), some (.int i4), some (.int i5), some (.int i6), some (.int (i7 + 1)), none]) dX6_share_108 (show mK mX6_share 108 [some (.ref o), some (.int i1), some (.int i2), some (.int i3), some (.int i4), some (.int i5), some (.int i6), some (.int i7), u8] = [some (.ref o), some (.int i1), some (.int i2), some (.int i3), some (.int i4), some (.int i5), some (.int i6), some (.int i7), none] from rfl) rfl rfl rfl) ?_
  refine Eq.trans (q_goto (t := 38) dX6_share_111 (mk0 rfl) rfl) ?_
  rfl
set_option maxRecDepth 20000 in
theorem bX6_share_139 {L : Nat} {xs : Nat → Int32} (d : Nat) (u0 : Option Value) (u1 : Option Value) (u2 : Option Value) (u3 : Option Value) (u4 : Option Value) (u5 : Option Value) (u6 : Option Value) (u7 : Option Value) (u8 : Option Value) (t0 : Int32) (t1 : Int32) (ph : PH) : RS (ZZ L xs) (d + 1) mX6_share 139 [u0, u1, u2, u3, u4, u5, u6, u7, u8] [.int t0, .int t1] ph = some (ph, some (.int (t1 + t0))) := by
  refine Eq.trans (q_iadd dX6_share_139 (show mK mX6_share 139 [u0, u1, u2, u3, u4, u5, u6, u7, u8] = [none, none, none, none, none, none, none, none, none] from rfl)) ?_
  exact q_ireturn dX6_share_140 (mk0 rfl) rfl
