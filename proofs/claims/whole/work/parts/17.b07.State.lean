set_option maxRecDepth 20000 in
theorem bX7_init_0 {L : Nat} {xs : Nat → Int32} (d : Nat) (o : Nat) (ph : PH) : RS (ZZ L xs) (d + 1) mX7_init 0 [some (.ref o)] [] ph = (fP ph (.ref o) 7 1 (.int ((-1)))).bind fun h6 => (fP (h6 ++ [nwAr 0 6]) (.ref o) 7 4 (.ref h6.length)).bind fun h14 => (fP (h14 ++ [nwAr 0 6]) (.ref o) 7 5 (.ref h14.length)).bind fun h22 => (fP (h22 ++ [nwAr 0 6]) (.ref o) 7 6 (.ref h22.length)).bind fun h30 => (fP (h30 ++ [nwAr 0 6]) (.ref o) 7 7 (.ref h30.length)).bind fun h38 => (fP (h38 ++ [nwAr 0 6]) (.ref o) 7 8 (.ref h38.length)).bind fun h46 => (fP (h46 ++ [nwAr 0 5]) (.ref o) 7 9 (.ref h46.length)).bind fun h53 => (fP (h53 ++ [nwAr 0 30]) (.ref o) 7 10 (.ref h53.length)).bind fun h61 => some (h61, none) := by
  refine Eq.trans (q_aload_n dX7_init_0 (mk0 rfl) rfl rfl) ?_
  refine Eq.trans (q_obj dX7_init_1 (mk0 rfl) rfl (Nat.le_of_ble_eq_true rfl)) ?_
  refine Eq.trans (q_aload_n dX7_init_4 (mk0 rfl) rfl rfl) ?_
  refine Eq.trans (q_iconst (v := (-1)) dX7_init_5 (mk0 rfl) rfl) ?_
  refine Eq.trans (q_put (ci := 7) (k := 1) (kd := 0) dX7_init_6 (mk0 rfl) rfl rfl (fun h => by cases h)) (bind_cg fun h6 => ?_)
  refine Eq.trans (q_aload_n dX7_init_9 (mk0 rfl) rfl rfl) ?_
  refine Eq.trans (q_bipush (v := 6) dX7_init_10 (mk0 rfl) rfl) ?_
  refine Eq.trans (q_newarray (t := 0) (e := nwAr 0 6) dX7_init_12 (mk0 rfl) (Or.inl ⟨rfl, rfl⟩) ⟨by decide, by decide⟩ rfl) ?_
  refine Eq.trans (q_put (ci := 7) (k := 4) (kd := 2) dX7_init_14 (mk0 rfl) rfl rfl (fun _ => ⟨rfl, rfl⟩)) (bind_cg fun h14 => ?_)
  refine Eq.trans (q_aload_n dX7_init_17 (mk0 rfl) rfl rfl) ?_
  refine Eq.trans (q_bipush (v := 6) dX7_init_18 (mk0 rfl) rfl) ?_
  refine Eq.trans (q_newarray (t := 0) (e := nwAr 0 6) dX7_init_20 (mk0 rfl) (Or.inl ⟨rfl, rfl⟩) ⟨by decide, by decide⟩ rfl) ?_
  refine Eq.trans (q_put (ci := 7) (k := 5) (kd := 2) dX7_init_22 (mk0 rfl) rfl rfl (fun _ => ⟨rfl, rfl⟩)) (bind_cg fun h22 => ?_)
  refine Eq.trans (q_aload_n dX7_init_25 (mk0 rfl) rfl rfl) ?_
  refine Eq.trans (q_bipush (v := 6) dX7_init_26 (mk0 rfl) rfl) ?_
  refine Eq.trans (q_newarray (t := 0) (e := nwAr 0 6) dX7_init_28 (mk0 rfl) (Or.inl ⟨rfl, rfl⟩) ⟨by decide, by decide⟩ rfl) ?_
  refine Eq.trans (q_put (ci := 7) (k := 6) (kd := 2) dX7_init_30 (mk0 rfl) rfl rfl (fun _ => ⟨rfl, rfl⟩)) (bind_cg fun h30 => ?_)
  refine Eq.trans (q_aload_n dX7_init_33 (mk0 rfl) rfl rfl) ?_
  refine Eq.trans (q_bipush (v := 6) dX7_init_34 (mk0 rfl) rfl) ?_
  refine Eq.trans (q_newarray (t := 0) (e := nwAr 0 6) dX7_init_36 (mk0 rfl) (Or.inl ⟨rfl, rfl⟩) ⟨by decide, by decide⟩ rfl) ?_
  refine Eq.trans (q_put (ci := 7) (k := 7) (kd := 2) dX7_init_38 (mk0 rfl) rfl rfl (fun _ => ⟨rfl, rfl⟩)) (bind_cg fun h38 => ?_)
  refine Eq.trans (q_aload_n dX7_init_41 (mk0 rfl) rfl rfl) ?_
  refine Eq.trans (q_bipush (v := 6) dX7_init_42 (mk0 rfl) rfl) ?_
  refine Eq.trans (q_newarray (t := 0) (e := nwAr 0 6) dX7_init_44 (mk0 rfl) (Or.inl ⟨rfl, rfl⟩) ⟨by decide, by decide⟩ rfl) ?_
  refine Eq.trans (q_put (ci := 7) (k := 8) (kd := 2) dX7_init_46 (mk0 rfl) rfl rfl (fun _ => ⟨rfl, rfl⟩)) (bind_cg fun h46 => ?_)
  refine Eq.trans (q_aload_n dX7_init_49 (mk0 rfl) rfl rfl) ?_
  refine Eq.trans (q_iconst (v := 5) dX7_init_50 (mk0 rfl) rfl) ?_
  refine Eq.trans (q_newarray (t := 0) (e := nwAr 0 5) dX7_init_51 (mk0 rfl) (Or.inl ⟨rfl, rfl⟩) ⟨by decide, by decide⟩ rfl) ?_
  refine Eq.trans (q_put (ci := 7) (k := 9) (kd := 2) dX7_init_53 (mk0 rfl) rfl rfl (fun _ => ⟨rfl, rfl⟩)) (bind_cg fun h53 => ?_)
  refine Eq.trans (q_aload_n dX7_init_56 (mk0 rfl) rfl rfl) ?_
  refine Eq.trans (q_bipush (v := 30) dX7_init_57 (mk0 rfl) rfl) ?_
  refine Eq.trans (q_newarray (t := 0) (e := nwAr 0 30) dX7_init_59 (mk0 rfl) (Or.inl ⟨rfl, rfl⟩) ⟨by decide, by decide⟩ rfl) ?_
  refine Eq.trans (q_put (ci := 7) (k := 10) (kd := 2) dX7_init_61 (mk0 rfl) rfl rfl (fun _ => ⟨rfl, rfl⟩)) (bind_cg fun h61 => ?_)
  exact q_return dX7_init_64 (mk0 rfl) rfl
set_option maxRecDepth 20000 in
theorem bX7_begin_0 {L : Nat} {xs : Nat → Int32} (d : Nat) (o : Nat) (v1 : Value) (hv1 : isR v1 = true) (ph : PH) : RS (ZZ L xs) (d + 1) mX7_begin 0 [some (.ref o), some (v1)] [] ph = (fP ph (.ref o) 7 0 (.int 0)).bind fun h2 => (fP h2 (.ref o) 7 1 (.int ((-1)))).bind fun h7 => (fP h7 (.ref o) 7 2 (.int 0)).bind fun h12 => (fL h12 v1 9 4).bind fun x17 => (fP h12 (.ref o) 7 3 (.long x17)).bind fun h20 => (fR h20 v1 9 6).bind fun x24 => (fR h20 (.ref o) 7 4).bind fun x29 => (cP h20 x24 0 x29 0 6).bind fun h35 => (fR h35 v1 9 7).bind fun x39 => (fR h35 (.ref o) 7 5).bind fun x44 => (cP h35 x39 0 x44 0 6).bind fun h50 => (fR h50 (.ref o) 7 6).bind fun x54 => (cV (ZZ L xs) d mJ7_fill_53178 [x54, .int 0] h50).bind fun p58 => (fR p58 (.ref o) 7 7).bind fun x62 => (cV (ZZ L xs) d mJ7_fill_53178 [x62, .int 0] p58).bind fun p66 => (fR p66 (.ref o) 7 8).bind fun x70 => (cV (ZZ L xs) d mJ7_fill_53178 [x70, .int 0] p66).bind fun p74 => (fR p74 (.ref o) 7 9).bind fun x78 => (cV (ZZ L xs) d mJ7_fill_53178 [x78, .int ((-1))] p74).bind fun p82 => (fR p82 (.ref o) 7 10).bind fun x86 => (cV (ZZ L xs) d mJ7_fill_53178 [x86, .int 0] p82).bind fun p90 => some (p90, none) := by
  refine Eq.trans (q_aload_n dX7_begin_0 (mk0 rfl) rfl rfl) ?_
  refine Eq.trans (q_iconst (v := 0) dX7_begin_1 (mk0 rfl) rfl) ?_
  refine Eq.trans (q_put (ci := 7) (k := 0) (kd := 0) dX7_begin_2 (mk0 rfl) rfl rfl (fun h => by cases h)) (bind_cg fun h2 => ?_)
  refine Eq.trans (q_aload_n dX7_begin_5 (mk0 rfl) rfl rfl) ?_
  refine Eq.trans (q_iconst (v := (-1)) dX7_begin_6 (mk0 rfl) rfl) ?_
  refine Eq.trans (q_put (ci := 7) (k := 1) (kd := 0) dX7_begin_7 (mk0 rfl) rfl rfl (fun h => by cases h)) (bind_cg fun h7 => ?_)
  refine Eq.trans (q_aload_n dX7_begin_10 (mk0 rfl) rfl rfl) ?_
  refine Eq.trans (q_iconst (v := 0) dX7_begin_11 (mk0 rfl) rfl) ?_
  refine Eq.trans (q_put (ci := 7) (k := 2) (kd := 0) dX7_begin_12 (mk0 rfl) rfl rfl (fun h => by cases h)) (bind_cg fun h12 => ?_)
  refine Eq.trans (q_aload_n dX7_begin_15 (mk0 rfl) rfl rfl) ?_
  refine Eq.trans (q_aload_n dX7_begin_16 (mk0 rfl) rfl (isA_R hv1)) ?_
  refine Eq.trans (q_getL (ci := 9) (k := 4) dX7_begin_17 (mk0 rfl) rfl) (bind_cg fun x17 => ?_)
  refine Eq.trans (q_put (ci := 7) (k := 3) (kd := 1) dX7_begin_20 (mk0 rfl) rfl rfl (fun h => by cases h)) (bind_cg fun h20 => ?_)
  refine Eq.trans (q_aload_n dX7_begin_23 (mk0 rfl) rfl (isA_R hv1)) ?_
  refine Eq.trans (q_getR (ci := 9) (k := 6) dX7_begin_24 (mk0 rfl) rfl) (bind_cg2 fun x24 hx24 => ?_)
  have hx24 := fR_isR hx24
  refine Eq.trans (q_iconst (v := 0) dX7_begin_27 (mk0 rfl) rfl) ?_
  refine Eq.trans (q_aload_n dX7_begin_28 (mk0 rfl) rfl rfl) ?_
  refine Eq.trans (q_getR (ci := 7) (k := 4) dX7_begin_29 (mk0 rfl) rfl) (bind_cg2 fun x29 hx29 => ?_)
  have hx29 := fR_isR hx29
  refine Eq.trans (q_iconst (v := 0) dX7_begin_32 (mk0 rfl) rfl) ?_
  refine Eq.trans (q_bipush (v := 6) dX7_begin_33 (mk0 rfl) rfl) ?_
  refine Eq.trans (q_copy dX7_begin_35 (mk0 rfl) rfl (Nat.le_of_ble_eq_true rfl)) (bind_cg fun h35 => ?_)
  refine Eq.trans (q_aload_n dX7_begin_38 (mk0 rfl) rfl (isA_R hv1)) ?_
  refine Eq.trans (q_getR (ci := 9) (k := 7) dX7_begin_39 (mk0 rfl) rfl) (bind_cg2 fun x39 hx39 => ?_)
  have hx39 := fR_isR hx39
  refine Eq.trans (q_iconst (v := 0) dX7_begin_42 (mk0 rfl) rfl) ?_
  refine Eq.trans (q_aload_n dX7_begin_43 (mk0 rfl) rfl rfl) ?_
  refine Eq.trans (q_getR (ci := 7) (k := 5) dX7_begin_44 (mk0 rfl) rfl) (bind_cg2 fun x44 hx44 => ?_)
  have hx44 := fR_isR hx44
  refine Eq.trans (q_iconst (v := 0) dX7_begin_47 (mk0 rfl) rfl) ?_
  refine Eq.trans (q_bipush (v := 6) dX7_begin_48 (mk0 rfl) rfl) ?_
  refine Eq.trans (q_copy dX7_begin_50 (mk0 rfl) rfl (Nat.le_of_ble_eq_true rfl)) (bind_cg fun h50 => ?_)
  refine Eq.trans (q_aload_n dX7_begin_53 (mk0 rfl) rfl rfl) ?_
  refine Eq.trans (q_getR (ci := 7) (k := 6) dX7_begin_54 (mk0 rfl) rfl) (bind_cg2 fun x54 hx54 => ?_)
  have hx54 := fR_isR hx54
  refine Eq.trans (q_iconst (v := 0) dX7_begin_57 (mk0 rfl) rfl) ?_
  refine Eq.trans (q_callS (as := [x54, .int 0]) dX7_begin_58 (mk0 rfl) rfl (Or.inl rfl) rfl rfl (Nat.le_of_ble_eq_true rfl) (by simp [eA, ct_i, ct_l, ct_r, ct_n, ct_x, mJ7_fill_53178, (cat_R hx54)])) ?_
  refine Eq.trans (cV_bind rfl) (bind_cg fun p58 => ?_)
  show RS (ZZ L xs) (d + 1) mX7_begin 61 [some (.ref o), some (v1)] [] p58 = _
  refine Eq.trans (q_aload_n dX7_begin_61 (mk0 rfl) rfl rfl) ?_
  refine Eq.trans (q_getR (ci := 7) (k := 7) dX7_begin_62 (mk0 rfl) rfl) (bind_cg2 fun x62 hx62 => ?_)
  have hx62 := fR_isR hx62
  refine Eq.trans (q_iconst (v := 0) dX7_begin_65 (mk0 rfl) rfl) ?_
  refine Eq.trans (q_callS (as := [x62, .int 0]) dX7_begin_66 (mk0 rfl) rfl (Or.inl rfl) rfl rfl (Nat.le_of_ble_eq_true rfl) (by simp [eA, ct_i, ct_l, ct_r, ct_n, ct_x, mJ7_fill_53178, (cat_R hx62)])) ?_
  refine Eq.trans (cV_bind rfl) (bind_cg fun p66 => ?_)
  show RS (ZZ L xs) (d + 1) mX7_begin 69 [some (.ref o), some (v1)] [] p66 = _
  refine Eq.trans (q_aload_n dX7_begin_69 (mk0 rfl) rfl rfl) ?_
  refine Eq.trans (q_getR (ci := 7) (k := 8) dX7_begin_70 (mk0 rfl) rfl) (bind_cg2 fun x70 hx70 => ?_)
  have hx70 := fR_isR hx70
  refine Eq.trans (q_iconst (v := 0) dX7_begin_73 (mk0 rfl) rfl) ?_
  refine Eq.trans (q_callS (as := [x70, .int 0]) dX7_begin_74 (mk0 rfl) rfl (Or.inl rfl) rfl rfl (Nat.le_of_ble_eq_true rfl) (by simp [eA, ct_i, ct_l, ct_r, ct_n, ct_x, mJ7_fill_53178, (cat_R hx70)])) ?_
  refine Eq.trans (cV_bind rfl) (bind_cg fun p74 => ?_)
  show RS (ZZ L xs) (d + 1) mX7_begin 77 [some (.ref o), some (v1)] [] p74 = _
  refine Eq.trans (q_aload_n dX7_begin_77 (mk0 rfl) rfl rfl) ?_
  refine Eq.trans (q_getR (ci := 7) (k := 9) dX7_begin_78 (mk0 rfl) rfl) (bind_cg2 fun x78 hx78 => ?_)
  have hx78 := fR_isR hx78
  refine Eq.trans (q_iconst (v := (-1)) dX7_begin_81 (mk0 rfl) rfl) ?_
  refine Eq.trans (q_callS (as := [x78, .int ((-1))]) dX7_begin_82 (mk0 rfl) rfl (Or.inl rfl) rfl rfl (Nat.le_of_ble_eq_true rfl) (by simp [eA, ct_i, ct_l, ct_r, ct_n, ct_x, mJ7_fill_53178, (cat_R hx78)])) ?_
  refine Eq.trans (cV_bind rfl) (bind_cg fun p82 => ?_)
  show RS (ZZ L xs) (d + 1) mX7_begin 85 [some (.ref o), some (v1)] [] p82 = _
  refine Eq.trans (q_aload_n dX7_begin_85 (mk0 rfl) rfl rfl) ?_
  refine Eq.trans (q_getR (ci := 7) (k := 10) dX7_begin_86 (mk0 rfl) rfl) (bind_cg2 fun x86 hx86 => ?_)
  have hx86 := fR_isR hx86
  refine Eq.trans (q_iconst (v := 0) dX7_begin_89 (mk0 rfl) rfl) ?_
  refine Eq.trans (q_callS (as := [x86, .int 0]) dX7_begin_90 (mk0 rfl) rfl (Or.inl rfl) rfl rfl (Nat.le_of_ble_eq_true rfl) (by simp [eA, ct_i, ct_l, ct_r, ct_n, ct_x, mJ7_fill_53178, (cat_R hx86)])) ?_
  refine Eq.trans (cV_bind rfl) (bind_cg fun p90 => ?_)
  show RS (ZZ L xs) (d + 1) mX7_begin 93 [some (.ref o), some (v1)] [] p90 = _
  exact q_return dX7_begin_93 (mk0 rfl) rfl
set_option maxRecDepth 20000 in
theorem bX7_copyFrom_0 {L : Nat} {xs : Nat → Int32} (d : Nat) (o : Nat) (v1 : Value) (hv1 : isR v1 = true) (ph : PH) : RS (ZZ L xs) (d + 1) mX7_copyFrom 0 [some (.ref o), some (v1)] [] ph = (fI ph v1 7 0).bind fun x2 => (fP ph (.ref o) 7 0 (.int x2)).bind fun h5 => (fI h5 v1 7 1).bind fun x10 => (fP h5 (.ref o) 7 1 (.int x10)).bind fun h13 => (fI h13 v1 7 2).bind fun x18 => (fP h13 (.ref o) 7 2 (.int x18)).bind fun h21 => (fL h21 v1 7 3).bind fun x26 => (fP h21 (.ref o) 7 3 (.long x26)).bind fun h29 => (fR h29 v1 7 4).bind fun x33 => (fR h29 (.ref o) 7 4).bind fun x38 => (cP h29 x33 0 x38 0 6).bind fun h44 => (fR h44 v1 7 5).bind fun x48 => (fR h44 (.ref o) 7 5).bind fun x53 => (cP h44 x48 0 x53 0 6).bind fun h59 => (fR h59 v1 7 6).bind fun x63 => (fR h59 (.ref o) 7 6).bind fun x68 => (cP h59 x63 0 x68 0 6).bind fun h74 => (fR h74 v1 7 7).bind fun x78 => (fR h74 (.ref o) 7 7).bind fun x83 => (cP h74 x78 0 x83 0 6).bind fun h89 => (fR h89 v1 7 8).bind fun x93 => (fR h89 (.ref o) 7 8).bind fun x98 => (cP h89 x93 0 x98 0 6).bind fun h104 => (fR h104 v1 7 9).bind fun x108 => (fR h104 (.ref o) 7 9).bind fun x113 => (cP h104 x108 0 x113 0 5).bind fun h118 => (fR h118 v1 7 10).bind fun x122 => (fR h118 (.ref o) 7 10).bind fun x127 => (cP h118 x122 0 x127 0 30).bind fun h133 => some (h133, none) := by
  refine Eq.trans (q_aload_n dX7_copyFrom_0 (mk0 rfl) rfl rfl) ?_
  refine Eq.trans (q_aload_n dX7_copyFrom_1 (mk0 rfl) rfl (isA_R hv1)) ?_
  refine Eq.trans (q_getI (ci := 7) (k := 0) dX7_copyFrom_2 (mk0 rfl) rfl) (bind_cg fun x2 => ?_)
  refine Eq.trans (q_put (ci := 7) (k := 0) (kd := 0) dX7_copyFrom_5 (mk0 rfl) rfl rfl (fun h => by cases h)) (bind_cg fun h5 => ?_)
  refine Eq.trans (q_aload_n dX7_copyFrom_8 (mk0 rfl) rfl rfl) ?_
  refine Eq.trans (q_aload_n dX7_copyFrom_9 (mk0 rfl) rfl (isA_R hv1)) ?_
  refine Eq.trans (q_getI (ci := 7) (k := 1) dX7_copyFrom_10 (mk0 rfl) rfl) (bind_cg fun x10 => ?_)
  refine Eq.trans (q_put (ci := 7) (k := 1) (kd := 0) dX7_copyFrom_13 (mk0 rfl) rfl rfl (fun h => by cases h)) (bind_cg fun h13 => ?_)
  refine Eq.trans (q_aload_n dX7_copyFrom_16 (mk0 rfl) rfl rfl) ?_
  refine Eq.trans (q_aload_n dX7_copyFrom_17 (mk0 rfl) rfl (isA_R hv1)) ?_
  refine Eq.trans (q_getI (ci := 7) (k := 2) dX7_copyFrom_18 (mk0 rfl) rfl) (bind_cg fun x18 => ?_)
  refine Eq.trans (q_put (ci := 7) (k := 2) (kd := 0) dX7_copyFrom_21 (mk0 rfl) rfl rfl (fun h => by cases h)) (bind_cg fun h21 => ?_)
  refine Eq.trans (q_aload_n dX7_copyFrom_24 (mk0 rfl) rfl rfl) ?_
  refine Eq.trans (q_aload_n dX7_copyFrom_25 (mk0 rfl) rfl (isA_R hv1)) ?_
  refine Eq.trans (q_getL (ci := 7) (k := 3) dX7_copyFrom_26 (mk0 rfl) rfl) (bind_cg fun x26 => ?_)
  refine Eq.trans (q_put (ci := 7) (k := 3) (kd := 1) dX7_copyFrom_29 (mk0 rfl) rfl rfl (fun h => by cases h)) (bind_cg fun h29 => ?_)
  refine Eq.trans (q_aload_n dX7_copyFrom_32 (mk0 rfl) rfl (isA_R hv1)) ?_
  refine Eq.trans (q_getR (ci := 7) (k := 4) dX7_copyFrom_33 (mk0 rfl) rfl) (bind_cg2 fun x33 hx33 => ?_)
  have hx33 := fR_isR hx33
  refine Eq.trans (q_iconst (v := 0) dX7_copyFrom_36 (mk0 rfl) rfl) ?_
  refine Eq.trans (q_aload_n dX7_copyFrom_37 (mk0 rfl) rfl rfl) ?_
  refine Eq.trans (q_getR (ci := 7) (k := 4) dX7_copyFrom_38 (mk0 rfl) rfl) (bind_cg2 fun x38 hx38 => ?_)
  have hx38 := fR_isR hx38
  refine Eq.trans (q_iconst (v := 0) dX7_copyFrom_41 (mk0 rfl) rfl) ?_
  refine Eq.trans (q_bipush (v := 6) dX7_copyFrom_42 (mk0 rfl) rfl) ?_
  refine Eq.trans (q_copy dX7_copyFrom_44 (mk0 rfl) rfl (Nat.le_of_ble_eq_true rfl)) (bind_cg fun h44 => ?_)
  refine Eq.trans (q_aload_n dX7_copyFrom_47 (mk0 rfl) rfl (isA_R hv1)) ?_
  refine Eq.trans (q_getR (ci := 7) (k := 5) dX7_copyFrom_48 (mk0 rfl) rfl) (bind_cg2 fun x48 hx48 => ?_)
  have hx48 := fR_isR hx48
  refine Eq.trans (q_iconst (v := 0) dX7_copyFrom_51 (mk0 rfl) rfl) ?_
  refine Eq.trans (q_aload_n dX7_copyFrom_52 (mk0 rfl) rfl rfl) ?_
  refine Eq.trans (q_getR (ci := 7) (k := 5) dX7_copyFrom_53 (mk0 rfl) rfl) (bind_cg2 fun x53 hx53 => ?_)
  have hx53 := fR_isR hx53
  refine Eq.trans (q_iconst (v := 0) dX7_copyFrom_56 (mk0 rfl) rfl) ?_
  refine Eq.trans (q_bipush (v := 6) dX7_copyFrom_57 (mk0 rfl) rfl) ?_
  refine Eq.trans (q_copy dX7_copyFrom_59 (mk0 rfl) rfl (Nat.le_of_ble_eq_true rfl)) (bind_cg fun h59 => ?_)
  refine Eq.trans (q_aload_n dX7_copyFrom_62 (mk0 rfl) rfl (isA_R hv1)) ?_
  refine Eq.trans (q_getR (ci := 7) (k := 6) dX7_copyFrom_63 (mk0 rfl) rfl) (bind_cg2 fun x63 hx63 => ?_)
  have hx63 := fR_isR hx63
  refine Eq.trans (q_iconst (v := 0) dX7_copyFrom_66 (mk0 rfl) rfl) ?_
  refine Eq.trans (q_aload_n dX7_copyFrom_67 (mk0 rfl) rfl rfl) ?_
  refine Eq.trans (q_getR (ci := 7) (k := 6) dX7_copyFrom_68 (mk0 rfl) rfl) (bind_cg2 fun x68 hx68 => ?_)
  have hx68 := fR_isR hx68
  refine Eq.trans (q_iconst (v := 0) dX7_copyFrom_71 (mk0 rfl) rfl) ?_
  refine Eq.trans (q_bipush (v := 6) dX7_copyFrom_72 (mk0 rfl) rfl) ?_
  refine Eq.trans (q_copy dX7_copyFrom_74 (mk0 rfl) rfl (Nat.le_of_ble_eq_true rfl)) (bind_cg fun h74 => ?_)
  refine Eq.trans (q_aload_n dX7_copyFrom_77 (mk0 rfl) rfl (isA_R hv1)) ?_
  refine Eq.trans (q_getR (ci := 7) (k := 7) dX7_copyFrom_78 (mk0 rfl) rfl) (bind_cg2 fun x78 hx78 => ?_)
  have hx78 := fR_isR hx78
  refine Eq.trans (q_iconst (v := 0) dX7_copyFrom_81 (mk0 rfl) rfl) ?_
  refine Eq.trans (q_aload_n dX7_copyFrom_82 (mk0 rfl) rfl rfl) ?_
  refine Eq.trans (q_getR (ci := 7) (k := 7) dX7_copyFrom_83 (mk0 rfl) rfl) (bind_cg2 fun x83 hx83 => ?_)
  have hx83 := fR_isR hx83
  refine Eq.trans (q_iconst (v := 0) dX7_copyFrom_86 (mk0 rfl) rfl) ?_
  refine Eq.trans (q_bipush (v := 6) dX7_copyFrom_87 (mk0 rfl) rfl) ?_
  refine Eq.trans (q_copy dX7_copyFrom_89 (mk0 rfl) rfl (Nat.le_of_ble_eq_true rfl)) (bind_cg fun h89 => ?_)
  refine Eq.trans (q_aload_n dX7_copyFrom_92 (mk0 rfl) rfl (isA_R hv1)) ?_
  refine Eq.trans (q_getR (ci := 7) (k := 8) dX7_copyFrom_93 (mk0 rfl) rfl) (bind_cg2 fun x93 hx93 => ?_)
  have hx93 := fR_isR hx93
  refine Eq.trans (q_iconst (v := 0) dX7_copyFrom_96 (mk0 rfl) rfl) ?_
  refine Eq.trans (q_aload_n dX7_copyFrom_97 (mk0 rfl) rfl rfl) ?_
  refine Eq.trans (q_getR (ci := 7) (k := 8) dX7_copyFrom_98 (mk0 rfl) rfl) (bind_cg2 fun x98 hx98 => ?_)
  have hx98 := fR_isR hx98
  refine Eq.trans (q_iconst (v := 0) dX7_copyFrom_101 (mk0 rfl) rfl) ?_
  refine Eq.trans (q_bipush (v := 6) dX7_copyFrom_102 (mk0 rfl) rfl) ?_
  refine Eq.trans (q_copy dX7_copyFrom_104 (mk0 rfl) rfl (Nat.le_of_ble_eq_true rfl)) (bind_cg fun h104 => ?_)
  refine Eq.trans (q_aload_n dX7_copyFrom_107 (mk0 rfl) rfl (isA_R hv1)) ?_
  refine Eq.trans (q_getR (ci := 7) (k := 9) dX7_copyFrom_108 (mk0 rfl) rfl) (bind_cg2 fun x108 hx108 => ?_)
  have hx108 := fR_isR hx108
  refine Eq.trans (q_iconst (v := 0) dX7_copyFrom_111 (mk0 rfl) rfl) ?_
  refine Eq.trans (q_aload_n dX7_copyFrom_112 (mk0 rfl) rfl rfl) ?_
  refine Eq.trans (q_getR (ci := 7) (k := 9) dX7_copyFrom_113 (mk0 rfl) rfl) (bind_cg2 fun x113 hx113 => ?_)
  have hx113 := fR_isR hx113
  refine Eq.trans (q_iconst (v := 0) dX7_copyFrom_116 (mk0 rfl) rfl) ?_
  refine Eq.trans (q_iconst (v := 5) dX7_copyFrom_117 (mk0 rfl) rfl) ?_
  refine Eq.trans (q_copy dX7_copyFrom_118 (mk0 rfl) rfl (Nat.le_of_ble_eq_true rfl)) (bind_cg fun h118 => ?_)
  refine Eq.trans (q_aload_n dX7_copyFrom_121 (mk0 rfl) rfl (isA_R hv1)) ?_
  refine Eq.trans (q_getR (ci := 7) (k := 10) dX7_copyFrom_122 (mk0 rfl) rfl) (bind_cg2 fun x122 hx122 => ?_)
  have hx122 := fR_isR hx122
  refine Eq.trans (q_iconst (v := 0) dX7_copyFrom_125 (mk0 rfl) rfl) ?_
  refine Eq.trans (q_aload_n dX7_copyFrom_126 (mk0 rfl) rfl rfl) ?_
  refine Eq.trans (q_getR (ci := 7) (k := 10) dX7_copyFrom_127 (mk0 rfl) rfl) (bind_cg2 fun x127 hx127 => ?_)
  have hx127 := fR_isR hx127
  refine Eq.trans (q_iconst (v := 0) dX7_copyFrom_130 (mk0 rfl) rfl) ?_
  refine Eq.trans (q_bipush (v := 30) dX7_copyFrom_131 (mk0 rfl) rfl) ?_
  refine Eq.trans (q_copy dX7_copyFrom_133 (mk0 rfl) rfl (Nat.le_of_ble_eq_true rfl)) (bind_cg fun h133 => ?_)
  exact q_return dX7_copyFrom_136 (mk0 rfl) rfl
set_option maxRecDepth 20000 in
theorem bX7_askedInAll_0 {L : Nat} {xs : Nat → Int32} (d : Nat) (o : Nat) (ph : PH) : RS (ZZ L xs) (d + 1) mX7_askedInAll 0 [some (.ref o), none, none] [] ph = RS (ZZ L xs) (d + 1) mX7_askedInAll 4 [some (.ref o), some (.int 0), some (.int 0)] [] ph := by
  refine Eq.trans (q_iconst (v := 0) dX7_askedInAll_0 (mk0 rfl) rfl) ?_
  refine Eq.trans (q_istore_n (lv2 := [some (.ref o), some (.int 0), none]) dX7_askedInAll_1 (mk0 rfl) (Nat.le_of_ble_eq_true rfl) rfl) ?_
  refine Eq.trans (q_iconst (v := 0) dX7_askedInAll_2 (mk0 rfl) rfl) ?_
  refine Eq.trans (q_istore_n (lv2 := [some (.ref o), some (.int 0), some (.int 0)]) dX7_askedInAll_3 (mk0 rfl) (Nat.le_of_ble_eq_true rfl) rfl) ?_
  rfl
set_option maxRecDepth 20000 in
theorem bX7_askedInAll_4 {L : Nat} {xs : Nat → Int32} (d : Nat) (o : Nat) (i1 : Int32) (i2 : Int32) (ph : PH) : RS (ZZ L xs) (d + 1) mX7_askedInAll 4 [some (.ref o), some (.int i1), some (.int i2)] [] ph = if (6 : Int32) ≤ i2 then some (ph, some (.int i1)) else (fR ph (.ref o) 7 7).bind fun x12 => (eI ph x12 i2).bind fun x16 => RS (ZZ L xs) (d + 1) mX7_askedInAll 4 [some (.ref o), some (.int (i1 + x16)), some (.int (i2 + 1))] [] ph := by
  refine Eq.trans (q_iload_n dX7_askedInAll_4 (mk0 rfl) rfl) ?_
  refine Eq.trans (q_bipush (v := 6) dX7_askedInAll_5 (mk0 rfl) rfl) ?_
  refine Eq.trans (q_icmp_ge (t := 25) dX7_askedInAll_7 (mk0 rfl) rfl) (ite_cg ?_ ?_)
  · refine Eq.trans (q_iload_n dX7_askedInAll_25 (mk0 rfl) rfl) ?_
    exact q_ireturn dX7_askedInAll_26 (mk0 rfl) rfl
  · refine Eq.trans (q_iload_n dX7_askedInAll_10 (mk0 rfl) rfl) ?_
    refine Eq.trans (q_aload_n dX7_askedInAll_11 (mk0 rfl) rfl rfl) ?_
    refine Eq.trans (q_getR (ci := 7) (k := 7) dX7_askedInAll_12 (mk0 rfl) rfl) (bind_cg2 fun x12 hx12 => ?_)
    have hx12 := fR_isR hx12
    refine Eq.trans (q_iload_n dX7_askedInAll_15 (mk0 rfl) rfl) ?_
    refine Eq.trans (q_iaload dX7_askedInAll_16 (mk0 rfl) (no_ext hx12)) (bind_cg fun x16 => ?_)
    refine Eq.trans (q_iadd dX7_askedInAll_17 (mk0 rfl)) ?_
    refine Eq.trans (q_istore_n (lv2 := [some (.ref o), some (.int (i1 + x16)), some (.int i2)]) dX7_askedInAll_18 (mk0 rfl) (Nat.le_of_ble_eq_true rfl) rfl) ?_
    refine Eq.trans (q_iinc (v := 1) (lv2 := [some (.ref o), some (.int (i1 + x16)), some (.int (i2 + 1))]) dX7_askedInAll_19 (mk0 rfl) rfl rfl rfl) ?_
    refine Eq.trans (q_goto (t := 4) dX7_askedInAll_22 (mk0 rfl) rfl) ?_
    rfl
