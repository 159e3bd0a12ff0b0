set_option maxRecDepth 20000 in
theorem bX4_init_0 {L : Nat} {xs : Nat → Int32} (d : Nat) (o : Nat) (ph : PH) : RS (ZZ L xs) (d + 1) mX4_init 0 [some (.ref o)] [] ph = (fP (ph ++ [nwAr 0 60]) (.ref o) 4 1 (.ref ph.length)).bind fun h9 => (fP (h9 ++ [nwAr 0 60]) (.ref o) 4 2 (.ref h9.length)).bind fun h17 => (fP (h17 ++ [nwAr 0 60]) (.ref o) 4 4 (.ref h17.length)).bind fun h25 => (fP (h25 ++ [nwAr 0 60]) (.ref o) 4 5 (.ref h25.length)).bind fun h33 => (fP (h33 ++ [nwAr 0 256]) (.ref o) 4 8 (.ref h33.length)).bind fun h42 => (fP (h42 ++ [nwAr 0 256]) (.ref o) 4 9 (.ref h42.length)).bind fun h51 => some (h51, none) := by
  refine Eq.trans (q_aload_n dX4_init_0 (mk0 rfl) rfl rfl) ?_
  refine Eq.trans (q_obj dX4_init_1 (mk0 rfl) rfl (Nat.le_of_ble_eq_true rfl)) ?_
  refine Eq.trans (q_aload_n dX4_init_4 (mk0 rfl) rfl rfl) ?_
  refine Eq.trans (q_bipush (v := 60) dX4_init_5 (mk0 rfl) rfl) ?_
  refine Eq.trans (q_newarray (t := 0) (e := nwAr 0 60) dX4_init_7 (mk0 rfl) (Or.inl ⟨rfl, rfl⟩) ⟨by decide, by decide⟩ rfl) ?_
  refine Eq.trans (q_put (ci := 4) (k := 1) (kd := 2) dX4_init_9 (mk0 rfl) rfl rfl (fun _ => ⟨rfl, rfl⟩)) (bind_cg fun h9 => ?_)
  refine Eq.trans (q_aload_n dX4_init_12 (mk0 rfl) rfl rfl) ?_
  refine Eq.trans (q_bipush (v := 60) dX4_init_13 (mk0 rfl) rfl) ?_
  refine Eq.trans (q_newarray (t := 0) (e := nwAr 0 60) dX4_init_15 (mk0 rfl) (Or.inl ⟨rfl, rfl⟩) ⟨by decide, by decide⟩ rfl) ?_
  refine Eq.trans (q_put (ci := 4) (k := 2) (kd := 2) dX4_init_17 (mk0 rfl) rfl rfl (fun _ => ⟨rfl, rfl⟩)) (bind_cg fun h17 => ?_)
  refine Eq.trans (q_aload_n dX4_init_20 (mk0 rfl) rfl rfl) ?_
  refine Eq.trans (q_bipush (v := 60) dX4_init_21 (mk0 rfl) rfl) ?_
  refine Eq.trans (q_newarray (t := 0) (e := nwAr 0 60) dX4_init_23 (mk0 rfl) (Or.inl ⟨rfl, rfl⟩) ⟨by decide, by decide⟩ rfl) ?_
  refine Eq.trans (q_put (ci := 4) (k := 4) (kd := 2) dX4_init_25 (mk0 rfl) rfl rfl (fun _ => ⟨rfl, rfl⟩)) (bind_cg fun h25 => ?_)
  refine Eq.trans (q_aload_n dX4_init_28 (mk0 rfl) rfl rfl) ?_
  refine Eq.trans (q_bipush (v := 60) dX4_init_29 (mk0 rfl) rfl) ?_
  refine Eq.trans (q_newarray (t := 0) (e := nwAr 0 60) dX4_init_31 (mk0 rfl) (Or.inl ⟨rfl, rfl⟩) ⟨by decide, by decide⟩ rfl) ?_
  refine Eq.trans (q_put (ci := 4) (k := 5) (kd := 2) dX4_init_33 (mk0 rfl) rfl rfl (fun _ => ⟨rfl, rfl⟩)) (bind_cg fun h33 => ?_)
  refine Eq.trans (q_aload_n dX4_init_36 (mk0 rfl) rfl rfl) ?_
  refine Eq.trans (q_sipush (v := 256) dX4_init_37 (mk0 rfl) rfl) ?_
  refine Eq.trans (q_newarray (t := 0) (e := nwAr 0 256) dX4_init_40 (mk0 rfl) (Or.inl ⟨rfl, rfl⟩) ⟨by decide, by decide⟩ rfl) ?_
  refine Eq.trans (q_put (ci := 4) (k := 8) (kd := 2) dX4_init_42 (mk0 rfl) rfl rfl (fun _ => ⟨rfl, rfl⟩)) (bind_cg fun h42 => ?_)
  refine Eq.trans (q_aload_n dX4_init_45 (mk0 rfl) rfl rfl) ?_
  refine Eq.trans (q_sipush (v := 256) dX4_init_46 (mk0 rfl) rfl) ?_
  refine Eq.trans (q_newarray (t := 0) (e := nwAr 0 256) dX4_init_49 (mk0 rfl) (Or.inl ⟨rfl, rfl⟩) ⟨by decide, by decide⟩ rfl) ?_
  refine Eq.trans (q_put (ci := 4) (k := 9) (kd := 2) dX4_init_51 (mk0 rfl) rfl rfl (fun _ => ⟨rfl, rfl⟩)) (bind_cg fun h51 => ?_)
  exact q_return dX4_init_54 (mk0 rfl) rfl
set_option maxRecDepth 20000 in
theorem bX4_clear_0 {L : Nat} {xs : Nat → Int32} (d : Nat) (o : Nat) (ph : PH) : RS (ZZ L xs) (d + 1) mX4_clear 0 [some (.ref o)] [] ph = (fP ph (.ref o) 4 0 (.int 0)).bind fun h2 => (fP h2 (.ref o) 4 3 (.int 0)).bind fun h7 => (fP h7 (.ref o) 4 6 (.int 0)).bind fun h12 => (fP h12 (.ref o) 4 7 (.int 0)).bind fun h17 => some (h17, none) := by
  refine Eq.trans (q_aload_n dX4_clear_0 (mk0 rfl) rfl rfl) ?_
  refine Eq.trans (q_iconst (v := 0) dX4_clear_1 (mk0 rfl) rfl) ?_
  refine Eq.trans (q_put (ci := 4) (k := 0) (kd := 0) dX4_clear_2 (mk0 rfl) rfl rfl (fun h => by cases h)) (bind_cg fun h2 => ?_)
  refine Eq.trans (q_aload_n dX4_clear_5 (mk0 rfl) rfl rfl) ?_
  refine Eq.trans (q_iconst (v := 0) dX4_clear_6 (mk0 rfl) rfl) ?_
  refine Eq.trans (q_put (ci := 4) (k := 3) (kd := 0) dX4_clear_7 (mk0 rfl) rfl rfl (fun h => by cases h)) (bind_cg fun h7 => ?_)
  refine Eq.trans (q_aload_n dX4_clear_10 (mk0 rfl) rfl rfl) ?_
  refine Eq.trans (q_iconst (v := 0) dX4_clear_11 (mk0 rfl) rfl) ?_
  refine Eq.trans (q_put (ci := 4) (k := 6) (kd := 0) dX4_clear_12 (mk0 rfl) rfl rfl (fun h => by cases h)) (bind_cg fun h12 => ?_)
  refine Eq.trans (q_aload_n dX4_clear_15 (mk0 rfl) rfl rfl) ?_
  refine Eq.trans (q_iconst (v := 0) dX4_clear_16 (mk0 rfl) rfl) ?_
  refine Eq.trans (q_put (ci := 4) (k := 7) (kd := 0) dX4_clear_17 (mk0 rfl) rfl rfl (fun h => by cases h)) (bind_cg fun h17 => ?_)
  exact q_return dX4_clear_20 (mk0 rfl) rfl
set_option maxRecDepth 20000 in
theorem bX4_isFull_0 {L : Nat} {xs : Nat → Int32} (d : Nat) (o : Nat) (ph : PH) : RS (ZZ L xs) (d + 1) mX4_isFull 0 [some (.ref o)] [] ph = (fI ph (.ref o) 4 0).bind fun x1 => (fI ph (.ref o) 4 6).bind fun x5 => if (x1 + x5 : Int32) < 60 then RS (ZZ L xs) (d + 1) mX4_isFull 19 [some (.ref o)] [.int 0] ph else RS (ZZ L xs) (d + 1) mX4_isFull 19 [some (.ref o)] [.int 1] ph := by
  refine Eq.trans (q_aload_n dX4_isFull_0 (mk0 rfl) rfl rfl) ?_
  refine Eq.trans (q_getI (ci := 4) (k := 0) dX4_isFull_1 (mk0 rfl) rfl) (bind_cg fun x1 => ?_)
  refine Eq.trans (q_aload_n dX4_isFull_4 (mk0 rfl) rfl rfl) ?_
  refine Eq.trans (q_getI (ci := 4) (k := 6) dX4_isFull_5 (mk0 rfl) rfl) (bind_cg fun x5 => ?_)
  refine Eq.trans (q_iadd dX4_isFull_8 (mk0 rfl)) ?_
  refine Eq.trans (q_bipush (v := 60) dX4_isFull_9 (mk0 rfl) rfl) ?_
  refine Eq.trans (q_icmp_lt (t := 18) dX4_isFull_11 (mk0 rfl) rfl) (ite_cg ?_ ?_)
  · refine Eq.trans (q_iconst (v := 0) dX4_isFull_18 (mk0 rfl) rfl) ?_
    rfl
  · refine Eq.trans (q_iconst (v := 1) dX4_isFull_14 (mk0 rfl) rfl) ?_
    refine Eq.trans (q_goto (t := 19) dX4_isFull_15 (mk0 rfl) rfl) ?_
    rfl
set_option maxRecDepth 20000 in
theorem bX4_isFull_19 {L : Nat} {xs : Nat → Int32} (d : Nat) (u0 : Option Value) (t0 : Int32) (ph : PH) : RS (ZZ L xs) (d + 1) mX4_isFull 19 [u0] [.int t0] ph = if (t0 : Int32) = 0 ∨ (t0 : Int32) = 1 then some (ph, some (.int t0)) else none := by
  exact q_zreturn dX4_isFull_19 (show mK mX4_isFull 19 [u0] = [none] from rfl) rfl
set_option maxRecDepth 20000 in
theorem bX4_addValue_0 {L : Nat} {xs : Nat → Int32} (d : Nat) (o : Nat) (i1 : Int32) (i2 : Int32) (ph : PH) : RS (ZZ L xs) (d + 1) mX4_addValue 0 [some (.ref o), some (.int i1), some (.int i2)] [] ph = (fI ph (.ref o) 4 0).bind fun x1 => if (60 : Int32) ≤ x1 then RS (ZZ L xs) (d + 1) mX4_addValue 39 [some (.ref o), some (.int i1), some (.int i2)] [] ph else (fR ph (.ref o) 4 1).bind fun x10 => (fI ph (.ref o) 4 0).bind fun x14 => (wI ph x10 x14 i1).bind fun h18 => (fR h18 (.ref o) 4 2).bind fun x20 => (fI h18 (.ref o) 4 0).bind fun x24 => (wI h18 x20 x24 i2).bind fun h28 => (fI h28 (.ref o) 4 0).bind fun x31 => (fP h28 (.ref o) 4 0 (.int (x31 + 1))).bind fun h36 => RS (ZZ L xs) (d + 1) mX4_addValue 39 [some (.ref o), some (.int i1), some (.int i2)] [] h36 := by
  refine Eq.trans (q_aload_n dX4_addValue_0 (mk0 rfl) rfl rfl) ?_
  refine Eq.trans (q_getI (ci := 4) (k := 0) dX4_addValue_1 (mk0 rfl) rfl) (bind_cg fun x1 => ?_)
  refine Eq.trans (q_bipush (v := 60) dX4_addValue_4 (mk0 rfl) rfl) ?_
  refine Eq.trans (q_icmp_ge (t := 39) dX4_addValue_6 (mk0 rfl) rfl) (ite_cg ?_ ?_)
  · rfl
  · refine Eq.trans (q_aload_n dX4_addValue_9 (mk0 rfl) rfl rfl) ?_
    refine Eq.trans (q_getR (ci := 4) (k := 1) dX4_addValue_10 (mk0 rfl) rfl) (bind_cg2 fun x10 hx10 => ?_)
    have hx10 := fR_isR hx10
    refine Eq.trans (q_aload_n dX4_addValue_13 (mk0 rfl) rfl rfl) ?_
    refine Eq.trans (q_getI (ci := 4) (k := 0) dX4_addValue_14 (mk0 rfl) rfl) (bind_cg fun x14 => ?_)
    refine Eq.trans (q_iload_n dX4_addValue_17 (mk0 rfl) rfl) ?_
    refine Eq.trans (q_iastore dX4_addValue_18 (mk0 rfl)) (bind_cg fun h18 => ?_)
    refine Eq.trans (q_aload_n dX4_addValue_19 (mk0 rfl) rfl rfl) ?_
    refine Eq.trans (q_getR (ci := 4) (k := 2) dX4_addValue_20 (mk0 rfl) rfl) (bind_cg2 fun x20 hx20 => ?_)
    have hx20 := fR_isR hx20
    refine Eq.trans (q_aload_n dX4_addValue_23 (mk0 rfl) rfl rfl) ?_
    refine Eq.trans (q_getI (ci := 4) (k := 0) dX4_addValue_24 (mk0 rfl) rfl) (bind_cg fun x24 => ?_)
    refine Eq.trans (q_iload_n dX4_addValue_27 (mk0 rfl) rfl) ?_
    refine Eq.trans (q_iastore dX4_addValue_28 (mk0 rfl)) (bind_cg fun h28 => ?_)
    refine Eq.trans (q_aload_n dX4_addValue_29 (mk0 rfl) rfl rfl) ?_
    refine Eq.trans (q_dup dX4_addValue_30 (mk0 rfl) rfl) ?_
    refine Eq.trans (q_getI (ci := 4) (k := 0) dX4_addValue_31 (mk0 rfl) rfl) (bind_cg fun x31 => ?_)
    refine Eq.trans (q_iconst (v := 1) dX4_addValue_34 (mk0 rfl) rfl) ?_
    refine Eq.trans (q_iadd dX4_addValue_35 (mk0 rfl)) ?_
    refine Eq.trans (q_put (ci := 4) (k := 0) (kd := 0) dX4_addValue_36 (mk0 rfl) rfl rfl (fun h => by cases h)) (bind_cg fun h36 => ?_)
    rfl
set_option maxRecDepth 20000 in
theorem bX4_addValue_39 {L : Nat} {xs : Nat → Int32} (d : Nat) (u0 : Option Value) (u1 : Option Value) (u2 : Option Value) (ph : PH) : RS (ZZ L xs) (d + 1) mX4_addValue 39 [u0, u1, u2] [] ph = some (ph, none) := by
  exact q_return dX4_addValue_39 (show mK mX4_addValue 39 [u0, u1, u2] = [none, none, none] from rfl) rfl
set_option maxRecDepth 20000 in
theorem bX4_countFact_0 {L : Nat} {xs : Nat → Int32} (d : Nat) (o : Nat) (ph : PH) : RS (ZZ L xs) (d + 1) mX4_countFact 0 [some (.ref o)] [] ph = (fI ph (.ref o) 4 6).bind fun x2 => (fP ph (.ref o) 4 6 (.int (x2 + 1))).bind fun h7 => some (h7, none) := by
  refine Eq.trans (q_aload_n dX4_countFact_0 (mk0 rfl) rfl rfl) ?_
  refine Eq.trans (q_dup dX4_countFact_1 (mk0 rfl) rfl) ?_
  refine Eq.trans (q_getI (ci := 4) (k := 6) dX4_countFact_2 (mk0 rfl) rfl) (bind_cg fun x2 => ?_)
  refine Eq.trans (q_iconst (v := 1) dX4_countFact_5 (mk0 rfl) rfl) ?_
  refine Eq.trans (q_iadd dX4_countFact_6 (mk0 rfl)) ?_
  refine Eq.trans (q_put (ci := 4) (k := 6) (kd := 0) dX4_countFact_7 (mk0 rfl) rfl rfl (fun h => by cases h)) (bind_cg fun h7 => ?_)
  exact q_return dX4_countFact_10 (mk0 rfl) rfl
set_option maxRecDepth 20000 in
theorem bX4_beginSum_0 {L : Nat} {xs : Nat → Int32} (d : Nat) (o : Nat) (ph : PH) : RS (ZZ L xs) (d + 1) mX4_beginSum 0 [some (.ref o)] [] ph = (fI ph (.ref o) 4 3).bind fun x1 => if (60 : Int32) ≤ x1 then RS (ZZ L xs) (d + 1) mX4_beginSum 32 [some (.ref o)] [] ph else (fR ph (.ref o) 4 4).bind fun x10 => (fI ph (.ref o) 4 3).bind fun x14 => (fI ph (.ref o) 4 0).bind fun x18 => (wI ph x10 x14 x18).bind fun h21 => (fI h21 (.ref o) 4 3).bind fun x24 => (fP h21 (.ref o) 4 3 (.int (x24 + 1))).bind fun h29 => RS (ZZ L xs) (d + 1) mX4_beginSum 32 [some (.ref o)] [] h29 := by
  refine Eq.trans (q_aload_n dX4_beginSum_0 (mk0 rfl) rfl rfl) ?_
  refine Eq.trans (q_getI (ci := 4) (k := 3) dX4_beginSum_1 (mk0 rfl) rfl) (bind_cg fun x1 => ?_)
  refine Eq.trans (q_bipush (v := 60) dX4_beginSum_4 (mk0 rfl) rfl) ?_
  refine Eq.trans (q_icmp_ge (t := 32) dX4_beginSum_6 (mk0 rfl) rfl) (ite_cg ?_ ?_)
  · rfl
  · refine Eq.trans (q_aload_n dX4_beginSum_9 (mk0 rfl) rfl rfl) ?_
    refine Eq.trans (q_getR (ci := 4) (k := 4) dX4_beginSum_10 (mk0 rfl) rfl) (bind_cg2 fun x10 hx10 => ?_)
    have hx10 := fR_isR hx10
    refine Eq.trans (q_aload_n dX4_beginSum_13 (mk0 rfl) rfl rfl) ?_
    refine Eq.trans (q_getI (ci := 4) (k := 3) dX4_beginSum_14 (mk0 rfl) rfl) (bind_cg fun x14 => ?_)
    refine Eq.trans (q_aload_n dX4_beginSum_17 (mk0 rfl) rfl rfl) ?_
    refine Eq.trans (q_getI (ci := 4) (k := 0) dX4_beginSum_18 (mk0 rfl) rfl) (bind_cg fun x18 => ?_)
    refine Eq.trans (q_iastore dX4_beginSum_21 (mk0 rfl)) (bind_cg fun h21 => ?_)
    refine Eq.trans (q_aload_n dX4_beginSum_22 (mk0 rfl) rfl rfl) ?_
    refine Eq.trans (q_dup dX4_beginSum_23 (mk0 rfl) rfl) ?_
    refine Eq.trans (q_getI (ci := 4) (k := 3) dX4_beginSum_24 (mk0 rfl) rfl) (bind_cg fun x24 => ?_)
    refine Eq.trans (q_iconst (v := 1) dX4_beginSum_27 (mk0 rfl) rfl) ?_
    refine Eq.trans (q_iadd dX4_beginSum_28 (mk0 rfl)) ?_
    refine Eq.trans (q_put (ci := 4) (k := 3) (kd := 0) dX4_beginSum_29 (mk0 rfl) rfl rfl (fun h => by cases h)) (bind_cg fun h29 => ?_)
    rfl
set_option maxRecDepth 20000 in
theorem bX4_beginSum_32 {L : Nat} {xs : Nat → Int32} (d : Nat) (o : Nat) (ph : PH) : RS (ZZ L xs) (d + 1) mX4_beginSum 32 [some (.ref o)] [] ph = (fI ph (.ref o) 4 3).bind fun x33 => some (ph, some (.int (x33 - 1))) := by
  refine Eq.trans (q_aload_n dX4_beginSum_32 (mk0 rfl) rfl rfl) ?_
  refine Eq.trans (q_getI (ci := 4) (k := 3) dX4_beginSum_33 (mk0 rfl) rfl) (bind_cg fun x33 => ?_)
  refine Eq.trans (q_iconst (v := 1) dX4_beginSum_36 (mk0 rfl) rfl) ?_
  refine Eq.trans (q_isub dX4_beginSum_37 (mk0 rfl)) ?_
  exact q_ireturn dX4_beginSum_38 (mk0 rfl) rfl
set_option maxRecDepth 20000 in
theorem bX4_endSum_0 {L : Nat} {xs : Nat → Int32} (d : Nat) (o : Nat) (i1 : Int32) (ph : PH) : RS (ZZ L xs) (d + 1) mX4_endSum 0 [some (.ref o), some (.int i1)] [] ph = if (i1 : Int32) < 0 then RS (ZZ L xs) (d + 1) mX4_endSum 20 [some (.ref o), some (.int i1)] [] ph else if (60 : Int32) ≤ i1 then RS (ZZ L xs) (d + 1) mX4_endSum 20 [some (.ref o), some (.int i1)] [] ph else (fR ph (.ref o) 4 5).bind fun x11 => (fI ph (.ref o) 4 0).bind fun x16 => (wI ph x11 i1 x16).bind fun h19 => RS (ZZ L xs) (d + 1) mX4_endSum 20 [some (.ref o), some (.int i1)] [] h19 := by
  refine Eq.trans (q_iload_n dX4_endSum_0 (mk0 rfl) rfl) ?_
  refine Eq.trans (q_if_lt (t := 20) dX4_endSum_1 (mk0 rfl) rfl) (ite_cg ?_ ?_)
  · rfl
  · refine Eq.trans (q_iload_n dX4_endSum_4 (mk0 rfl) rfl) ?_
    refine Eq.trans (q_bipush (v := 60) dX4_endSum_5 (mk0 rfl) rfl) ?_
    refine Eq.trans (q_icmp_ge (t := 20) dX4_endSum_7 (mk0 rfl) rfl) (ite_cg ?_ ?_)
    · rfl
    · refine Eq.trans (q_aload_n dX4_endSum_10 (mk0 rfl) rfl rfl) ?_
      refine Eq.trans (q_getR (ci := 4) (k := 5) dX4_endSum_11 (mk0 rfl) rfl) (bind_cg2 fun x11 hx11 => ?_)
      have hx11 := fR_isR hx11
      refine Eq.trans (q_iload_n dX4_endSum_14 (mk0 rfl) rfl) ?_
      refine Eq.trans (q_aload_n dX4_endSum_15 (mk0 rfl) rfl rfl) ?_
      refine Eq.trans (q_getI (ci := 4) (k := 0) dX4_endSum_16 (mk0 rfl) rfl) (bind_cg fun x16 => ?_)
      refine Eq.trans (q_iastore dX4_endSum_19 (mk0 rfl)) (bind_cg fun h19 => ?_)
      rfl
set_option maxRecDepth 20000 in
theorem bX4_endSum_20 {L : Nat} {xs : Nat → Int32} (d : Nat) (u0 : Option Value) (u1 : Option Value) (ph : PH) : RS (ZZ L xs) (d + 1) mX4_endSum 20 [u0, u1] [] ph = some (ph, none) := by
  exact q_return dX4_endSum_20 (show mK mX4_endSum 20 [u0, u1] = [none, none] from rfl) rfl
set_option maxRecDepth 20000 in
theorem bX4_addStep_0 {L : Nat} {xs : Nat → Int32} (d : Nat) (o : Nat) (i1 : Int32) (i2 : Int32) (ph : PH) : RS (ZZ L xs) (d + 1) mX4_addStep 0 [some (.ref o), some (.int i1), some (.int i2)] [] ph = (fI ph (.ref o) 4 7).bind fun x1 => if (256 : Int32) ≤ x1 then RS (ZZ L xs) (d + 1) mX4_addStep 40 [some (.ref o), some (.int i1), some (.int i2)] [] ph else (fR ph (.ref o) 4 8).bind fun x11 => (fI ph (.ref o) 4 7).bind fun x15 => (wI ph x11 x15 i1).bind fun h19 => (fR h19 (.ref o) 4 9).bind fun x21 => (fI h19 (.ref o) 4 7).bind fun x25 => (wI h19 x21 x25 i2).bind fun h29 => (fI h29 (.ref o) 4 7).bind fun x32 => (fP h29 (.ref o) 4 7 (.int (x32 + 1))).bind fun h37 => RS (ZZ L xs) (d + 1) mX4_addStep 40 [some (.ref o), some (.int i1), some (.int i2)] [] h37 := by
  refine Eq.trans (q_aload_n dX4_addStep_0 (mk0 rfl) rfl rfl) ?_
  refine Eq.trans (q_getI (ci := 4) (k := 7) dX4_addStep_1 (mk0 rfl) rfl) (bind_cg fun x1 => ?_)
  refine Eq.trans (q_sipush (v := 256) dX4_addStep_4 (mk0 rfl) rfl) ?_
  refine Eq.trans (q_icmp_ge (t := 40) dX4_addStep_7 (mk0 rfl) rfl) (ite_cg ?_ ?_)
  · rfl
  · refine Eq.trans (q_aload_n dX4_addStep_10 (mk0 rfl) rfl rfl) ?_
    refine Eq.trans (q_getR (ci := 4) (k := 8) dX4_addStep_11 (mk0 rfl) rfl) (bind_cg2 fun x11 hx11 => ?_)
    have hx11 := fR_isR hx11
    refine Eq.trans (q_aload_n dX4_addStep_14 (mk0 rfl) rfl rfl) ?_
    refine Eq.trans (q_getI (ci := 4) (k := 7) dX4_addStep_15 (mk0 rfl) rfl) (bind_cg fun x15 => ?_)
    refine Eq.trans (q_iload_n dX4_addStep_18 (mk0 rfl) rfl) ?_
    refine Eq.trans (q_iastore dX4_addStep_19 (mk0 rfl)) (bind_cg fun h19 => ?_)
    refine Eq.trans (q_aload_n dX4_addStep_20 (mk0 rfl) rfl rfl) ?_
    refine Eq.trans (q_getR (ci := 4) (k := 9) dX4_addStep_21 (mk0 rfl) rfl) (bind_cg2 fun x21 hx21 => ?_)
    have hx21 := fR_isR hx21
    refine Eq.trans (q_aload_n dX4_addStep_24 (mk0 rfl) rfl rfl) ?_
    refine Eq.trans (q_getI (ci := 4) (k := 7) dX4_addStep_25 (mk0 rfl) rfl) (bind_cg fun x25 => ?_)
    refine Eq.trans (q_iload_n dX4_addStep_28 (mk0 rfl) rfl) ?_
    refine Eq.trans (q_iastore dX4_addStep_29 (mk0 rfl)) (bind_cg fun h29 => ?_)
    refine Eq.trans (q_aload_n dX4_addStep_30 (mk0 rfl) rfl rfl) ?_
    refine Eq.trans (q_dup dX4_addStep_31 (mk0 rfl) rfl) ?_
    refine Eq.trans (q_getI (ci := 4) (k := 7) dX4_addStep_32 (mk0 rfl) rfl) (bind_cg fun x32 => ?_)
    refine Eq.trans (q_iconst (v := 1) dX4_addStep_35 (mk0 rfl) rfl) ?_
    refine Eq.trans (q_iadd dX4_addStep_36 (mk0 rfl)) ?_
    refine Eq.trans (q_put (ci := 4) (k := 7) (kd := 0) dX4_addStep_37 (mk0 rfl) rfl rfl (fun h => by cases h)) (bind_cg fun h37 => ?_)
    rfl
set_option maxRecDepth 20000 in
theorem bX4_addStep_40 {L : Nat} {xs : Nat → Int32} (d : Nat) (o : Nat) (u1 : Option Value) (u2 : Option Value) (ph : PH) : RS (ZZ L xs) (d + 1) mX4_addStep 40 [some (.ref o), u1, u2] [] ph = (fI ph (.ref o) 4 7).bind fun x41 => some (ph, some (.int (x41 - 1))) := by
  refine Eq.trans (q_aload_n dX4_addStep_40 (show mK mX4_addStep 40 [some (.ref o), u1, u2] = [some (.ref o), none, none] from rfl) rfl rfl) ?_
  refine Eq.trans (q_getI (ci := 4) (k := 7) dX4_addStep_41 (mk0 rfl) rfl) (bind_cg fun x41 => ?_)
  refine Eq.trans (q_iconst (v := 1) dX4_addStep_44 (mk0 rfl) rfl) ?_
  refine Eq.trans (q_isub dX4_addStep_45 (mk0 rfl)) ?_
  exact q_ireturn dX4_addStep_46 (mk0 rfl) rfl
set_option maxRecDepth 20000 in
theorem bX4_landHere_0 {L : Nat} {xs : Nat → Int32} (d : Nat) (o : Nat) (i1 : Int32) (ph : PH) : RS (ZZ L xs) (d + 1) mX4_landHere 0 [some (.ref o), some (.int i1)] [] ph = if (i1 : Int32) < 0 then RS (ZZ L xs) (d + 1) mX4_landHere 21 [some (.ref o), some (.int i1)] [] ph else if (256 : Int32) ≤ i1 then RS (ZZ L xs) (d + 1) mX4_landHere 21 [some (.ref o), some (.int i1)] [] ph else (fR ph (.ref o) 4 9).bind fun x12 => (fI ph (.ref o) 4 7).bind fun x17 => (wI ph x12 i1 x17).bind fun h20 => RS (ZZ L xs) (d + 1) mX4_landHere 21 [some (.ref o), some (.int i1)] [] h20 := by
  refine Eq.trans (q_iload_n dX4_landHere_0 (mk0 rfl) rfl) ?_
  refine Eq.trans (q_if_lt (t := 21) dX4_landHere_1 (mk0 rfl) rfl) (ite_cg ?_ ?_)
  · rfl
  · refine Eq.trans (q_iload_n dX4_landHere_4 (mk0 rfl) rfl) ?_
    refine Eq.trans (q_sipush (v := 256) dX4_landHere_5 (mk0 rfl) rfl) ?_
    refine Eq.trans (q_icmp_ge (t := 21) dX4_landHere_8 (mk0 rfl) rfl) (ite_cg ?_ ?_)
    · rfl
    · refine Eq.trans (q_aload_n dX4_landHere_11 (mk0 rfl) rfl rfl) ?_
      refine Eq.trans (q_getR (ci := 4) (k := 9) dX4_landHere_12 (mk0 rfl) rfl) (bind_cg2 fun x12 hx12 => ?_)
      have hx12 := fR_isR hx12
      refine Eq.trans (q_iload_n dX4_landHere_15 (mk0 rfl) rfl) ?_
      refine Eq.trans (q_aload_n dX4_landHere_16 (mk0 rfl) rfl rfl) ?_
      refine Eq.trans (q_getI (ci := 4) (k := 7) dX4_landHere_17 (mk0 rfl) rfl) (bind_cg fun x17 => ?_)
      refine Eq.trans (q_iastore dX4_landHere_20 (mk0 rfl)) (bind_cg fun h20 => ?_)
      rfl
set_option maxRecDepth 20000 in
theorem bX4_landHere_21 {L : Nat} {xs : Nat → Int32} (d : Nat) (u0 : Option Value) (u1 : Option Value) (ph : PH) : RS (ZZ L xs) (d + 1) mX4_landHere 21 [u0, u1] [] ph = some (ph, none) := by
  exact q_return dX4_landHere_21 (show mK mX4_landHere 21 [u0, u1] = [none, none] from rfl) rfl
set_option maxRecDepth 20000 in
theorem bX4_worth_0 {L : Nat} {xs : Nat → Int32} (d : Nat) (o : Nat) (v1 : Value) (hv1 : isR v1 = true) (ph : PH) : RS (ZZ L xs) (d + 1) mX4_worth 0 [some (.ref o), some (v1), none, none, none] [] ph = RS (ZZ L xs) (d + 1) mX4_worth 4 [some (.ref o), some (v1), some (.int 1), some (.int 0), none] [] ph := by
  refine Eq.trans (q_iconst (v := 1) dX4_worth_0 (mk0 rfl) rfl) ?_
  refine Eq.trans (q_istore_n (lv2 := [some (.ref o), some (v1), some (.int 1), none, none]) dX4_worth_1 (mk0 rfl) (Nat.le_of_ble_eq_true rfl) (by simp [s1, s2, s0, (cat_R hv1)] <;> rfl)) ?_
  refine Eq.trans (q_iconst (v := 0) dX4_worth_2 (mk0 rfl) rfl) ?_
  refine Eq.trans (q_istore_n (lv2 := [some (.ref o), some (v1), some (.int 1), some (.int 0), none]) dX4_worth_3 (mk0 rfl) (Nat.le_of_ble_eq_true rfl) rfl) ?_
  rfl
set_option maxRecDepth 20000 in
theorem bX4_worth_4 {L : Nat} {xs : Nat → Int32} (d : Nat) (o : Nat) (v1 : Value) (i2 : Int32) (i3 : Int32) (u4 : Option Value) (hv1 : isR v1 = true) (ph : PH) : RS (ZZ L xs) (d + 1) mX4_worth 4 [some (.ref o), some (v1), some (.int i2), some (.int i3), u4] [] ph = (fI ph (.ref o) 4 7).bind fun x6 => if (x6 : Int32) ≤ i3 then some (ph, some (.long 0)) else (fR ph (.ref o) 4 9).bind fun x13 => (eI ph x13 i3).bind fun x17 => (fR ph (.ref o) 4 8).bind fun x21 => (eI ph x21 i3).bind fun x25 => if (x25 : Int32) = 1 then RS (ZZ L xs) (d + 1) mX4_worth 56 [some (.ref o), some (v1), some (.int i2), some (.int i3), some (.int x17)] [] ph else if (x25 : Int32) = 2 then RS (ZZ L xs) (d + 1) mX4_worth 69 [some (.ref o), some (v1), some (.int i2), some (.int i3), some (.int x17)] [] ph else if (x25 : Int32) = 3 then RS (ZZ L xs) (d + 1) mX4_worth 89 [some (.ref o), some (v1), some (.int i2), some (.int i3), some (.int x17)] [] ph else if (x25 : Int32) = 4 then RS (ZZ L xs) (d + 1) mX4_worth 109 [some (.ref o), some (v1), some (.int i2), some (.int i3), some (.int x17)] [] ph else RS (ZZ L xs) (d + 1) mX4_worth 117 [some (.ref o), some (v1), some (.int i2), some (.int i3), some (.int x17)] [] ph := by
  refine Eq.trans (q_iload_n dX4_worth_4 (show mK mX4_worth 4 [some (.ref o), some (v1), some (.int i2), some (.int i3), u4] = [some (.ref o), some (v1), some (.int i2), some (.int i3), none] from rfl) rfl) ?_
  refine Eq.trans (q_aload_n dX4_worth_5 (mk0 rfl) rfl rfl) ?_
  refine Eq.trans (q_getI (ci := 4) (k := 7) dX4_worth_6 (mk0 rfl) rfl) (bind_cg fun x6 => ?_)
  refine Eq.trans (q_icmp_ge (t := 149) dX4_worth_9 (mk0 rfl) rfl) (ite_cg ?_ ?_)
  · refine Eq.trans (q_lconst (v := 0) dX4_worth_149 (mk0 rfl) rfl) ?_
    exact q_lreturn dX4_worth_150 (mk0 rfl) rfl
  · refine Eq.trans (q_aload_n dX4_worth_12 (mk0 rfl) rfl rfl) ?_
    refine Eq.trans (q_getR (ci := 4) (k := 9) dX4_worth_13 (mk0 rfl) rfl) (bind_cg2 fun x13 hx13 => ?_)
    have hx13 := fR_isR hx13
    refine Eq.trans (q_iload_n dX4_worth_16 (mk0 rfl) rfl) ?_
    refine Eq.trans (q_iaload dX4_worth_17 (mk0 rfl) (no_ext hx13)) (bind_cg fun x17 => ?_)
    refine Eq.trans (q_istore (lv2 := [some (.ref o), some (v1), some (.int i2), some (.int i3), some (.int x17)]) dX4_worth_18 (mk0 rfl) (Nat.le_of_ble_eq_true rfl) rfl) ?_
    refine Eq.trans (q_aload_n dX4_worth_20 (mk0 rfl) rfl rfl) ?_
    refine Eq.trans (q_getR (ci := 4) (k := 8) dX4_worth_21 (mk0 rfl) rfl) (bind_cg2 fun x21 hx21 => ?_)
    have hx21 := fR_isR hx21
    refine Eq.trans (q_iload_n dX4_worth_24 (mk0 rfl) rfl) ?_
    refine Eq.trans (q_iaload dX4_worth_25 (mk0 rfl) (no_ext hx21)) (bind_cg fun x25 => ?_)
    refine Eq.trans (q_tableswitch dX4_worth_26 (mk0 rfl)) ?_
    generalize (x25 : Int32) = y26
    by_cases hy1 : y26 = 1
    · rw [if_pos hy1, hy1]; rfl
    rw [if_neg hy1]
    by_cases hy2 : y26 = 2
    · rw [if_pos hy2, hy2]; rfl
    rw [if_neg hy2]
    by_cases hy3 : y26 = 3
    · rw [if_pos hy3, hy3]; rfl
    rw [if_neg hy3]
    by_cases hy4 : y26 = 4
    · rw [if_pos hy4, hy4]; rfl
    rw [if_neg hy4]
    have ny1 := i32_ne hy1 (n := 1) rfl
    have ny2 := i32_ne hy2 (n := 2) rfl
    have ny3 := i32_ne hy3 (n := 3) rfl
    have ny4 := i32_ne hy4 (n := 4) rfl
    rw [sw_out (t := 117) (by omega) rfl]
    rfl
set_option maxRecDepth 20000 in
theorem bX4_worth_56 {L : Nat} {xs : Nat → Int32} (d : Nat) (o : Nat) (v1 : Value) (i2 : Int32) (i3 : Int32) (u4 : Option Value) (hv1 : isR v1 = true) (ph : PH) : RS (ZZ L xs) (d + 1) mX4_worth 56 [some (.ref o), some (v1), some (.int i2), some (.int i3), u4] [] ph = if ¬ (i2 : Int32) = 0 then RS (ZZ L xs) (d + 1) mX4_worth 65 [some (.ref o), some (v1), some (.int i2), some (.int i3), none] [.int 0] ph else RS (ZZ L xs) (d + 1) mX4_worth 65 [some (.ref o), some (v1), some (.int i2), some (.int i3), none] [.int 1] ph := by
  refine Eq.trans (q_iload_n dX4_worth_56 (show mK mX4_worth 56 [some (.ref o), some (v1), some (.int i2), some (.int i3), u4] = [some (.ref o), some (v1), some (.int i2), some (.int i3), none] from rfl) rfl) ?_
  refine Eq.trans (q_if_ne (t := 64) dX4_worth_57 (mk0 rfl) rfl) (ite_cg ?_ ?_)
  · refine Eq.trans (q_iconst (v := 0) dX4_worth_64 (mk0 rfl) rfl) ?_
    rfl
  · refine Eq.trans (q_iconst (v := 1) dX4_worth_60 (mk0 rfl) rfl) ?_
    refine Eq.trans (q_goto (t := 65) dX4_worth_61 (mk0 rfl) rfl) ?_
    rfl
set_option maxRecDepth 20000 in
theorem bX4_worth_65 {L : Nat} {xs : Nat → Int32} (d : Nat) (o : Nat) (v1 : Value) (u2 : Option Value) (i3 : Int32) (u4 : Option Value) (t0 : Int32) (hv1 : isR v1 = true) (ph : PH) : RS (ZZ L xs) (d + 1) mX4_worth 65 [some (.ref o), some (v1), u2, some (.int i3), u4] [.int t0] ph = RS (ZZ L xs) (d + 1) mX4_worth 143 [some (.ref o), some (v1), some (.int t0), some (.int i3), none] [] ph := by
  refine Eq.trans (q_istore_n (lv2 := [some (.ref o), some (v1), some (.int t0), some (.int i3), none]) dX4_worth_65 (show mK mX4_worth 65 [some (.ref o), some (v1), u2, some (.int i3), u4] = [some (.ref o), some (v1), none, some (.int i3), none] from rfl) (Nat.le_of_ble_eq_true rfl) (by simp [s1, s2, s0, (cat_R hv1)] <;> rfl)) ?_
  refine Eq.trans (q_goto (t := 143) dX4_worth_66 (mk0 rfl) rfl) ?_
  rfl
set_option maxRecDepth 20000 in
theorem bX4_worth_69 {L : Nat} {xs : Nat → Int32} (d : Nat) (o : Nat) (v1 : Value) (i2 : Int32) (i3 : Int32) (i4 : Int32) (hv1 : isR v1 = true) (ph : PH) : RS (ZZ L xs) (d + 1) mX4_worth 69 [some (.ref o), some (v1), some (.int i2), some (.int i3), some (.int i4)] [] ph = if (i2 : Int32) = 0 then RS (ZZ L xs) (d + 1) mX4_worth 85 [some (.ref o), some (v1), some (.int i2), some (.int i3), some (.int i4)] [.int (if (i3 : Int32) < i4 - 1 then i4 - 1 else i3)] ph else RS (ZZ L xs) (d + 1) mX4_worth 85 [some (.ref o), some (v1), some (.int i2), some (.int i3), some (.int i4)] [.int i3] ph := by
  refine Eq.trans (q_iload_n dX4_worth_69 (mk0 rfl) rfl) ?_
  refine Eq.trans (q_if_eq (t := 77) dX4_worth_70 (mk0 rfl) rfl) (ite_cg ?_ ?_)
  · refine Eq.trans (q_iload_n dX4_worth_77 (mk0 rfl) rfl) ?_
    refine Eq.trans (q_iload dX4_worth_78 (mk0 rfl) rfl) ?_
    refine Eq.trans (q_iconst (v := 1) dX4_worth_80 (mk0 rfl) rfl) ?_
    refine Eq.trans (q_isub dX4_worth_81 (mk0 rfl)) ?_
    refine Eq.trans (q_max dX4_worth_82 (mk0 rfl) rfl (Nat.le_of_ble_eq_true rfl)) ?_
    rfl
  · refine Eq.trans (q_iload_n dX4_worth_73 (mk0 rfl) rfl) ?_
    refine Eq.trans (q_goto (t := 85) dX4_worth_74 (mk0 rfl) rfl) ?_
    rfl
set_option maxRecDepth 20000 in
theorem bX4_worth_85 {L : Nat} {xs : Nat → Int32} (d : Nat) (o : Nat) (v1 : Value) (i2 : Int32) (u3 : Option Value) (u4 : Option Value) (t0 : Int32) (hv1 : isR v1 = true) (ph : PH) : RS (ZZ L xs) (d + 1) mX4_worth 85 [some (.ref o), some (v1), some (.int i2), u3, u4] [.int t0] ph = RS (ZZ L xs) (d + 1) mX4_worth 143 [some (.ref o), some (v1), some (.int i2), some (.int t0), none] [] ph := by
  refine Eq.trans (q_istore_n (lv2 := [some (.ref o), some (v1), some (.int i2), some (.int t0), none]) dX4_worth_85 (show mK mX4_worth 85 [some (.ref o), some (v1), some (.int i2), u3, u4] = [some (.ref o), some (v1), some (.int i2), none, none] from rfl) (Nat.le_of_ble_eq_true rfl) rfl) ?_
  refine Eq.trans (q_goto (t := 143) dX4_worth_86 (mk0 rfl) rfl) ?_
  rfl
set_option maxRecDepth 20000 in
theorem bX4_worth_89 {L : Nat} {xs : Nat → Int32} (d : Nat) (o : Nat) (v1 : Value) (i2 : Int32) (i3 : Int32) (i4 : Int32) (hv1 : isR v1 = true) (ph : PH) : RS (ZZ L xs) (d + 1) mX4_worth 89 [some (.ref o), some (v1), some (.int i2), some (.int i3), some (.int i4)] [] ph = if (i2 : Int32) = 0 then RS (ZZ L xs) (d + 1) mX4_worth 105 [some (.ref o), some (v1), some (.int i2), some (.int i3), some (.int i4)] [.int i3] ph else RS (ZZ L xs) (d + 1) mX4_worth 105 [some (.ref o), some (v1), some (.int i2), some (.int i3), some (.int i4)] [.int (if (i3 : Int32) < i4 - 1 then i4 - 1 else i3)] ph := by
  refine Eq.trans (q_iload_n dX4_worth_89 (mk0 rfl) rfl) ?_
  refine Eq.trans (q_if_eq (t := 104) dX4_worth_90 (mk0 rfl) rfl) (ite_cg ?_ ?_)
  · refine Eq.trans (q_iload_n dX4_worth_104 (mk0 rfl) rfl) ?_
    rfl
  · refine Eq.trans (q_iload_n dX4_worth_93 (mk0 rfl) rfl) ?_
    refine Eq.trans (q_iload dX4_worth_94 (mk0 rfl) rfl) ?_
    refine Eq.trans (q_iconst (v := 1) dX4_worth_96 (mk0 rfl) rfl) ?_
    refine Eq.trans (q_isub dX4_worth_97 (mk0 rfl)) ?_
    refine Eq.trans (q_max dX4_worth_98 (mk0 rfl) rfl (Nat.le_of_ble_eq_true rfl)) ?_
    refine Eq.trans (q_goto (t := 105) dX4_worth_101 (mk0 rfl) rfl) ?_
    rfl
set_option maxRecDepth 20000 in
theorem bX4_worth_105 {L : Nat} {xs : Nat → Int32} (d : Nat) (o : Nat) (v1 : Value) (i2 : Int32) (u3 : Option Value) (u4 : Option Value) (t0 : Int32) (hv1 : isR v1 = true) (ph : PH) : RS (ZZ L xs) (d + 1) mX4_worth 105 [some (.ref o), some (v1), some (.int i2), u3, u4] [.int t0] ph = RS (ZZ L xs) (d + 1) mX4_worth 143 [some (.ref o), some (v1), some (.int i2), some (.int t0), none] [] ph := by
  refine Eq.trans (q_istore_n (lv2 := [some (.ref o), some (v1), some (.int i2), some (.int t0), none]) dX4_worth_105 (show mK mX4_worth 105 [some (.ref o), some (v1), some (.int i2), u3, u4] = [some (.ref o), some (v1), some (.int i2), none, none] from rfl) (Nat.le_of_ble_eq_true rfl) rfl) ?_
  refine Eq.trans (q_goto (t := 143) dX4_worth_106 (mk0 rfl) rfl) ?_
  rfl
set_option maxRecDepth 20000 in
theorem bX4_worth_109 {L : Nat} {xs : Nat → Int32} (d : Nat) (o : Nat) (v1 : Value) (u2 : Option Value) (u3 : Option Value) (i4 : Int32) (hv1 : isR v1 = true) (ph : PH) : RS (ZZ L xs) (d + 1) mX4_worth 109 [some (.ref o), some (v1), u2, u3, some (.int i4)] [] ph = (iO ph (.ref o) 4).bind fun b113 => (cJ (ZZ L xs) d mX4_sumOf [.ref b113, .int i4, v1] ph).bind fun p113 => some (p113.1, some (.long p113.2)) := by
  refine Eq.trans (q_aload_n dX4_worth_109 (show mK mX4_worth 109 [some (.ref o), some (v1), u2, u3, some (.int i4)] = [some (.ref o), some (v1), none, none, some (.int i4)] from rfl) rfl rfl) ?_
  refine Eq.trans (q_iload dX4_worth_110 (mk0 rfl) rfl) ?_
  refine Eq.trans (q_aload_n dX4_worth_112 (mk0 rfl) rfl (isA_R hv1)) ?_
  refine Eq.trans (q_callV (as := [.int i4, v1]) dX4_worth_113 (mk0 rfl) rfl rfl rfl (Nat.le_of_ble_eq_true rfl) (by simp [eA, ct_i, ct_l, ct_r, ct_n, ct_x, mX4_sumOf, (cat_R hv1)])) (bind_cg fun b113 => ?_)
  refine Eq.trans (cJ_bind rfl) (bind_cg fun p113 => ?_)
  show RS (ZZ L xs) (d + 1) mX4_worth 116 [some (.ref o), some (v1), none, none, some (.int i4)] [.long p113.2] p113.1 = _
  exact q_lreturn dX4_worth_116 (mk0 rfl) rfl
set_option maxRecDepth 20000 in
theorem bX4_worth_117 {L : Nat} {xs : Nat → Int32} (d : Nat) (o : Nat) (v1 : Value) (u2 : Option Value) (i3 : Int32) (i4 : Int32) (hv1 : isR v1 = true) (ph : PH) : RS (ZZ L xs) (d + 1) mX4_worth 117 [some (.ref o), some (v1), u2, some (.int i3), some (.int i4)] [] ph = (fR ph (.ref o) 4 8).bind fun x118 => (eI ph x118 i3).bind fun x122 => (iO ph (.ref o) 4).bind fun b127 => (cJ (ZZ L xs) d mX4_sumOf [.ref b127, .int i4, v1] ph).bind fun p127 => (iO p127.1 (.ref o) 4).bind fun b136 => (cJ (ZZ L xs) d mX4_sumOf [.ref b136, .int (i4 + 1), v1] p127.1).bind fun p136 => (cI (ZZ L xs) d mX4_compares [.int x122, .long p127.2, .long p136.2] p136.1).bind fun p139 => RS (ZZ L xs) (d + 1) mX4_worth 143 [some (.ref o), some (v1), some (.int p139.2), some (.int i3), some (.int i4)] [] p139.1 := by
  refine Eq.trans (q_aload_n dX4_worth_117 (show mK mX4_worth 117 [some (.ref o), some (v1), u2, some (.int i3), some (.int i4)] = [some (.ref o), some (v1), none, some (.int i3), some (.int i4)] from rfl) rfl rfl) ?_
  refine Eq.trans (q_getR (ci := 4) (k := 8) dX4_worth_118 (mk0 rfl) rfl) (bind_cg2 fun x118 hx118 => ?_)
  have hx118 := fR_isR hx118
  refine Eq.trans (q_iload_n dX4_worth_121 (mk0 rfl) rfl) ?_
  refine Eq.trans (q_iaload dX4_worth_122 (mk0 rfl) (no_ext hx118)) (bind_cg fun x122 => ?_)
  refine Eq.trans (q_aload_n dX4_worth_123 (mk0 rfl) rfl rfl) ?_
  refine Eq.trans (q_iload dX4_worth_124 (mk0 rfl) rfl) ?_
  refine Eq.trans (q_aload_n dX4_worth_126 (mk0 rfl) rfl (isA_R hv1)) ?_
  refine Eq.trans (q_callV (as := [.int i4, v1]) dX4_worth_127 (mk0 rfl) rfl rfl rfl (Nat.le_of_ble_eq_true rfl) (by simp [eA, ct_i, ct_l, ct_r, ct_n, ct_x, mX4_sumOf, (cat_R hv1)])) (bind_cg fun b127 => ?_)
  refine Eq.trans (cJ_bind rfl) (bind_cg fun p127 => ?_)
  show RS (ZZ L xs) (d + 1) mX4_worth 130 [some (.ref o), some (v1), none, some (.int i3), some (.int i4)] [.long p127.2, .int x122] p127.1 = _
  refine Eq.trans (q_aload_n dX4_worth_130 (mk0 rfl) rfl rfl) ?_
  refine Eq.trans (q_iload dX4_worth_131 (mk0 rfl) rfl) ?_
  refine Eq.trans (q_iconst (v := 1) dX4_worth_133 (mk0 rfl) rfl) ?_
  refine Eq.trans (q_iadd dX4_worth_134 (mk0 rfl)) ?_
  refine Eq.trans (q_aload_n dX4_worth_135 (mk0 rfl) rfl (isA_R hv1)) ?_
  refine Eq.trans (q_callV (as := [.int (i4 + 1), v1]) dX4_worth_136 (mk0 rfl) rfl rfl rfl (Nat.le_of_ble_eq_true rfl) (by simp [eA, ct_i, ct_l, ct_r, ct_n, ct_x, mX4_sumOf, (cat_R hv1)])) (bind_cg fun b136 => ?_)
  refine Eq.trans (cJ_bind rfl) (bind_cg fun p136 => ?_)
  show RS (ZZ L xs) (d + 1) mX4_worth 139 [some (.ref o), some (v1), none, some (.int i3), some (.int i4)] [.long p136.2, .long p127.2, .int x122] p136.1 = _
  refine Eq.trans (q_callS (as := [.int x122, .long p127.2, .long p136.2]) dX4_worth_139 (mk0 rfl) rfl (Or.inl rfl) rfl rfl (Nat.le_of_ble_eq_true rfl) (Nat.le_of_ble_eq_true rfl)) ?_
  refine Eq.trans (cI_bind (Or.inr rfl)) (bind_cg fun p139 => ?_)
  show RS (ZZ L xs) (d + 1) mX4_worth 142 [some (.ref o), some (v1), none, some (.int i3), some (.int i4)] [.int p139.2] p139.1 = _
  refine Eq.trans (q_istore_n (lv2 := [some (.ref o), some (v1), some (.int p139.2), some (.int i3), some (.int i4)]) dX4_worth_142 (mk0 rfl) (Nat.le_of_ble_eq_true rfl) (by simp [s1, s2, s0, (cat_R hv1)] <;> rfl)) ?_
  rfl
set_option maxRecDepth 20000 in
theorem bX4_worth_143 {L : Nat} {xs : Nat → Int32} (d : Nat) (o : Nat) (v1 : Value) (i2 : Int32) (i3 : Int32) (u4 : Option Value) (hv1 : isR v1 = true) (ph : PH) : RS (ZZ L xs) (d + 1) mX4_worth 143 [some (.ref o), some (v1), some (.int i2), some (.int i3), u4] [] ph = RS (ZZ L xs) (d + 1) mX4_worth 4 [some (.ref o), some (v1), some (.int i2), some (.int (i3 + 1)), none] [] ph := by
  refine Eq.trans (q_iinc (v := 1) (lv2 := [some (.ref o), some (v1), some (.int i2), some (.int (i3 + 1)), none]) dX4_worth_143 (show mK mX4_worth 143 [some (.ref o), some (v1), some (.int i2), some (.int i3), u4] = [some (.ref o), some (v1), some (.int i2), some (.int i3), none] from rfl) rfl rfl rfl) ?_
  refine Eq.trans (q_goto (t := 4) dX4_worth_146 (mk0 rfl) rfl) ?_
  rfl
set_option maxRecDepth 20000 in
theorem bX4_compares_0 {L : Nat} {xs : Nat → Int32} (d : Nat) (i0 : Int32) (l1 : Int64) (l3 : Int64) (ph : PH) : RS (ZZ L xs) (d + 1) mX4_compares 0 [some (.int i0), some (.long l1), none, some (.long l3), none] [] ph = if (i0 : Int32) = 60 then RS (ZZ L xs) (d + 1) mX4_compares 44 [some (.int i0), some (.long l1), none, some (.long l3), none] [] ph else if (i0 : Int32) = 62 then RS (ZZ L xs) (d + 1) mX4_compares 68 [some (.int i0), some (.long l1), none, some (.long l3), none] [] ph else if (i0 : Int32) = 316 then RS (ZZ L xs) (d + 1) mX4_compares 56 [some (.int i0), some (.long l1), none, some (.long l3), none] [] ph else if (i0 : Int32) = 318 then RS (ZZ L xs) (d + 1) mX4_compares 80 [some (.int i0), some (.long l1), none, some (.long l3), none] [] ph else RS (ZZ L xs) (d + 1) mX4_compares 92 [some (.int i0), some (.long l1), none, some (.long l3), none] [] ph := by
  refine Eq.trans (q_iload_n dX4_compares_0 (mk0 rfl) rfl) ?_
  refine Eq.trans (q_lookupswitch dX4_compares_1 (mk0 rfl) rfl) ?_
  generalize (i0 : Int32) = y1
  by_cases hy60 : y1 = 60
  · rw [if_pos hy60, hy60]; rfl
  rw [if_neg hy60]
  by_cases hy62 : y1 = 62
  · rw [if_pos hy62, hy62]; rfl
  rw [if_neg hy62]
  by_cases hy316 : y1 = 316
  · rw [if_pos hy316, hy316]; rfl
  rw [if_neg hy316]
  by_cases hy318 : y1 = 318
  · rw [if_pos hy318, hy318]; rfl
  rw [if_neg hy318]
  have ny60 := i32_ne hy60 (n := 60) rfl
  have ny62 := i32_ne hy62 (n := 62) rfl
  have ny316 := i32_ne hy316 (n := 316) rfl
  have ny318 := i32_ne hy318 (n := 318) rfl
  simp only [Op.lookupswitch.offset, ny60.symm, ny62.symm, ny316.symm, ny318.symm, if_false]
  rfl
set_option maxRecDepth 20000 in
theorem bX4_compares_44 {L : Nat} {xs : Nat → Int32} (d : Nat) (u0 : Option Value) (l1 : Int64) (l3 : Int64) (ph : PH) : RS (ZZ L xs) (d + 1) mX4_compares 44 [u0, some (.long l1), none, some (.long l3), none] [] ph = if (0 : Int32) ≤ lg_cmp l1 l3 then RS (ZZ L xs) (d + 1) mX4_compares 55 [none, some (.long l1), none, some (.long l3), none] [.int 0] ph else RS (ZZ L xs) (d + 1) mX4_compares 55 [none, some (.long l1), none, some (.long l3), none] [.int 1] ph := by
  refine Eq.trans (q_lload_n dX4_compares_44 (show mK mX4_compares 44 [u0, some (.long l1), none, some (.long l3), none] = [none, some (.long l1), none, some (.long l3), none] from rfl) rfl) ?_
  refine Eq.trans (q_lload_n dX4_compares_45 (mk0 rfl) rfl) ?_
  refine Eq.trans (q_lcmp dX4_compares_46 (mk0 rfl)) ?_
  refine Eq.trans (q_if_ge (t := 54) dX4_compares_47 (mk0 rfl) rfl) (ite_cg ?_ ?_)
  · refine Eq.trans (q_iconst (v := 0) dX4_compares_54 (mk0 rfl) rfl) ?_
    rfl
  · refine Eq.trans (q_iconst (v := 1) dX4_compares_50 (mk0 rfl) rfl) ?_
    refine Eq.trans (q_goto (t := 55) dX4_compares_51 (mk0 rfl) rfl) ?_
    rfl
set_option maxRecDepth 20000 in
theorem bX4_compares_55 {L : Nat} {xs : Nat → Int32} (d : Nat) (u0 : Option Value) (u1 : Option Value) (u2 : Option Value) (u3 : Option Value) (u4 : Option Value) (t0 : Int32) (ph : PH) : RS (ZZ L xs) (d + 1) mX4_compares 55 [u0, u1, u2, u3, u4] [.int t0] ph = if (t0 : Int32) = 0 ∨ (t0 : Int32) = 1 then some (ph, some (.int t0)) else none := by
  exact q_zreturn dX4_compares_55 (show mK mX4_compares 55 [u0, u1, u2, u3, u4] = [none, none, none, none, none] from rfl) rfl
set_option maxRecDepth 20000 in
theorem bX4_compares_56 {L : Nat} {xs : Nat → Int32} (d : Nat) (u0 : Option Value) (l1 : Int64) (l3 : Int64) (ph : PH) : RS (ZZ L xs) (d + 1) mX4_compares 56 [u0, some (.long l1), none, some (.long l3), none] [] ph = if (0 : Int32) < lg_cmp l1 l3 then RS (ZZ L xs) (d + 1) mX4_compares 67 [none, some (.long l1), none, some (.long l3), none] [.int 0] ph else RS (ZZ L xs) (d + 1) mX4_compares 67 [none, some (.long l1), none, some (.long l3), none] [.int 1] ph := by
  refine Eq.trans (q_lload_n dX4_compares_56 (show mK mX4_compares 56 [u0, some (.long l1), none, some (.long l3), none] = [none, some (.long l1), none, some (.long l3), none] from rfl) rfl) ?_
  refine Eq.trans (q_lload_n dX4_compares_57 (mk0 rfl) rfl) ?_
  refine Eq.trans (q_lcmp dX4_compares_58 (mk0 rfl)) ?_
  refine Eq.trans (q_if_gt (t := 66) dX4_compares_59 (mk0 rfl) rfl) (ite_cg ?_ ?_)
  · refine Eq.trans (q_iconst (v := 0) dX4_compares_66 (mk0 rfl) rfl) ?_
    rfl
  · refine Eq.trans (q_iconst (v := 1) dX4_compares_62 (mk0 rfl) rfl) ?_
    refine Eq.trans (q_goto (t := 67) dX4_compares_63 (mk0 rfl) rfl) ?_
    rfl
set_option maxRecDepth 20000 in
theorem bX4_compares_67 {L : Nat} {xs : Nat → Int32} (d : Nat) (u0 : Option Value) (u1 : Option Value) (u2 : Option Value) (u3 : Option Value) (u4 : Option Value) (t0 : Int32) (ph : PH) : RS (ZZ L xs) (d + 1) mX4_compares 67 [u0, u1, u2, u3, u4] [.int t0] ph = if (t0 : Int32) = 0 ∨ (t0 : Int32) = 1 then some (ph, some (.int t0)) else none := by
  exact q_zreturn dX4_compares_67 (show mK mX4_compares 67 [u0, u1, u2, u3, u4] = [none, none, none, none, none] from rfl) rfl
set_option maxRecDepth 20000 in
theorem bX4_compares_68 {L : Nat} {xs : Nat → Int32} (d : Nat) (u0 : Option Value) (l1 : Int64) (l3 : Int64) (ph : PH) : RS (ZZ L xs) (d + 1) mX4_compares 68 [u0, some (.long l1), none, some (.long l3), none] [] ph = if (lg_cmp l1 l3 : Int32) ≤ 0 then RS (ZZ L xs) (d + 1) mX4_compares 79 [none, some (.long l1), none, some (.long l3), none] [.int 0] ph else RS (ZZ L xs) (d + 1) mX4_compares 79 [none, some (.long l1), none, some (.long l3), none] [.int 1] ph := by
  refine Eq.trans (q_lload_n dX4_compares_68 (show mK mX4_compares 68 [u0, some (.long l1), none, some (.long l3), none] = [none, some (.long l1), none, some (.long l3), none] from rfl) rfl) ?_
  refine Eq.trans (q_lload_n dX4_compares_69 (mk0 rfl) rfl) ?_
  refine Eq.trans (q_lcmp dX4_compares_70 (mk0 rfl)) ?_
  refine Eq.trans (q_if_le (t := 78) dX4_compares_71 (mk0 rfl) rfl) (ite_cg ?_ ?_)
  · refine Eq.trans (q_iconst (v := 0) dX4_compares_78 (mk0 rfl) rfl) ?_
    rfl
  · refine Eq.trans (q_iconst (v := 1) dX4_compares_74 (mk0 rfl) rfl) ?_
    refine Eq.trans (q_goto (t := 79) dX4_compares_75 (mk0 rfl) rfl) ?_
    rfl
set_option maxRecDepth 20000 in
theorem bX4_compares_79 {L : Nat} {xs : Nat → Int32} (d : Nat) (u0 : Option Value) (u1 : Option Value) (u2 : Option Value) (u3 : Option Value) (u4 : Option Value) (t0 : Int32) (ph : PH) : RS (ZZ L xs) (d + 1) mX4_compares 79 [u0, u1, u2, u3, u4] [.int t0] ph = if (t0 : Int32) = 0 ∨ (t0 : Int32) = 1 then some (ph, some (.int t0)) else none := by
  exact q_zreturn dX4_compares_79 (show mK mX4_compares 79 [u0, u1, u2, u3, u4] = [none, none, none, none, none] from rfl) rfl
set_option maxRecDepth 20000 in
theorem bX4_compares_80 {L : Nat} {xs : Nat → Int32} (d : Nat) (u0 : Option Value) (l1 : Int64) (l3 : Int64) (ph : PH) : RS (ZZ L xs) (d + 1) mX4_compares 80 [u0, some (.long l1), none, some (.long l3), none] [] ph = if (lg_cmp l1 l3 : Int32) < 0 then RS (ZZ L xs) (d + 1) mX4_compares 91 [none, some (.long l1), none, some (.long l3), none] [.int 0] ph else RS (ZZ L xs) (d + 1) mX4_compares 91 [none, some (.long l1), none, some (.long l3), none] [.int 1] ph := by
  refine Eq.trans (q_lload_n dX4_compares_80 (show mK mX4_compares 80 [u0, some (.long l1), none, some (.long l3), none] = [none, some (.long l1), none, some (.long l3), none] from rfl) rfl) ?_
  refine Eq.trans (q_lload_n dX4_compares_81 (mk0 rfl) rfl) ?_
  refine Eq.trans (q_lcmp dX4_compares_82 (mk0 rfl)) ?_
  refine Eq.trans (q_if_lt (t := 90) dX4_compares_83 (mk0 rfl) rfl) (ite_cg ?_ ?_)
  · refine Eq.trans (q_iconst (v := 0) dX4_compares_90 (mk0 rfl) rfl) ?_
    rfl
  · refine Eq.trans (q_iconst (v := 1) dX4_compares_86 (mk0 rfl) rfl) ?_
    refine Eq.trans (q_goto (t := 91) dX4_compares_87 (mk0 rfl) rfl) ?_
    rfl
set_option maxRecDepth 20000 in
theorem bX4_compares_91 {L : Nat} {xs : Nat → Int32} (d : Nat) (u0 : Option Value) (u1 : Option Value) (u2 : Option Value) (u3 : Option Value) (u4 : Option Value) (t0 : Int32) (ph : PH) : RS (ZZ L xs) (d + 1) mX4_compares 91 [u0, u1, u2, u3, u4] [.int t0] ph = if (t0 : Int32) = 0 ∨ (t0 : Int32) = 1 then some (ph, some (.int t0)) else none := by
  exact q_zreturn dX4_compares_91 (show mK mX4_compares 91 [u0, u1, u2, u3, u4] = [none, none, none, none, none] from rfl) rfl
set_option maxRecDepth 20000 in
theorem bX4_compares_92 {L : Nat} {xs : Nat → Int32} (d : Nat) (u0 : Option Value) (l1 : Int64) (l3 : Int64) (ph : PH) : RS (ZZ L xs) (d + 1) mX4_compares 92 [u0, some (.long l1), none, some (.long l3), none] [] ph = if ¬ (lg_cmp l1 l3 : Int32) = 0 then RS (ZZ L xs) (d + 1) mX4_compares 103 [none, some (.long l1), none, some (.long l3), none] [.int 0] ph else RS (ZZ L xs) (d + 1) mX4_compares 103 [none, some (.long l1), none, some (.long l3), none] [.int 1] ph := by
  refine Eq.trans (q_lload_n dX4_compares_92 (show mK mX4_compares 92 [u0, some (.long l1), none, some (.long l3), none] = [none, some (.long l1), none, some (.long l3), none] from rfl) rfl) ?_
  refine Eq.trans (q_lload_n dX4_compares_93 (mk0 rfl) rfl) ?_
  refine Eq.trans (q_lcmp dX4_compares_94 (mk0 rfl)) ?_
  refine Eq.trans (q_if_ne (t := 102) dX4_compares_95 (mk0 rfl) rfl) (ite_cg ?_ ?_)
  · refine Eq.trans (q_iconst (v := 0) dX4_compares_102 (mk0 rfl) rfl) ?_
    rfl
  · refine Eq.trans (q_iconst (v := 1) dX4_compares_98 (mk0 rfl) rfl) ?_
    refine Eq.trans (q_goto (t := 103) dX4_compares_99 (mk0 rfl) rfl) ?_
    rfl
set_option maxRecDepth 20000 in
theorem bX4_compares_103 {L : Nat} {xs : Nat → Int32} (d : Nat) (u0 : Option Value) (u1 : Option Value) (u2 : Option Value) (u3 : Option Value) (u4 : Option Value) (t0 : Int32) (ph : PH) : RS (ZZ L xs) (d + 1) mX4_compares 103 [u0, u1, u2, u3, u4] [.int t0] ph = if (t0 : Int32) = 0 ∨ (t0 : Int32) = 1 then some (ph, some (.int t0)) else none := by
  exact q_zreturn dX4_compares_103 (show mK mX4_compares 103 [u0, u1, u2, u3, u4] = [none, none, none, none, none] from rfl) rfl
set_option maxRecDepth 20000 in
theorem bX4_sumOf_0 {L : Nat} {xs : Nat → Int32} (d : Nat) (o : Nat) (i1 : Int32) (v2 : Value) (hv2 : isR v2 = true) (ph : PH) : RS (ZZ L xs) (d + 1) mX4_sumOf 0 [some (.ref o), some (.int i1), some (v2), none, none, none, none, none, none, none, none] [] ph = if (i1 : Int32) < 0 then RS (ZZ L xs) (d + 1) mX4_sumOf 12 [some (.ref o), some (.int i1), some (v2), none, none, none, none, none, none, none, none] [] ph else (fI ph (.ref o) 4 3).bind fun x6 => if (i1 : Int32) < x6 then (fR ph (.ref o) 4 4).bind fun x23 => (eI ph x23 i1).bind fun x27 => RS (ZZ L xs) (d + 1) mX4_sumOf 30 [some (.ref o), some (.int i1), some (v2), some (.long 0), none, some (.long 0), none, some (.int 0), some (.int x27), none, none] [] ph else RS (ZZ L xs) (d + 1) mX4_sumOf 12 [some (.ref o), some (.int i1), some (v2), none, none, none, none, none, none, none, none] [] ph := by
  refine Eq.trans (q_iload_n dX4_sumOf_0 (mk0 rfl) rfl) ?_
  refine Eq.trans (q_if_lt (t := 12) dX4_sumOf_1 (mk0 rfl) rfl) (ite_cg ?_ ?_)
  · rfl
  · refine Eq.trans (q_iload_n dX4_sumOf_4 (mk0 rfl) rfl) ?_
    refine Eq.trans (q_aload_n dX4_sumOf_5 (mk0 rfl) rfl rfl) ?_
    refine Eq.trans (q_getI (ci := 4) (k := 3) dX4_sumOf_6 (mk0 rfl) rfl) (bind_cg fun x6 => ?_)
    refine Eq.trans (q_icmp_lt (t := 14) dX4_sumOf_9 (mk0 rfl) rfl) (ite_cg ?_ ?_)
    · refine Eq.trans (q_lconst (v := 0) dX4_sumOf_14 (mk0 rfl) rfl) ?_
      refine Eq.trans (q_lstore_n (lv2 := [some (.ref o), some (.int i1), some (v2), some (.long 0), none, none, none, none, none, none, none]) dX4_sumOf_15 (mk0 rfl) (Nat.le_of_ble_eq_true rfl) (by simp [s1, s2, s0, (cat_R hv2)] <;> rfl)) ?_
      refine Eq.trans (q_lconst (v := 0) dX4_sumOf_16 (mk0 rfl) rfl) ?_
      refine Eq.trans (q_lstore (lv2 := [some (.ref o), some (.int i1), some (v2), some (.long 0), none, some (.long 0), none, none, none, none, none]) dX4_sumOf_17 (mk0 rfl) (Nat.le_of_ble_eq_true rfl) rfl) ?_
      refine Eq.trans (q_iconst (v := 0) dX4_sumOf_19 (mk0 rfl) rfl) ?_
      refine Eq.trans (q_istore (lv2 := [some (.ref o), some (.int i1), some (v2), some (.long 0), none, some (.long 0), none, some (.int 0), none, none, none]) dX4_sumOf_20 (mk0 rfl) (Nat.le_of_ble_eq_true rfl) rfl) ?_
      refine Eq.trans (q_aload_n dX4_sumOf_22 (mk0 rfl) rfl rfl) ?_
      refine Eq.trans (q_getR (ci := 4) (k := 4) dX4_sumOf_23 (mk0 rfl) rfl) (bind_cg2 fun x23 hx23 => ?_)
      have hx23 := fR_isR hx23
      refine Eq.trans (q_iload_n dX4_sumOf_26 (mk0 rfl) rfl) ?_
      refine Eq.trans (q_iaload dX4_sumOf_27 (mk0 rfl) (no_ext hx23)) (bind_cg fun x27 => ?_)
      refine Eq.trans (q_istore (lv2 := [some (.ref o), some (.int i1), some (v2), some (.long 0), none, some (.long 0), none, some (.int 0), some (.int x27), none, none]) dX4_sumOf_28 (mk0 rfl) (Nat.le_of_ble_eq_true rfl) rfl) ?_
      rfl
    · rfl
set_option maxRecDepth 20000 in
theorem bX4_sumOf_12 {L : Nat} {xs : Nat → Int32} (d : Nat) (u0 : Option Value) (u1 : Option Value) (u2 : Option Value) (u3 : Option Value) (u4 : Option Value) (u5 : Option Value) (u6 : Option Value) (u7 : Option Value) (u8 : Option Value) (u9 : Option Value) (u10 : Option Value) (ph : PH) : RS (ZZ L xs) (d + 1) mX4_sumOf 12 [u0, u1, u2, u3, u4, u5, u6, u7, u8, u9, u10] [] ph = some (ph, some (.long 0)) := by
  refine Eq.trans (q_lconst (v := 0) dX4_sumOf_12 (show mK mX4_sumOf 12 [u0, u1, u2, u3, u4, u5, u6, u7, u8, u9, u10] = [none, none, none, none, none, none, none, none, none, none, none] from rfl) rfl) ?_
  exact q_lreturn dX4_sumOf_13 (mk0 rfl) rfl
set_option maxRecDepth 20000 in
theorem bX4_sumOf_30 {L : Nat} {xs : Nat → Int32} (d : Nat) (o : Nat) (i1 : Int32) (v2 : Value) (l3 : Int64) (l5 : Int64) (i7 : Int32) (i8 : Int32) (u9 : Option Value) (u10 : Option Value) (hv2 : isR v2 = true) (ph : PH) : RS (ZZ L xs) (d + 1) mX4_sumOf 30 [some (.ref o), some (.int i1), some (v2), some (.long l3), none, some (.long l5), none, some (.int i7), some (.int i8), u9, u10] [] ph = (fR ph (.ref o) 4 5).bind fun x33 => (eI ph x33 i1).bind fun x37 => if (x37 : Int32) ≤ i8 then if (i7 : Int32) = 0 then RS (ZZ L xs) (d + 1) mX4_sumOf 230 [some (.ref o), some (.int i1), some (v2), some (.long l3), none, some (.long l5), none, some (.int i7), some (.int i8), none, none] [.long (l3 + l5)] ph else RS (ZZ L xs) (d + 1) mX4_sumOf 230 [some (.ref o), some (.int i1), some (v2), some (.long l3), none, some (.long l5), none, some (.int i7), some (.int i8), none, none] [.long (l3 - l5)] ph else (fR ph (.ref o) 4 2).bind fun x42 => (eI ph x42 i8).bind fun x47 => if (0 : Int32) ≤ x47 then (fR ph (.ref o) 4 2).bind fun x67 => (eI ph x67 i8).bind fun x72 => RS (ZZ L xs) (d + 1) mX4_sumOf 74 [some (.ref o), some (.int i1), some (v2), some (.long l3), none, some (.long l5), none, some (.int i7), some (.int i8), none, none] [.long ((x72 : Int32).toInt64)] ph else (fR ph (.ref o) 4 2).bind fun x53 => (eI ph x53 i8).bind fun x58 => (eI ph v2 (x58 ^^^ ((-1)))).bind fun x61 => RS (ZZ L xs) (d + 1) mX4_sumOf 74 [some (.ref o), some (.int i1), some (v2), some (.long l3), none, some (.long l5), none, some (.int i7), some (.int i8), none, none] [.long ((x61 : Int32).toInt64)] ph := by
  refine Eq.trans (q_iload dX4_sumOf_30 (show mK mX4_sumOf 30 [some (.ref o), some (.int i1), some (v2), some (.long l3), none, some (.long l5), none, some (.int i7), some (.int i8), u9, u10] = [some (.ref o), some (.int i1), some (v2), some (.long l3), none, some (.long l5), none, some (.int i7), some (.int i8), none, none] from rfl) rfl) ?_
  refine Eq.trans (q_aload_n dX4_sumOf_32 (mk0 rfl) rfl rfl) ?_
  refine Eq.trans (q_getR (ci := 4) (k := 5) dX4_sumOf_33 (mk0 rfl) rfl) (bind_cg2 fun x33 hx33 => ?_)
  have hx33 := fR_isR hx33
  refine Eq.trans (q_iload_n dX4_sumOf_36 (mk0 rfl) rfl) ?_
  refine Eq.trans (q_iaload dX4_sumOf_37 (mk0 rfl) (no_ext hx33)) (bind_cg fun x37 => ?_)
  refine Eq.trans (q_icmp_ge (t := 214) dX4_sumOf_38 (mk0 rfl) rfl) (ite_cg ?_ ?_)
  · refine Eq.trans (q_iload dX4_sumOf_214 (mk0 rfl) rfl) ?_
    refine Eq.trans (q_if_eq (t := 226) dX4_sumOf_216 (mk0 rfl) rfl) (ite_cg ?_ ?_)
    · refine Eq.trans (q_lload_n dX4_sumOf_226 (mk0 rfl) rfl) ?_
      refine Eq.trans (q_lload dX4_sumOf_227 (mk0 rfl) rfl) ?_
      refine Eq.trans (q_ladd dX4_sumOf_229 (mk0 rfl)) ?_
      rfl
    · refine Eq.trans (q_lload_n dX4_sumOf_219 (mk0 rfl) rfl) ?_
      refine Eq.trans (q_lload dX4_sumOf_220 (mk0 rfl) rfl) ?_
      refine Eq.trans (q_lsub dX4_sumOf_222 (mk0 rfl)) ?_
      refine Eq.trans (q_goto (t := 230) dX4_sumOf_223 (mk0 rfl) rfl) ?_
      rfl
  · refine Eq.trans (q_aload_n dX4_sumOf_41 (mk0 rfl) rfl rfl) ?_
    refine Eq.trans (q_getR (ci := 4) (k := 2) dX4_sumOf_42 (mk0 rfl) rfl) (bind_cg2 fun x42 hx42 => ?_)
    have hx42 := fR_isR hx42
    refine Eq.trans (q_iload dX4_sumOf_45 (mk0 rfl) rfl) ?_
    refine Eq.trans (q_iaload dX4_sumOf_47 (mk0 rfl) (no_ext hx42)) (bind_cg fun x47 => ?_)
    refine Eq.trans (q_if_ge (t := 66) dX4_sumOf_48 (mk0 rfl) rfl) (ite_cg ?_ ?_)
    · refine Eq.trans (q_aload_n dX4_sumOf_66 (mk0 rfl) rfl rfl) ?_
      refine Eq.trans (q_getR (ci := 4) (k := 2) dX4_sumOf_67 (mk0 rfl) rfl) (bind_cg2 fun x67 hx67 => ?_)
      have hx67 := fR_isR hx67
      refine Eq.trans (q_iload dX4_sumOf_70 (mk0 rfl) rfl) ?_
      refine Eq.trans (q_iaload dX4_sumOf_72 (mk0 rfl) (no_ext hx67)) (bind_cg fun x72 => ?_)
      refine Eq.trans (q_i2l dX4_sumOf_73 (mk0 rfl)) ?_
      rfl
    · refine Eq.trans (q_aload_n dX4_sumOf_51 (mk0 rfl) rfl (isA_R hv2)) ?_
      refine Eq.trans (q_aload_n dX4_sumOf_52 (mk0 rfl) rfl rfl) ?_
      refine Eq.trans (q_getR (ci := 4) (k := 2) dX4_sumOf_53 (mk0 rfl) rfl) (bind_cg2 fun x53 hx53 => ?_)
      have hx53 := fR_isR hx53
      refine Eq.trans (q_iload dX4_sumOf_56 (mk0 rfl) rfl) ?_
      refine Eq.trans (q_iaload dX4_sumOf_58 (mk0 rfl) (no_ext hx53)) (bind_cg fun x58 => ?_)
      refine Eq.trans (q_iconst (v := (-1)) dX4_sumOf_59 (mk0 rfl) rfl) ?_
      refine Eq.trans (q_ixor dX4_sumOf_60 (mk0 rfl)) ?_
      refine Eq.trans (q_iaload dX4_sumOf_61 (mk0 rfl) (no_ext hv2)) (bind_cg fun x61 => ?_)
      refine Eq.trans (q_i2l dX4_sumOf_62 (mk0 rfl)) ?_
      refine Eq.trans (q_goto (t := 74) dX4_sumOf_63 (mk0 rfl) rfl) ?_
      rfl
set_option maxRecDepth 20000 in
theorem bX4_sumOf_74 {L : Nat} {xs : Nat → Int32} (d : Nat) (o : Nat) (i1 : Int32) (v2 : Value) (l3 : Int64) (l5 : Int64) (i7 : Int32) (i8 : Int32) (u9 : Option Value) (u10 : Option Value) (t0 : Int64) (hv2 : isR v2 = true) (ph : PH) : RS (ZZ L xs) (d + 1) mX4_sumOf 74 [some (.ref o), some (.int i1), some (v2), some (.long l3), none, some (.long l5), none, some (.int i7), some (.int i8), u9, u10] [.long t0] ph = (fR ph (.ref o) 4 1).bind fun x77 => (eI ph x77 i8).bind fun x82 => if (x82 : Int32) = 37 then RS (ZZ L xs) (d + 1) mX4_sumOf 147 [some (.ref o), some (.int i1), some (v2), some (.long l3), none, some (.long l5), none, some (.int i7), some (.int i8), some (.long t0), none] [] ph else if (x82 : Int32) = 42 then RS (ZZ L xs) (d + 1) mX4_sumOf 116 [some (.ref o), some (.int i1), some (v2), some (.long l3), none, some (.long l5), none, some (.int i7), some (.int i8), some (.long t0), none] [] ph else if (x82 : Int32) = 47 then RS (ZZ L xs) (d + 1) mX4_sumOf 126 [some (.ref o), some (.int i1), some (v2), some (.long l3), none, some (.long l5), none, some (.int i7), some (.int i8), some (.long t0), none] [] ph else RS (ZZ L xs) (d + 1) mX4_sumOf 168 [some (.ref o), some (.int i1), some (v2), some (.long l3), none, some (.long l5), none, some (.int i7), some (.int i8), some (.long t0), none] [] ph := by
  refine Eq.trans (q_lstore (lv2 := [some (.ref o), some (.int i1), some (v2), some (.long l3), none, some (.long l5), none, some (.int i7), some (.int i8), some (.long t0), none]) dX4_sumOf_74 (show mK mX4_sumOf 74 [some (.ref o), some (.int i1), some (v2), some (.long l3), none, some (.long l5), none, some (.int i7), some (.int i8), u9, u10] = [some (.ref o), some (.int i1), some (v2), some (.long l3), none, some (.long l5), none, some (.int i7), some (.int i8), none, none] from rfl) (Nat.le_of_ble_eq_true rfl) rfl) ?_
  refine Eq.trans (q_aload_n dX4_sumOf_76 (mk0 rfl) rfl rfl) ?_
  refine Eq.trans (q_getR (ci := 4) (k := 1) dX4_sumOf_77 (mk0 rfl) rfl) (bind_cg2 fun x77 hx77 => ?_)
  have hx77 := fR_isR hx77
  refine Eq.trans (q_iload dX4_sumOf_80 (mk0 rfl) rfl) ?_
  refine Eq.trans (q_iaload dX4_sumOf_82 (mk0 rfl) (no_ext hx77)) (bind_cg fun x82 => ?_)
  refine Eq.trans (q_lookupswitch dX4_sumOf_83 (mk0 rfl) rfl) ?_
  generalize (x82 : Int32) = y83
  by_cases hy37 : y83 = 37
  · rw [if_pos hy37, hy37]; rfl
  rw [if_neg hy37]
  by_cases hy42 : y83 = 42
  · rw [if_pos hy42, hy42]; rfl
  rw [if_neg hy42]
  by_cases hy47 : y83 = 47
  · rw [if_pos hy47, hy47]; rfl
  rw [if_neg hy47]
  have ny37 := i32_ne hy37 (n := 37) rfl
  have ny42 := i32_ne hy42 (n := 42) rfl
  have ny47 := i32_ne hy47 (n := 47) rfl
  simp only [Op.lookupswitch.offset, ny37.symm, ny42.symm, ny47.symm, if_false]
  rfl
set_option maxRecDepth 20000 in
theorem bX4_sumOf_116 {L : Nat} {xs : Nat → Int32} (d : Nat) (o : Nat) (i1 : Int32) (v2 : Value) (l3 : Int64) (l5 : Int64) (i7 : Int32) (i8 : Int32) (l9 : Int64) (hv2 : isR v2 = true) (ph : PH) : RS (ZZ L xs) (d + 1) mX4_sumOf 116 [some (.ref o), some (.int i1), some (v2), some (.long l3), none, some (.long l5), none, some (.int i7), some (.int i8), some (.long l9), none] [] ph = RS (ZZ L xs) (d + 1) mX4_sumOf 208 [some (.ref o), some (.int i1), some (v2), some (.long l3), none, some (.long (l5 * l9)), none, some (.int i7), some (.int i8), some (.long l9), none] [] ph := by
  refine Eq.trans (q_lload dX4_sumOf_116 (mk0 rfl) rfl) ?_
  refine Eq.trans (q_lload dX4_sumOf_118 (mk0 rfl) rfl) ?_
  refine Eq.trans (q_lmul dX4_sumOf_120 (mk0 rfl)) ?_
  refine Eq.trans (q_lstore (lv2 := [some (.ref o), some (.int i1), some (v2), some (.long l3), none, some (.long (l5 * l9)), none, some (.int i7), some (.int i8), some (.long l9), none]) dX4_sumOf_121 (mk0 rfl) (Nat.le_of_ble_eq_true rfl) rfl) ?_
  refine Eq.trans (q_goto (t := 208) dX4_sumOf_123 (mk0 rfl) rfl) ?_
  rfl
set_option maxRecDepth 20000 in
theorem bX4_sumOf_126 {L : Nat} {xs : Nat → Int32} (d : Nat) (o : Nat) (i1 : Int32) (v2 : Value) (l3 : Int64) (l5 : Int64) (i7 : Int32) (i8 : Int32) (l9 : Int64) (hv2 : isR v2 = true) (ph : PH) : RS (ZZ L xs) (d + 1) mX4_sumOf 126 [some (.ref o), some (.int i1), some (v2), some (.long l3), none, some (.long l5), none, some (.int i7), some (.int i8), some (.long l9), none] [] ph = if ¬ (lg_cmp l9 0 : Int32) = 0 then if (l9 : Int64) = 0 then none else RS (ZZ L xs) (d + 1) mX4_sumOf 142 [some (.ref o), some (.int i1), some (v2), some (.long l3), none, some (.long l5), none, some (.int i7), some (.int i8), some (.long l9), none] [.long (l5 / l9)] ph else RS (ZZ L xs) (d + 1) mX4_sumOf 142 [some (.ref o), some (.int i1), some (v2), some (.long l3), none, some (.long l5), none, some (.int i7), some (.int i8), some (.long l9), none] [.long 0] ph := by
  refine Eq.trans (q_lload dX4_sumOf_126 (mk0 rfl) rfl) ?_
  refine Eq.trans (q_lconst (v := 0) dX4_sumOf_128 (mk0 rfl) rfl) ?_
  refine Eq.trans (q_lcmp dX4_sumOf_129 (mk0 rfl)) ?_
  refine Eq.trans (q_if_ne (t := 137) dX4_sumOf_130 (mk0 rfl) rfl) (ite_cg ?_ ?_)
  · refine Eq.trans (q_lload dX4_sumOf_137 (mk0 rfl) rfl) ?_
    refine Eq.trans (q_lload dX4_sumOf_139 (mk0 rfl) rfl) ?_
    refine Eq.trans (q_ldiv dX4_sumOf_141 (mk0 rfl)) (ite_cg rfl ?_)
    rfl
  · refine Eq.trans (q_lconst (v := 0) dX4_sumOf_133 (mk0 rfl) rfl) ?_
    refine Eq.trans (q_goto (t := 142) dX4_sumOf_134 (mk0 rfl) rfl) ?_
    rfl
set_option maxRecDepth 20000 in
theorem bX4_sumOf_142 {L : Nat} {xs : Nat → Int32} (d : Nat) (o : Nat) (i1 : Int32) (v2 : Value) (l3 : Int64) (u5 : Option Value) (u6 : Option Value) (i7 : Int32) (i8 : Int32) (u9 : Option Value) (u10 : Option Value) (t0 : Int64) (hv2 : isR v2 = true) (ph : PH) : RS (ZZ L xs) (d + 1) mX4_sumOf 142 [some (.ref o), some (.int i1), some (v2), some (.long l3), none, u5, u6, some (.int i7), some (.int i8), u9, u10] [.long t0] ph = RS (ZZ L xs) (d + 1) mX4_sumOf 208 [some (.ref o), some (.int i1), some (v2), some (.long l3), none, some (.long t0), none, some (.int i7), some (.int i8), none, none] [] ph := by
  refine Eq.trans (q_lstore (lv2 := [some (.ref o), some (.int i1), some (v2), some (.long l3), none, some (.long t0), none, some (.int i7), some (.int i8), none, none]) dX4_sumOf_142 (show mK mX4_sumOf 142 [some (.ref o), some (.int i1), some (v2), some (.long l3), none, u5, u6, some (.int i7), some (.int i8), u9, u10] = [some (.ref o), some (.int i1), some (v2), some (.long l3), none, none, none, some (.int i7), some (.int i8), none, none] from rfl) (Nat.le_of_ble_eq_true rfl) rfl) ?_
  refine Eq.trans (q_goto (t := 208) dX4_sumOf_144 (mk0 rfl) rfl) ?_
  rfl
set_option maxRecDepth 20000 in
theorem bX4_sumOf_147 {L : Nat} {xs : Nat → Int32} (d : Nat) (o : Nat) (i1 : Int32) (v2 : Value) (l3 : Int64) (l5 : Int64) (i7 : Int32) (i8 : Int32) (l9 : Int64) (hv2 : isR v2 = true) (ph : PH) : RS (ZZ L xs) (d + 1) mX4_sumOf 147 [some (.ref o), some (.int i1), some (v2), some (.long l3), none, some (.long l5), none, some (.int i7), some (.int i8), some (.long l9), none] [] ph = if ¬ (lg_cmp l9 0 : Int32) = 0 then if (l9 : Int64) = 0 then none else RS (ZZ L xs) (d + 1) mX4_sumOf 163 [some (.ref o), some (.int i1), some (v2), some (.long l3), none, some (.long l5), none, some (.int i7), some (.int i8), some (.long l9), none] [.long (lRem l5 l9)] ph else RS (ZZ L xs) (d + 1) mX4_sumOf 163 [some (.ref o), some (.int i1), some (v2), some (.long l3), none, some (.long l5), none, some (.int i7), some (.int i8), some (.long l9), none] [.long 0] ph := by
  refine Eq.trans (q_lload dX4_sumOf_147 (mk0 rfl) rfl) ?_
  refine Eq.trans (q_lconst (v := 0) dX4_sumOf_149 (mk0 rfl) rfl) ?_
  refine Eq.trans (q_lcmp dX4_sumOf_150 (mk0 rfl)) ?_
  refine Eq.trans (q_if_ne (t := 158) dX4_sumOf_151 (mk0 rfl) rfl) (ite_cg ?_ ?_)
  · refine Eq.trans (q_lload dX4_sumOf_158 (mk0 rfl) rfl) ?_
    refine Eq.trans (q_lload dX4_sumOf_160 (mk0 rfl) rfl) ?_
    refine Eq.trans (q_lrem dX4_sumOf_162 (mk0 rfl)) (ite_cg rfl ?_)
    rfl
  · refine Eq.trans (q_lconst (v := 0) dX4_sumOf_154 (mk0 rfl) rfl) ?_
    refine Eq.trans (q_goto (t := 163) dX4_sumOf_155 (mk0 rfl) rfl) ?_
    rfl
set_option maxRecDepth 20000 in
theorem bX4_sumOf_163 {L : Nat} {xs : Nat → Int32} (d : Nat) (o : Nat) (i1 : Int32) (v2 : Value) (l3 : Int64) (u5 : Option Value) (u6 : Option Value) (i7 : Int32) (i8 : Int32) (u9 : Option Value) (u10 : Option Value) (t0 : Int64) (hv2 : isR v2 = true) (ph : PH) : RS (ZZ L xs) (d + 1) mX4_sumOf 163 [some (.ref o), some (.int i1), some (v2), some (.long l3), none, u5, u6, some (.int i7), some (.int i8), u9, u10] [.long t0] ph = RS (ZZ L xs) (d + 1) mX4_sumOf 208 [some (.ref o), some (.int i1), some (v2), some (.long l3), none, some (.long t0), none, some (.int i7), some (.int i8), none, none] [] ph := by
  refine Eq.trans (q_lstore (lv2 := [some (.ref o), some (.int i1), some (v2), some (.long l3), none, some (.long t0), none, some (.int i7), some (.int i8), none, none]) dX4_sumOf_163 (show mK mX4_sumOf 163 [some (.ref o), some (.int i1), some (v2), some (.long l3), none, u5, u6, some (.int i7), some (.int i8), u9, u10] = [some (.ref o), some (.int i1), some (v2), some (.long l3), none, none, none, some (.int i7), some (.int i8), none, none] from rfl) (Nat.le_of_ble_eq_true rfl) rfl) ?_
  refine Eq.trans (q_goto (t := 208) dX4_sumOf_165 (mk0 rfl) rfl) ?_
  rfl
set_option maxRecDepth 20000 in
theorem bX4_sumOf_168 {L : Nat} {xs : Nat → Int32} (d : Nat) (o : Nat) (i1 : Int32) (v2 : Value) (l3 : Int64) (l5 : Int64) (i7 : Int32) (i8 : Int32) (l9 : Int64) (hv2 : isR v2 = true) (ph : PH) : RS (ZZ L xs) (d + 1) mX4_sumOf 168 [some (.ref o), some (.int i1), some (v2), some (.long l3), none, some (.long l5), none, some (.int i7), some (.int i8), some (.long l9), none] [] ph = if (i7 : Int32) = 0 then RS (ZZ L xs) (d + 1) mX4_sumOf 184 [some (.ref o), some (.int i1), some (v2), some (.long l3), none, some (.long l5), none, some (.int i7), some (.int i8), some (.long l9), none] [.long (l3 + l5)] ph else RS (ZZ L xs) (d + 1) mX4_sumOf 184 [some (.ref o), some (.int i1), some (v2), some (.long l3), none, some (.long l5), none, some (.int i7), some (.int i8), some (.long l9), none] [.long (l3 - l5)] ph := by
  refine Eq.trans (q_iload dX4_sumOf_168 (mk0 rfl) rfl) ?_
  refine Eq.trans (q_if_eq (t := 180) dX4_sumOf_170 (mk0 rfl) rfl) (ite_cg ?_ ?_)
  · refine Eq.trans (q_lload_n dX4_sumOf_180 (mk0 rfl) rfl) ?_
    refine Eq.trans (q_lload dX4_sumOf_181 (mk0 rfl) rfl) ?_
    refine Eq.trans (q_ladd dX4_sumOf_183 (mk0 rfl)) ?_
    rfl
  · refine Eq.trans (q_lload_n dX4_sumOf_173 (mk0 rfl) rfl) ?_
    refine Eq.trans (q_lload dX4_sumOf_174 (mk0 rfl) rfl) ?_
    refine Eq.trans (q_lsub dX4_sumOf_176 (mk0 rfl)) ?_
    refine Eq.trans (q_goto (t := 184) dX4_sumOf_177 (mk0 rfl) rfl) ?_
    rfl
set_option maxRecDepth 20000 in
theorem bX4_sumOf_184 {L : Nat} {xs : Nat → Int32} (d : Nat) (o : Nat) (i1 : Int32) (v2 : Value) (u3 : Option Value) (u4 : Option Value) (u5 : Option Value) (u6 : Option Value) (u7 : Option Value) (i8 : Int32) (l9 : Int64) (t0 : Int64) (hv2 : isR v2 = true) (ph : PH) : RS (ZZ L xs) (d + 1) mX4_sumOf 184 [some (.ref o), some (.int i1), some (v2), u3, u4, u5, u6, u7, some (.int i8), some (.long l9), none] [.long t0] ph = (fR ph (.ref o) 4 1).bind fun x186 => (eI ph x186 i8).bind fun x191 => if ¬ (x191 : Int32) = 45 then RS (ZZ L xs) (d + 1) mX4_sumOf 202 [some (.ref o), some (.int i1), some (v2), some (.long t0), none, none, none, none, some (.int i8), some (.long l9), none] [.int 0] ph else RS (ZZ L xs) (d + 1) mX4_sumOf 202 [some (.ref o), some (.int i1), some (v2), some (.long t0), none, none, none, none, some (.int i8), some (.long l9), none] [.int 1] ph := by
  refine Eq.trans (q_lstore_n (lv2 := [some (.ref o), some (.int i1), some (v2), some (.long t0), none, none, none, none, some (.int i8), some (.long l9), none]) dX4_sumOf_184 (show mK mX4_sumOf 184 [some (.ref o), some (.int i1), some (v2), u3, u4, u5, u6, u7, some (.int i8), some (.long l9), none] = [some (.ref o), some (.int i1), some (v2), none, none, none, none, none, some (.int i8), some (.long l9), none] from rfl) (Nat.le_of_ble_eq_true rfl) (by simp [s1, s2, s0, (cat_R hv2)] <;> rfl)) ?_
  refine Eq.trans (q_aload_n dX4_sumOf_185 (mk0 rfl) rfl rfl) ?_
  refine Eq.trans (q_getR (ci := 4) (k := 1) dX4_sumOf_186 (mk0 rfl) rfl) (bind_cg2 fun x186 hx186 => ?_)
  have hx186 := fR_isR hx186
  refine Eq.trans (q_iload dX4_sumOf_189 (mk0 rfl) rfl) ?_
  refine Eq.trans (q_iaload dX4_sumOf_191 (mk0 rfl) (no_ext hx186)) (bind_cg fun x191 => ?_)
  refine Eq.trans (q_bipush (v := 45) dX4_sumOf_192 (mk0 rfl) rfl) ?_
  refine Eq.trans (q_icmp_ne (t := 201) dX4_sumOf_194 (mk0 rfl) rfl) (ite_cg ?_ ?_)
  · refine Eq.trans (q_iconst (v := 0) dX4_sumOf_201 (mk0 rfl) rfl) ?_
    rfl
  · refine Eq.trans (q_iconst (v := 1) dX4_sumOf_197 (mk0 rfl) rfl) ?_
    refine Eq.trans (q_goto (t := 202) dX4_sumOf_198 (mk0 rfl) rfl) ?_
    rfl
set_option maxRecDepth 20000 in
theorem bX4_sumOf_202 {L : Nat} {xs : Nat → Int32} (d : Nat) (o : Nat) (i1 : Int32) (v2 : Value) (l3 : Int64) (u5 : Option Value) (u6 : Option Value) (u7 : Option Value) (i8 : Int32) (l9 : Int64) (t0 : Int32) (hv2 : isR v2 = true) (ph : PH) : RS (ZZ L xs) (d + 1) mX4_sumOf 202 [some (.ref o), some (.int i1), some (v2), some (.long l3), none, u5, u6, u7, some (.int i8), some (.long l9), none] [.int t0] ph = RS (ZZ L xs) (d + 1) mX4_sumOf 208 [some (.ref o), some (.int i1), some (v2), some (.long l3), none, some (.long l9), none, some (.int t0), some (.int i8), some (.long l9), none] [] ph := by
  refine Eq.trans (q_istore (lv2 := [some (.ref o), some (.int i1), some (v2), some (.long l3), none, none, none, some (.int t0), some (.int i8), some (.long l9), none]) dX4_sumOf_202 (show mK mX4_sumOf 202 [some (.ref o), some (.int i1), some (v2), some (.long l3), none, u5, u6, u7, some (.int i8), some (.long l9), none] = [some (.ref o), some (.int i1), some (v2), some (.long l3), none, none, none, none, some (.int i8), some (.long l9), none] from rfl) (Nat.le_of_ble_eq_true rfl) rfl) ?_
  refine Eq.trans (q_lload dX4_sumOf_204 (mk0 rfl) rfl) ?_
  refine Eq.trans (q_lstore (lv2 := [some (.ref o), some (.int i1), some (v2), some (.long l3), none, some (.long l9), none, some (.int t0), some (.int i8), some (.long l9), none]) dX4_sumOf_206 (mk0 rfl) (Nat.le_of_ble_eq_true rfl) rfl) ?_
  rfl
set_option maxRecDepth 20000 in
theorem bX4_sumOf_208 {L : Nat} {xs : Nat → Int32} (d : Nat) (o : Nat) (i1 : Int32) (v2 : Value) (l3 : Int64) (l5 : Int64) (i7 : Int32) (i8 : Int32) (u9 : Option Value) (u10 : Option Value) (hv2 : isR v2 = true) (ph : PH) : RS (ZZ L xs) (d + 1) mX4_sumOf 208 [some (.ref o), some (.int i1), some (v2), some (.long l3), none, some (.long l5), none, some (.int i7), some (.int i8), u9, u10] [] ph = RS (ZZ L xs) (d + 1) mX4_sumOf 30 [some (.ref o), some (.int i1), some (v2), some (.long l3), none, some (.long l5), none, some (.int i7), some (.int (i8 + 1)), none, none] [] ph := by
  refine Eq.trans (q_iinc (v := 1) (lv2 := [some (.ref o), some (.int i1), some (v2), some (.long l3), none, some (.long l5), none, some (.int i7), some (.int (i8 + 1)), none, none]) dX4_sumOf_208 (show mK mX4_sumOf 208 [some (.ref o), some (.int i1), some (v2), some (.long l3), none, some (.long l5), none, some (.int i7), some (.int i8), u9, u10] = [some (.ref o), some (.int i1), some (v2), some (.long l3), none, some (.long l5), none, some (.int i7), some (.int i8), none, none] from rfl) rfl rfl rfl) ?_
  refine Eq.trans (q_goto (t := 30) dX4_sumOf_211 (mk0 rfl) rfl) ?_
  rfl
set_option maxRecDepth 20000 in
theorem bX4_sumOf_230 {L : Nat} {xs : Nat → Int32} (d : Nat) (u0 : Option Value) (u1 : Option Value) (u2 : Option Value) (u3 : Option Value) (u4 : Option Value) (u5 : Option Value) (u6 : Option Value) (u7 : Option Value) (u8 : Option Value) (u9 : Option Value) (u10 : Option Value) (t0 : Int64) (ph : PH) : RS (ZZ L xs) (d + 1) mX4_sumOf 230 [u0, u1, u2, u3, u4, u5, u6, u7, u8, u9, u10] [.long t0] ph = some (ph, some (.long t0)) := by
  exact q_lreturn dX4_sumOf_230 (show mK mX4_sumOf 230 [u0, u1, u2, u3, u4, u5, u6, u7, u8, u9, u10] = [none, none, none, none, none, none, none, none, none, none, none] from rfl) rfl
