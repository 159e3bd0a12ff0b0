set_option maxRecDepth 20000 in
theorem bX13_greatestBy_4 {L : Nat} {xs : Nat → Int32} (d : Nat) (o : Nat) (i1 : Int32) (i2 : Int32) (i3 : Int32) (ph : PH) : RS (ZZ L xs) (d + 1) mX13_greatestBy 4 [some (.ref o), some (.int i1), some (.int i2), some (.int i3)] [] ph = (fR ph (.ref o) 13 1).bind fun x6 => (eI ph x6 0).bind fun x10 => if (x10 : Int32) ≤ i3 then some (ph, some (.int i2)) else (fR ph (.ref o) 13 9).bind fun x15 => (eI ph x15 i1).bind fun x19 => (cI (ZZ L xs) d mX13_has [.int x19, .int i3] ph).bind fun p21 => if (p21.2 : Int32) = 0 then RS (ZZ L xs) (d + 1) mX13_greatestBy 32 [some (.ref o), some (.int i1), some (.int i2), some (.int i3)] [.int i2] p21.1 else RS (ZZ L xs) (d + 1) mX13_greatestBy 32 [some (.ref o), some (.int i1), some (.int i2), some (.int i3)] [.int i3] p21.1 := by
  refine Eq.trans (q_iload_n dX13_greatestBy_4 (mk0 rfl) rfl) ?_
  refine Eq.trans (q_aload_n dX13_greatestBy_5 (mk0 rfl) rfl rfl) ?_
  refine Eq.trans (q_getR (ci := 13) (k := 1) dX13_greatestBy_6 (mk0 rfl) rfl) (bind_cg2 fun x6 hx6 => ?_)
  have hx6 := fR_isR hx6
  refine Eq.trans (q_iconst (v := 0) dX13_greatestBy_9 (mk0 rfl) rfl) ?_
  refine Eq.trans (q_iaload dX13_greatestBy_10 (mk0 rfl) (no_ext hx6)) (bind_cg fun x10 => ?_)
  refine Eq.trans (q_icmp_ge (t := 39) dX13_greatestBy_11 (mk0 rfl) rfl) (ite_cg ?_ ?_)
  · refine Eq.trans (q_iload_n dX13_greatestBy_39 (mk0 rfl) rfl) ?_
    exact q_ireturn dX13_greatestBy_40 (mk0 rfl) rfl
  · refine Eq.trans (q_aload_n dX13_greatestBy_14 (mk0 rfl) rfl rfl) ?_
    refine Eq.trans (q_getR (ci := 13) (k := 9) dX13_greatestBy_15 (mk0 rfl) rfl) (bind_cg2 fun x15 hx15 => ?_)
    have hx15 := fR_isR hx15
    refine Eq.trans (q_iload_n dX13_greatestBy_18 (mk0 rfl) rfl) ?_
    refine Eq.trans (q_iaload dX13_greatestBy_19 (mk0 rfl) (no_ext hx15)) (bind_cg fun x19 => ?_)
    refine Eq.trans (q_iload_n dX13_greatestBy_20 (mk0 rfl) rfl) ?_
    refine Eq.trans (q_callS (as := [.int x19, .int i3]) dX13_greatestBy_21 (mk0 rfl) rfl (Or.inl rfl) rfl rfl (Nat.le_of_ble_eq_true rfl) (Nat.le_of_ble_eq_true rfl)) ?_
    refine Eq.trans (cI_bind (Or.inr rfl)) (bind_cg fun p21 => ?_)
    show RS (ZZ L xs) (d + 1) mX13_greatestBy 24 [some (.ref o), some (.int i1), some (.int i2), some (.int i3)] [.int p21.2] p21.1 = _
    refine Eq.trans (q_if_eq (t := 31) dX13_greatestBy_24 (mk0 rfl) rfl) (ite_cg ?_ ?_)
    · refine Eq.trans (q_iload_n dX13_greatestBy_31 (mk0 rfl) rfl) ?_
      rfl
    · refine Eq.trans (q_iload_n dX13_greatestBy_27 (mk0 rfl) rfl) ?_
      refine Eq.trans (q_goto (t := 32) dX13_greatestBy_28 (mk0 rfl) rfl) ?_
      rfl
set_option maxRecDepth 20000 in
theorem bX13_greatestBy_32 {L : Nat} {xs : Nat → Int32} (d : Nat) (o : Nat) (i1 : Int32) (u2 : Option Value) (i3 : Int32) (t0 : Int32) (ph : PH) : RS (ZZ L xs) (d + 1) mX13_greatestBy 32 [some (.ref o), some (.int i1), u2, some (.int i3)] [.int t0] ph = RS (ZZ L xs) (d + 1) mX13_greatestBy 4 [some (.ref o), some (.int i1), some (.int t0), some (.int (i3 + 1))] [] ph := by
  refine Eq.trans (q_istore_n (lv2 := [some (.ref o), some (.int i1), some (.int t0), some (.int i3)]) dX13_greatestBy_32 (show mK mX13_greatestBy 32 [some (.ref o), some (.int i1), u2, some (.int i3)] = [some (.ref o), some (.int i1), none, some (.int i3)] from rfl) (Nat.le_of_ble_eq_true rfl) rfl) ?_
  refine Eq.trans (q_iinc (v := 1) (lv2 := [some (.ref o), some (.int i1), some (.int t0), some (.int (i3 + 1))]) dX13_greatestBy_33 (mk0 rfl) rfl rfl rfl) ?_
  refine Eq.trans (q_goto (t := 4) dX13_greatestBy_36 (mk0 rfl) rfl) ?_
  rfl
set_option maxRecDepth 20000 in
theorem bX13_allAsked_0 {L : Nat} {xs : Nat → Int32} (d : Nat) (o : Nat) (ph : PH) : RS (ZZ L xs) (d + 1) mX13_allAsked 0 [some (.ref o), none, none] [] ph = RS (ZZ L xs) (d + 1) mX13_allAsked 4 [some (.ref o), some (.int 0), some (.int 0)] [] ph := by
  refine Eq.trans (q_iconst (v := 0) dX13_allAsked_0 (mk0 rfl) rfl) ?_
  refine Eq.trans (q_istore_n (lv2 := [some (.ref o), some (.int 0), none]) dX13_allAsked_1 (mk0 rfl) (Nat.le_of_ble_eq_true rfl) rfl) ?_
  refine Eq.trans (q_iconst (v := 0) dX13_allAsked_2 (mk0 rfl) rfl) ?_
  refine Eq.trans (q_istore_n (lv2 := [some (.ref o), some (.int 0), some (.int 0)]) dX13_allAsked_3 (mk0 rfl) (Nat.le_of_ble_eq_true rfl) rfl) ?_
  rfl
set_option maxRecDepth 20000 in
theorem bX13_allAsked_4 {L : Nat} {xs : Nat → Int32} (d : Nat) (o : Nat) (i1 : Int32) (i2 : Int32) (ph : PH) : RS (ZZ L xs) (d + 1) mX13_allAsked 4 [some (.ref o), some (.int i1), some (.int i2)] [] ph = (fR ph (.ref o) 13 1).bind fun x6 => (eI ph x6 2).bind fun x10 => if (x10 : Int32) ≤ i2 then some (ph, some (.int i1)) else (fR ph (.ref o) 13 5).bind fun x16 => (eI ph x16 i2).bind fun x20 => RS (ZZ L xs) (d + 1) mX13_allAsked 4 [some (.ref o), some (.int (i1 + x20)), some (.int (i2 + 1))] [] ph := by
  refine Eq.trans (q_iload_n dX13_allAsked_4 (mk0 rfl) rfl) ?_
  refine Eq.trans (q_aload_n dX13_allAsked_5 (mk0 rfl) rfl rfl) ?_
  refine Eq.trans (q_getR (ci := 13) (k := 1) dX13_allAsked_6 (mk0 rfl) rfl) (bind_cg2 fun x6 hx6 => ?_)
  have hx6 := fR_isR hx6
  refine Eq.trans (q_iconst (v := 2) dX13_allAsked_9 (mk0 rfl) rfl) ?_
  refine Eq.trans (q_iaload dX13_allAsked_10 (mk0 rfl) (no_ext hx6)) (bind_cg fun x10 => ?_)
  refine Eq.trans (q_icmp_ge (t := 29) dX13_allAsked_11 (mk0 rfl) rfl) (ite_cg ?_ ?_)
  · refine Eq.trans (q_iload_n dX13_allAsked_29 (mk0 rfl) rfl) ?_
    exact q_ireturn dX13_allAsked_30 (mk0 rfl) rfl
  · refine Eq.trans (q_iload_n dX13_allAsked_14 (mk0 rfl) rfl) ?_
    refine Eq.trans (q_aload_n dX13_allAsked_15 (mk0 rfl) rfl rfl) ?_
    refine Eq.trans (q_getR (ci := 13) (k := 5) dX13_allAsked_16 (mk0 rfl) rfl) (bind_cg2 fun x16 hx16 => ?_)
    have hx16 := fR_isR hx16
    refine Eq.trans (q_iload_n dX13_allAsked_19 (mk0 rfl) rfl) ?_
    refine Eq.trans (q_iaload dX13_allAsked_20 (mk0 rfl) (no_ext hx16)) (bind_cg fun x20 => ?_)
    refine Eq.trans (q_iadd dX13_allAsked_21 (mk0 rfl)) ?_
    refine Eq.trans (q_istore_n (lv2 := [some (.ref o), some (.int (i1 + x20)), some (.int i2)]) dX13_allAsked_22 (mk0 rfl) (Nat.le_of_ble_eq_true rfl) rfl) ?_
    refine Eq.trans (q_iinc (v := 1) (lv2 := [some (.ref o), some (.int (i1 + x20)), some (.int (i2 + 1))]) dX13_allAsked_23 (mk0 rfl) rfl rfl rfl) ?_
    refine Eq.trans (q_goto (t := 4) dX13_allAsked_26 (mk0 rfl) rfl) ?_
    rfl
set_option maxRecDepth 20000 in
theorem bX13_howManyAt_0 {L : Nat} {xs : Nat → Int32} (d : Nat) (o : Nat) (i1 : Int32) (ph : PH) : RS (ZZ L xs) (d + 1) mX13_howManyAt 0 [some (.ref o), some (.int i1), none, none] [] ph = RS (ZZ L xs) (d + 1) mX13_howManyAt 4 [some (.ref o), some (.int i1), some (.int 0), some (.int 0)] [] ph := by
  refine Eq.trans (q_iconst (v := 0) dX13_howManyAt_0 (mk0 rfl) rfl) ?_
  refine Eq.trans (q_istore_n (lv2 := [some (.ref o), some (.int i1), some (.int 0), none]) dX13_howManyAt_1 (mk0 rfl) (Nat.le_of_ble_eq_true rfl) rfl) ?_
  refine Eq.trans (q_iconst (v := 0) dX13_howManyAt_2 (mk0 rfl) rfl) ?_
  refine Eq.trans (q_istore_n (lv2 := [some (.ref o), some (.int i1), some (.int 0), some (.int 0)]) dX13_howManyAt_3 (mk0 rfl) (Nat.le_of_ble_eq_true rfl) rfl) ?_
  rfl
set_option maxRecDepth 20000 in
theorem bX13_howManyAt_4 {L : Nat} {xs : Nat → Int32} (d : Nat) (o : Nat) (i1 : Int32) (i2 : Int32) (i3 : Int32) (ph : PH) : RS (ZZ L xs) (d + 1) mX13_howManyAt 4 [some (.ref o), some (.int i1), some (.int i2), some (.int i3)] [] ph = (fR ph (.ref o) 13 1).bind fun x6 => (eI ph x6 2).bind fun x10 => if (x10 : Int32) ≤ i3 then some (ph, some (.int i2)) else (fR ph (.ref o) 13 2).bind fun x16 => (eI ph x16 i3).bind fun x20 => if ¬ (x20 : Int32) = i1 then RS (ZZ L xs) (d + 1) mX13_howManyAt 30 [some (.ref o), some (.int i1), some (.int i2), some (.int i3)] [.int 0, .int i2] ph else RS (ZZ L xs) (d + 1) mX13_howManyAt 30 [some (.ref o), some (.int i1), some (.int i2), some (.int i3)] [.int 1, .int i2] ph := by
  refine Eq.trans (q_iload_n dX13_howManyAt_4 (mk0 rfl) rfl) ?_
  refine Eq.trans (q_aload_n dX13_howManyAt_5 (mk0 rfl) rfl rfl) ?_
  refine Eq.trans (q_getR (ci := 13) (k := 1) dX13_howManyAt_6 (mk0 rfl) rfl) (bind_cg2 fun x6 hx6 => ?_)
  have hx6 := fR_isR hx6
  refine Eq.trans (q_iconst (v := 2) dX13_howManyAt_9 (mk0 rfl) rfl) ?_
  refine Eq.trans (q_iaload dX13_howManyAt_10 (mk0 rfl) (no_ext hx6)) (bind_cg fun x10 => ?_)
  refine Eq.trans (q_icmp_ge (t := 38) dX13_howManyAt_11 (mk0 rfl) rfl) (ite_cg ?_ ?_)
  · refine Eq.trans (q_iload_n dX13_howManyAt_38 (mk0 rfl) rfl) ?_
    exact q_ireturn dX13_howManyAt_39 (mk0 rfl) rfl
  · refine Eq.trans (q_iload_n dX13_howManyAt_14 (mk0 rfl) rfl) ?_
    refine Eq.trans (q_aload_n dX13_howManyAt_15 (mk0 rfl) rfl rfl) ?_
    refine Eq.trans (q_getR (ci := 13) (k := 2) dX13_howManyAt_16 (mk0 rfl) rfl) (bind_cg2 fun x16 hx16 => ?_)
    have hx16 := fR_isR hx16
    refine Eq.trans (q_iload_n dX13_howManyAt_19 (mk0 rfl) rfl) ?_
    refine Eq.trans (q_iaload dX13_howManyAt_20 (mk0 rfl) (no_ext hx16)) (bind_cg fun x20 => ?_)
    refine Eq.trans (q_iload_n dX13_howManyAt_21 (mk0 rfl) rfl) ?_
    refine Eq.trans (q_icmp_ne (t := 29) dX13_howManyAt_22 (mk0 rfl) rfl) (ite_cg ?_ ?_)
    · refine Eq.trans (q_iconst (v := 0) dX13_howManyAt_29 (mk0 rfl) rfl) ?_
      rfl
    · refine Eq.trans (q_iconst (v := 1) dX13_howManyAt_25 (mk0 rfl) rfl) ?_
      refine Eq.trans (q_goto (t := 30) dX13_howManyAt_26 (mk0 rfl) rfl) ?_
      rfl
set_option maxRecDepth 20000 in
theorem bX13_howManyAt_30 {L : Nat} {xs : Nat → Int32} (d : Nat) (o : Nat) (i1 : Int32) (u2 : Option Value) (i3 : Int32) (t0 : Int32) (t1 : Int32) (ph : PH) : RS (ZZ L xs) (d + 1) mX13_howManyAt 30 [some (.ref o), some (.int i1), u2, some (.int i3)] [.int t0, .int t1] ph = RS (ZZ L xs) (d + 1) mX13_howManyAt 4 [some (.ref o), some (.int i1), some (.int (t1 + t0)), some (.int (i3 + 1))] [] ph := by
  refine Eq.trans (q_iadd dX13_howManyAt_30 (show mK mX13_howManyAt 30 [some (.ref o), some (.int i1), u2, some (.int i3)] = [some (.ref o), some (.int i1), none, some (.int i3)] from rfl)) ?_
  refine Eq.trans (q_istore_n (lv2 := [some (.ref o), some (.int i1), some (.int (t1 + t0)), some (.int i3)]) dX13_howManyAt_31 (mk0 rfl) (Nat.le_of_ble_eq_true rfl) rfl) ?_
  refine Eq.trans (q_iinc (v := 1) (lv2 := [some (.ref o), some (.int i1), some (.int (t1 + t0)), some (.int (i3 + 1))]) dX13_howManyAt_32 (mk0 rfl) rfl rfl rfl) ?_
  refine Eq.trans (q_goto (t := 4) dX13_howManyAt_35 (mk0 rfl) rfl) ?_
  rfl
set_option maxRecDepth 20000 in
theorem bX13_likes_0 {L : Nat} {xs : Nat → Int32} (d : Nat) (o : Nat) (i1 : Int32) (i2 : Int32) (ph : PH) : RS (ZZ L xs) (d + 1) mX13_likes 0 [some (.ref o), some (.int i1), some (.int i2)] [] ph = (fR ph (.ref o) 13 1).bind fun x1 => (eI ph x1 9).bind fun x6 => if ¬ (x6 : Int32) = (-1) then (fR ph (.ref o) 13 46).bind fun x22 => (wL ph x22 0 ((i1 : Int32).toInt64)).bind fun h28 => (fR h28 (.ref o) 13 46).bind fun x30 => (wL h28 x30 1 ((i2 : Int32).toInt64)).bind fun h36 => (fR h36 (.ref o) 13 46).bind fun x38 => (fR h36 (.ref o) 13 3).bind fun x43 => (eI h36 x43 i2).bind fun x47 => (wL h36 x38 2 ((x47 : Int32).toInt64)).bind fun h49 => (fR h49 (.ref o) 13 46).bind fun x51 => (fR h49 (.ref o) 13 4).bind fun x56 => (eI h49 x56 i2).bind fun x60 => (wL h49 x51 3 ((x60 : Int32).toInt64)).bind fun h62 => (fR h62 (.ref o) 13 46).bind fun x64 => (fR h62 (.ref o) 13 8).bind fun x69 => (eI h62 x69 ((6 * i1) + i2)).bind fun x78 => (wL h62 x64 4 ((x78 : Int32).toInt64)).bind fun h80 => (fR h80 (.ref o) 13 46).bind fun x82 => (fR h80 (.ref o) 13 7).bind fun x88 => (eI h80 x88 i1).bind fun x92 => (iO h80 (.ref o) 13).bind fun b93 => (cI (ZZ L xs) d mX13_howManyAt [.ref b93, .int x92] h80).bind fun p93 => (wL p93.1 x82 5 ((p93.2 - 1 : Int32).toInt64)).bind fun h99 => (fR h99 (.ref o) 13 46).bind fun x101 => (fR h99 (.ref o) 13 7).bind fun x107 => (eI h99 x107 i1).bind fun x111 => (wL h99 x101 6 ((x111 : Int32).toInt64)).bind fun h113 => (fR h113 (.ref o) 13 46).bind fun x115 => (fR h113 (.ref o) 13 7).bind fun x122 => (eI h113 x122 i1).bind fun x126 => (fR h113 (.ref o) 13 12).bind fun x128 => (eI h113 x128 i1).bind fun x132 => (iO h113 (.ref o) 13).bind fun b133 => (cI (ZZ L xs) d mX13_farFrom [.ref b133, .int x126, .int x132] h113).bind fun p133 => (wL p133.1 x115 7 ((p133.2 : Int32).toInt64)).bind fun h137 => (fR h137 (.ref o) 13 46).bind fun x139 => (fR h137 (.ref o) 13 1).bind fun x145 => (eI h137 x145 5).bind fun x149 => if ¬ (x149 : Int32) = i2 then RS (ZZ L xs) (d + 1) mX13_likes 159 [some (.ref o), some (.int i1), some (.int i2)] [.long 0, .int 8, x139] h137 else RS (ZZ L xs) (d + 1) mX13_likes 159 [some (.ref o), some (.int i1), some (.int i2)] [.long 1, .int 8, x139] h137 else (fR ph (.ref o) 13 3).bind fun x13 => (eI ph x13 i2).bind fun x17 => some (ph, some (.long (1 + ((x17 : Int32).toInt64)))) := by
  refine Eq.trans (q_aload_n dX13_likes_0 (mk0 rfl) rfl rfl) ?_
  refine Eq.trans (q_getR (ci := 13) (k := 1) dX13_likes_1 (mk0 rfl) rfl) (bind_cg2 fun x1 hx1 => ?_)
  have hx1 := fR_isR hx1
  refine Eq.trans (q_bipush (v := 9) dX13_likes_4 (mk0 rfl) rfl) ?_
  refine Eq.trans (q_iaload dX13_likes_6 (mk0 rfl) (no_ext hx1)) (bind_cg fun x6 => ?_)
  refine Eq.trans (q_iconst (v := (-1)) dX13_likes_7 (mk0 rfl) rfl) ?_
  refine Eq.trans (q_icmp_ne (t := 21) dX13_likes_8 (mk0 rfl) rfl) (ite_cg ?_ ?_)
  · refine Eq.trans (q_aload_n dX13_likes_21 (mk0 rfl) rfl rfl) ?_
    refine Eq.trans (q_getR (ci := 13) (k := 46) dX13_likes_22 (mk0 rfl) rfl) (bind_cg2 fun x22 hx22 => ?_)
    have hx22 := fR_isR hx22
    refine Eq.trans (q_iconst (v := 0) dX13_likes_25 (mk0 rfl) rfl) ?_
    refine Eq.trans (q_iload_n dX13_likes_26 (mk0 rfl) rfl) ?_
    refine Eq.trans (q_i2l dX13_likes_27 (mk0 rfl)) ?_
    refine Eq.trans (q_lastore dX13_likes_28 (mk0 rfl)) (bind_cg fun h28 => ?_)
    refine Eq.trans (q_aload_n dX13_likes_29 (mk0 rfl) rfl rfl) ?_
    refine Eq.trans (q_getR (ci := 13) (k := 46) dX13_likes_30 (mk0 rfl) rfl) (bind_cg2 fun x30 hx30 => ?_)
    have hx30 := fR_isR hx30
    refine Eq.trans (q_iconst (v := 1) dX13_likes_33 (mk0 rfl) rfl) ?_
    refine Eq.trans (q_iload_n dX13_likes_34 (mk0 rfl) rfl) ?_
    refine Eq.trans (q_i2l dX13_likes_35 (mk0 rfl)) ?_
    refine Eq.trans (q_lastore dX13_likes_36 (mk0 rfl)) (bind_cg fun h36 => ?_)
    refine Eq.trans (q_aload_n dX13_likes_37 (mk0 rfl) rfl rfl) ?_
    refine Eq.trans (q_getR (ci := 13) (k := 46) dX13_likes_38 (mk0 rfl) rfl) (bind_cg2 fun x38 hx38 => ?_)
    have hx38 := fR_isR hx38
    refine Eq.trans (q_iconst (v := 2) dX13_likes_41 (mk0 rfl) rfl) ?_
    refine Eq.trans (q_aload_n dX13_likes_42 (mk0 rfl) rfl rfl) ?_
    refine Eq.trans (q_getR (ci := 13) (k := 3) dX13_likes_43 (mk0 rfl) rfl) (bind_cg2 fun x43 hx43 => ?_)
    have hx43 := fR_isR hx43
    refine Eq.trans (q_iload_n dX13_likes_46 (mk0 rfl) rfl) ?_
    refine Eq.trans (q_iaload dX13_likes_47 (mk0 rfl) (no_ext hx43)) (bind_cg fun x47 => ?_)
    refine Eq.trans (q_i2l dX13_likes_48 (mk0 rfl)) ?_
    refine Eq.trans (q_lastore dX13_likes_49 (mk0 rfl)) (bind_cg fun h49 => ?_)
    refine Eq.trans (q_aload_n dX13_likes_50 (mk0 rfl) rfl rfl) ?_
    refine Eq.trans (q_getR (ci := 13) (k := 46) dX13_likes_51 (mk0 rfl) rfl) (bind_cg2 fun x51 hx51 => ?_)
    have hx51 := fR_isR hx51
    refine Eq.trans (q_iconst (v := 3) dX13_likes_54 (mk0 rfl) rfl) ?_
    refine Eq.trans (q_aload_n dX13_likes_55 (mk0 rfl) rfl rfl) ?_
    refine Eq.trans (q_getR (ci := 13) (k := 4) dX13_likes_56 (mk0 rfl) rfl) (bind_cg2 fun x56 hx56 => ?_)
    have hx56 := fR_isR hx56
    refine Eq.trans (q_iload_n dX13_likes_59 (mk0 rfl) rfl) ?_
    refine Eq.trans (q_iaload dX13_likes_60 (mk0 rfl) (no_ext hx56)) (bind_cg fun x60 => ?_)
    refine Eq.trans (q_i2l dX13_likes_61 (mk0 rfl)) ?_
    refine Eq.trans (q_lastore dX13_likes_62 (mk0 rfl)) (bind_cg fun h62 => ?_)
    refine Eq.trans (q_aload_n dX13_likes_63 (mk0 rfl) rfl rfl) ?_
    refine Eq.trans (q_getR (ci := 13) (k := 46) dX13_likes_64 (mk0 rfl) rfl) (bind_cg2 fun x64 hx64 => ?_)
    have hx64 := fR_isR hx64
    refine Eq.trans (q_iconst (v := 4) dX13_likes_67 (mk0 rfl) rfl) ?_
    refine Eq.trans (q_aload_n dX13_likes_68 (mk0 rfl) rfl rfl) ?_
    refine Eq.trans (q_getR (ci := 13) (k := 8) dX13_likes_69 (mk0 rfl) rfl) (bind_cg2 fun x69 hx69 => ?_)
    have hx69 := fR_isR hx69
    refine Eq.trans (q_bipush (v := 6) dX13_likes_72 (mk0 rfl) rfl) ?_
    refine Eq.trans (q_iload_n dX13_likes_74 (mk0 rfl) rfl) ?_
    refine Eq.trans (q_imul dX13_likes_75 (mk0 rfl)) ?_
    refine Eq.trans (q_iload_n dX13_likes_76 (mk0 rfl) rfl) ?_
    refine Eq.trans (q_iadd dX13_likes_77 (mk0 rfl)) ?_
    refine Eq.trans (q_iaload dX13_likes_78 (mk0 rfl) (no_ext hx69)) (bind_cg fun x78 => ?_)
    refine Eq.trans (q_i2l dX13_likes_79 (mk0 rfl)) ?_
    refine Eq.trans (q_lastore dX13_likes_80 (mk0 rfl)) (bind_cg fun h80 => ?_)
    refine Eq.trans (q_aload_n dX13_likes_81 (mk0 rfl) rfl rfl) ?_
    refine Eq.trans (q_getR (ci := 13) (k := 46) dX13_likes_82 (mk0 rfl) rfl) (bind_cg2 fun x82 hx82 => ?_)
    have hx82 := fR_isR hx82
    refine Eq.trans (q_iconst (v := 5) dX13_likes_85 (mk0 rfl) rfl) ?_
    refine Eq.trans (q_aload_n dX13_likes_86 (mk0 rfl) rfl rfl) ?_
    refine Eq.trans (q_aload_n dX13_likes_87 (mk0 rfl) rfl rfl) ?_
    refine Eq.trans (q_getR (ci := 13) (k := 7) dX13_likes_88 (mk0 rfl) rfl) (bind_cg2 fun x88 hx88 => ?_)
    have hx88 := fR_isR hx88
    refine Eq.trans (q_iload_n dX13_likes_91 (mk0 rfl) rfl) ?_
    refine Eq.trans (q_iaload dX13_likes_92 (mk0 rfl) (no_ext hx88)) (bind_cg fun x92 => ?_)
    refine Eq.trans (q_callV (as := [.int x92]) dX13_likes_93 (mk0 rfl) rfl rfl rfl (by simp [catS, ct_i, ct_l, ct_r, ct_n, ct_x, (cat_R hx82)]) (Nat.le_of_ble_eq_true rfl)) (bind_cg fun b93 => ?_)
    refine Eq.trans (cI_bind (Or.inl rfl)) (bind_cg fun p93 => ?_)
    show RS (ZZ L xs) (d + 1) mX13_likes 96 [some (.ref o), some (.int i1), some (.int i2)] [.int p93.2, .int 5, x82] p93.1 = _
    refine Eq.trans (q_iconst (v := 1) dX13_likes_96 (mk0 rfl) rfl) ?_
    refine Eq.trans (q_isub dX13_likes_97 (mk0 rfl)) ?_
    refine Eq.trans (q_i2l dX13_likes_98 (mk0 rfl)) ?_
    refine Eq.trans (q_lastore dX13_likes_99 (mk0 rfl)) (bind_cg fun h99 => ?_)
    refine Eq.trans (q_aload_n dX13_likes_100 (mk0 rfl) rfl rfl) ?_
    refine Eq.trans (q_getR (ci := 13) (k := 46) dX13_likes_101 (mk0 rfl) rfl) (bind_cg2 fun x101 hx101 => ?_)
    have hx101 := fR_isR hx101
    refine Eq.trans (q_bipush (v := 6) dX13_likes_104 (mk0 rfl) rfl) ?_
    refine Eq.trans (q_aload_n dX13_likes_106 (mk0 rfl) rfl rfl) ?_
    refine Eq.trans (q_getR (ci := 13) (k := 7) dX13_likes_107 (mk0 rfl) rfl) (bind_cg2 fun x107 hx107 => ?_)
    have hx107 := fR_isR hx107
    refine Eq.trans (q_iload_n dX13_likes_110 (mk0 rfl) rfl) ?_
    refine Eq.trans (q_iaload dX13_likes_111 (mk0 rfl) (no_ext hx107)) (bind_cg fun x111 => ?_)
    refine Eq.trans (q_i2l dX13_likes_112 (mk0 rfl)) ?_
    refine Eq.trans (q_lastore dX13_likes_113 (mk0 rfl)) (bind_cg fun h113 => ?_)
    refine Eq.trans (q_aload_n dX13_likes_114 (mk0 rfl) rfl rfl) ?_
    refine Eq.trans (q_getR (ci := 13) (k := 46) dX13_likes_115 (mk0 rfl) rfl) (bind_cg2 fun x115 hx115 => ?_)
    have hx115 := fR_isR hx115
    refine Eq.trans (q_bipush (v := 7) dX13_likes_118 (mk0 rfl) rfl) ?_
    refine Eq.trans (q_aload_n dX13_likes_120 (mk0 rfl) rfl rfl) ?_
    refine Eq.trans (q_aload_n dX13_likes_121 (mk0 rfl) rfl rfl) ?_
    refine Eq.trans (q_getR (ci := 13) (k := 7) dX13_likes_122 (mk0 rfl) rfl) (bind_cg2 fun x122 hx122 => ?_)
    have hx122 := fR_isR hx122
    refine Eq.trans (q_iload_n dX13_likes_125 (mk0 rfl) rfl) ?_
    refine Eq.trans (q_iaload dX13_likes_126 (mk0 rfl) (no_ext hx122)) (bind_cg fun x126 => ?_)
    refine Eq.trans (q_aload_n dX13_likes_127 (mk0 rfl) rfl rfl) ?_
    refine Eq.trans (q_getR (ci := 13) (k := 12) dX13_likes_128 (mk0 rfl) rfl) (bind_cg2 fun x128 hx128 => ?_)
    have hx128 := fR_isR hx128
    refine Eq.trans (q_iload_n dX13_likes_131 (mk0 rfl) rfl) ?_
    refine Eq.trans (q_iaload dX13_likes_132 (mk0 rfl) (no_ext hx128)) (bind_cg fun x132 => ?_)
    refine Eq.trans (q_callV (as := [.int x126, .int x132]) dX13_likes_133 (mk0 rfl) rfl rfl rfl (by simp [catS, ct_i, ct_l, ct_r, ct_n, ct_x, (cat_R hx115)]) (Nat.le_of_ble_eq_true rfl)) (bind_cg fun b133 => ?_)
    refine Eq.trans (cI_bind (Or.inl rfl)) (bind_cg fun p133 => ?_)
    show RS (ZZ L xs) (d + 1) mX13_likes 136 [some (.ref o), some (.int i1), some (.int i2)] [.int p133.2, .int 7, x115] p133.1 = _
    refine Eq.trans (q_i2l dX13_likes_136 (mk0 rfl)) ?_
    refine Eq.trans (q_lastore dX13_likes_137 (mk0 rfl)) (bind_cg fun h137 => ?_)
    refine Eq.trans (q_aload_n dX13_likes_138 (mk0 rfl) rfl rfl) ?_
    refine Eq.trans (q_getR (ci := 13) (k := 46) dX13_likes_139 (mk0 rfl) rfl) (bind_cg2 fun x139 hx139 => ?_)
    have hx139 := fR_isR hx139
    refine Eq.trans (q_bipush (v := 8) dX13_likes_142 (mk0 rfl) rfl) ?_
    refine Eq.trans (q_aload_n dX13_likes_144 (mk0 rfl) rfl rfl) ?_
    refine Eq.trans (q_getR (ci := 13) (k := 1) dX13_likes_145 (mk0 rfl) rfl) (bind_cg2 fun x145 hx145 => ?_)
    have hx145 := fR_isR hx145
    refine Eq.trans (q_iconst (v := 5) dX13_likes_148 (mk0 rfl) rfl) ?_
    refine Eq.trans (q_iaload dX13_likes_149 (mk0 rfl) (no_ext hx145)) (bind_cg fun x149 => ?_)
    refine Eq.trans (q_iload_n dX13_likes_150 (mk0 rfl) rfl) ?_
    refine Eq.trans (q_icmp_ne (t := 158) dX13_likes_151 (mk0 rfl) rfl) (ite_cg ?_ ?_)
    · refine Eq.trans (q_lconst (v := 0) dX13_likes_158 (mk0 rfl) rfl) ?_
      rfl
    · refine Eq.trans (q_lconst (v := 1) dX13_likes_154 (mk0 rfl) rfl) ?_
      refine Eq.trans (q_goto (t := 159) dX13_likes_155 (mk0 rfl) rfl) ?_
      rfl
  · refine Eq.trans (q_lconst (v := 1) dX13_likes_11 (mk0 rfl) rfl) ?_
    refine Eq.trans (q_aload_n dX13_likes_12 (mk0 rfl) rfl rfl) ?_
    refine Eq.trans (q_getR (ci := 13) (k := 3) dX13_likes_13 (mk0 rfl) rfl) (bind_cg2 fun x13 hx13 => ?_)
    have hx13 := fR_isR hx13
    refine Eq.trans (q_iload_n dX13_likes_16 (mk0 rfl) rfl) ?_
    refine Eq.trans (q_iaload dX13_likes_17 (mk0 rfl) (no_ext hx13)) (bind_cg fun x17 => ?_)
    refine Eq.trans (q_i2l dX13_likes_18 (mk0 rfl)) ?_
    refine Eq.trans (q_ladd dX13_likes_19 (mk0 rfl)) ?_
    exact q_lreturn dX13_likes_20 (mk0 rfl) rfl
set_option maxRecDepth 20000 in
theorem bX13_likes_159 {L : Nat} {xs : Nat → Int32} (d : Nat) (o : Nat) (u1 : Option Value) (u2 : Option Value) (t0 : Int64) (t1 : Int32) (w2 : Value) (hw2 : isR w2 = true) (ph : PH) : RS (ZZ L xs) (d + 1) mX13_likes 159 [some (.ref o), u1, u2] [.long t0, .int t1, w2] ph = (wL ph w2 t1 t0).bind fun h159 => (fR h159 (.ref o) 13 46).bind fun x161 => (fR h159 (.ref o) 13 1).bind fun x167 => (eI h159 x167 4).bind fun x171 => (fR h159 (.ref o) 13 1).bind fun x173 => (eI h159 x173 1).bind fun x177 => if (x177 : Int32) = 0 then none else (wL h159 x161 9 ((iRem x171 x177 : Int32).toInt64)).bind fun h180 => (fR h180 (.ref o) 13 46).bind fun x182 => (fR h180 (.ref o) 13 1).bind fun x188 => (eI h180 x188 6).bind fun x193 => (wL h180 x182 10 ((x193 : Int32).toInt64)).bind fun h195 => (fR h195 (.ref o) 13 46).bind fun x197 => (fR h195 (.ref o) 13 1).bind fun x203 => (eI h195 x203 4).bind fun x207 => (wL h195 x197 11 ((x207 : Int32).toInt64)).bind fun h209 => (iO h209 (.ref o) 13).bind fun b211 => (cJ (ZZ L xs) d mX13_wanted [.ref b211] h209).bind fun p211 => some (p211.1, some (.long p211.2)) := by
  refine Eq.trans (q_lastore dX13_likes_159 (show mK mX13_likes 159 [some (.ref o), u1, u2] = [some (.ref o), none, none] from rfl)) (bind_cg fun h159 => ?_)
  refine Eq.trans (q_aload_n dX13_likes_160 (mk0 rfl) rfl rfl) ?_
  refine Eq.trans (q_getR (ci := 13) (k := 46) dX13_likes_161 (mk0 rfl) rfl) (bind_cg2 fun x161 hx161 => ?_)
  have hx161 := fR_isR hx161
  refine Eq.trans (q_bipush (v := 9) dX13_likes_164 (mk0 rfl) rfl) ?_
  refine Eq.trans (q_aload_n dX13_likes_166 (mk0 rfl) rfl rfl) ?_
  refine Eq.trans (q_getR (ci := 13) (k := 1) dX13_likes_167 (mk0 rfl) rfl) (bind_cg2 fun x167 hx167 => ?_)
  have hx167 := fR_isR hx167
  refine Eq.trans (q_iconst (v := 4) dX13_likes_170 (mk0 rfl) rfl) ?_
  refine Eq.trans (q_iaload dX13_likes_171 (mk0 rfl) (no_ext hx167)) (bind_cg fun x171 => ?_)
  refine Eq.trans (q_aload_n dX13_likes_172 (mk0 rfl) rfl rfl) ?_
  refine Eq.trans (q_getR (ci := 13) (k := 1) dX13_likes_173 (mk0 rfl) rfl) (bind_cg2 fun x173 hx173 => ?_)
  have hx173 := fR_isR hx173
  refine Eq.trans (q_iconst (v := 1) dX13_likes_176 (mk0 rfl) rfl) ?_
  refine Eq.trans (q_iaload dX13_likes_177 (mk0 rfl) (no_ext hx173)) (bind_cg fun x177 => ?_)
  refine Eq.trans (q_irem dX13_likes_178 (mk0 rfl)) (ite_cg rfl ?_)
  refine Eq.trans (q_i2l dX13_likes_179 (mk0 rfl)) ?_
  refine Eq.trans (q_lastore dX13_likes_180 (mk0 rfl)) (bind_cg fun h180 => ?_)
  refine Eq.trans (q_aload_n dX13_likes_181 (mk0 rfl) rfl rfl) ?_
  refine Eq.trans (q_getR (ci := 13) (k := 46) dX13_likes_182 (mk0 rfl) rfl) (bind_cg2 fun x182 hx182 => ?_)
  have hx182 := fR_isR hx182
  refine Eq.trans (q_bipush (v := 10) dX13_likes_185 (mk0 rfl) rfl) ?_
  refine Eq.trans (q_aload_n dX13_likes_187 (mk0 rfl) rfl rfl) ?_
  refine Eq.trans (q_getR (ci := 13) (k := 1) dX13_likes_188 (mk0 rfl) rfl) (bind_cg2 fun x188 hx188 => ?_)
  have hx188 := fR_isR hx188
  refine Eq.trans (q_bipush (v := 6) dX13_likes_191 (mk0 rfl) rfl) ?_
  refine Eq.trans (q_iaload dX13_likes_193 (mk0 rfl) (no_ext hx188)) (bind_cg fun x193 => ?_)
  refine Eq.trans (q_i2l dX13_likes_194 (mk0 rfl)) ?_
  refine Eq.trans (q_lastore dX13_likes_195 (mk0 rfl)) (bind_cg fun h195 => ?_)
  refine Eq.trans (q_aload_n dX13_likes_196 (mk0 rfl) rfl rfl) ?_
  refine Eq.trans (q_getR (ci := 13) (k := 46) dX13_likes_197 (mk0 rfl) rfl) (bind_cg2 fun x197 hx197 => ?_)
  have hx197 := fR_isR hx197
  refine Eq.trans (q_bipush (v := 11) dX13_likes_200 (mk0 rfl) rfl) ?_
  refine Eq.trans (q_aload_n dX13_likes_202 (mk0 rfl) rfl rfl) ?_
  refine Eq.trans (q_getR (ci := 13) (k := 1) dX13_likes_203 (mk0 rfl) rfl) (bind_cg2 fun x203 hx203 => ?_)
  have hx203 := fR_isR hx203
  refine Eq.trans (q_iconst (v := 4) dX13_likes_206 (mk0 rfl) rfl) ?_
  refine Eq.trans (q_iaload dX13_likes_207 (mk0 rfl) (no_ext hx203)) (bind_cg fun x207 => ?_)
  refine Eq.trans (q_i2l dX13_likes_208 (mk0 rfl)) ?_
  refine Eq.trans (q_lastore dX13_likes_209 (mk0 rfl)) (bind_cg fun h209 => ?_)
  refine Eq.trans (q_aload_n dX13_likes_210 (mk0 rfl) rfl rfl) ?_
  refine Eq.trans (q_callV (as := []) dX13_likes_211 (mk0 rfl) rfl rfl rfl (Nat.le_of_ble_eq_true rfl) (Nat.le_of_ble_eq_true rfl)) (bind_cg fun b211 => ?_)
  refine Eq.trans (cJ_bind rfl) (bind_cg fun p211 => ?_)
  show RS (ZZ L xs) (d + 1) mX13_likes 214 [some (.ref o), none, none] [.long p211.2] p211.1 = _
  exact q_lreturn dX13_likes_214 (mk0 rfl) rfl
set_option maxRecDepth 20000 in
theorem bX13_whom_0 {L : Nat} {xs : Nat → Int32} (d : Nat) (o : Nat) (i1 : Int32) (ph : PH) : RS (ZZ L xs) (d + 1) mX13_whom 0 [some (.ref o), some (.int i1), none, none, none, none, none, none] [] ph = RS (ZZ L xs) (d + 1) mX13_whom 7 [some (.ref o), some (.int i1), some (.int ((-1))), some (.long 0), none, some (.int 0), none, none] [] ph := by
  refine Eq.trans (q_iconst (v := (-1)) dX13_whom_0 (mk0 rfl) rfl) ?_
  refine Eq.trans (q_istore_n (lv2 := [some (.ref o), some (.int i1), some (.int ((-1))), none, none, none, none, none]) dX13_whom_1 (mk0 rfl) (Nat.le_of_ble_eq_true rfl) rfl) ?_
  refine Eq.trans (q_lconst (v := 0) dX13_whom_2 (mk0 rfl) rfl) ?_
  refine Eq.trans (q_lstore_n (lv2 := [some (.ref o), some (.int i1), some (.int ((-1))), some (.long 0), none, none, none, none]) dX13_whom_3 (mk0 rfl) (Nat.le_of_ble_eq_true rfl) rfl) ?_
  refine Eq.trans (q_iconst (v := 0) dX13_whom_4 (mk0 rfl) rfl) ?_
  refine Eq.trans (q_istore (lv2 := [some (.ref o), some (.int i1), some (.int ((-1))), some (.long 0), none, some (.int 0), none, none]) dX13_whom_5 (mk0 rfl) (Nat.le_of_ble_eq_true rfl) rfl) ?_
  rfl
set_option maxRecDepth 20000 in
theorem bX13_whom_7 {L : Nat} {xs : Nat → Int32} (d : Nat) (o : Nat) (i1 : Int32) (i2 : Int32) (l3 : Int64) (i5 : Int32) (u6 : Option Value) (u7 : Option Value) (ph : PH) : RS (ZZ L xs) (d + 1) mX13_whom 7 [some (.ref o), some (.int i1), some (.int i2), some (.long l3), none, some (.int i5), u6, u7] [] ph = (fR ph (.ref o) 13 1).bind fun x10 => (eI ph x10 2).bind fun x14 => if (x14 : Int32) ≤ i5 then some (ph, some (.int i2)) else (fR ph (.ref o) 13 2).bind fun x19 => (eI ph x19 i5).bind fun x24 => (fR ph (.ref o) 13 7).bind fun x26 => (eI ph x26 i1).bind fun x30 => if ¬ (x24 : Int32) = x30 then RS (ZZ L xs) (d + 1) mX13_whom 56 [some (.ref o), some (.int i1), some (.int i2), some (.long l3), none, some (.int i5), none, none] [] ph else (iO ph (.ref o) 13).bind fun b38 => (cJ (ZZ L xs) d mX13_likes [.ref b38, .int i1, .int i5] ph).bind fun p38 => if (lg_cmp p38.2 l3 : Int32) ≤ 0 then RS (ZZ L xs) (d + 1) mX13_whom 56 [some (.ref o), some (.int i1), some (.int i2), some (.long l3), none, some (.int i5), some (.long p38.2), none] [] p38.1 else RS (ZZ L xs) (d + 1) mX13_whom 56 [some (.ref o), some (.int i1), some (.int i5), some (.long p38.2), none, some (.int i5), some (.long p38.2), none] [] p38.1 := by
  refine Eq.trans (q_iload dX13_whom_7 (show mK mX13_whom 7 [some (.ref o), some (.int i1), some (.int i2), some (.long l3), none, some (.int i5), u6, u7] = [some (.ref o), some (.int i1), some (.int i2), some (.long l3), none, some (.int i5), none, none] from rfl) rfl) ?_
  refine Eq.trans (q_aload_n dX13_whom_9 (mk0 rfl) rfl rfl) ?_
  refine Eq.trans (q_getR (ci := 13) (k := 1) dX13_whom_10 (mk0 rfl) rfl) (bind_cg2 fun x10 hx10 => ?_)
  have hx10 := fR_isR hx10
  refine Eq.trans (q_iconst (v := 2) dX13_whom_13 (mk0 rfl) rfl) ?_
  refine Eq.trans (q_iaload dX13_whom_14 (mk0 rfl) (no_ext hx10)) (bind_cg fun x14 => ?_)
  refine Eq.trans (q_icmp_ge (t := 62) dX13_whom_15 (mk0 rfl) rfl) (ite_cg ?_ ?_)
  · refine Eq.trans (q_iload_n dX13_whom_62 (mk0 rfl) rfl) ?_
    exact q_ireturn dX13_whom_63 (mk0 rfl) rfl
  · refine Eq.trans (q_aload_n dX13_whom_18 (mk0 rfl) rfl rfl) ?_
    refine Eq.trans (q_getR (ci := 13) (k := 2) dX13_whom_19 (mk0 rfl) rfl) (bind_cg2 fun x19 hx19 => ?_)
    have hx19 := fR_isR hx19
    refine Eq.trans (q_iload dX13_whom_22 (mk0 rfl) rfl) ?_
    refine Eq.trans (q_iaload dX13_whom_24 (mk0 rfl) (no_ext hx19)) (bind_cg fun x24 => ?_)
    refine Eq.trans (q_aload_n dX13_whom_25 (mk0 rfl) rfl rfl) ?_
    refine Eq.trans (q_getR (ci := 13) (k := 7) dX13_whom_26 (mk0 rfl) rfl) (bind_cg2 fun x26 hx26 => ?_)
    have hx26 := fR_isR hx26
    refine Eq.trans (q_iload_n dX13_whom_29 (mk0 rfl) rfl) ?_
    refine Eq.trans (q_iaload dX13_whom_30 (mk0 rfl) (no_ext hx26)) (bind_cg fun x30 => ?_)
    refine Eq.trans (q_icmp_ne (t := 56) dX13_whom_31 (mk0 rfl) rfl) (ite_cg ?_ ?_)
    · rfl
    · refine Eq.trans (q_aload_n dX13_whom_34 (mk0 rfl) rfl rfl) ?_
      refine Eq.trans (q_iload_n dX13_whom_35 (mk0 rfl) rfl) ?_
      refine Eq.trans (q_iload dX13_whom_36 (mk0 rfl) rfl) ?_
      refine Eq.trans (q_callV (as := [.int i1, .int i5]) dX13_whom_38 (mk0 rfl) rfl rfl rfl (Nat.le_of_ble_eq_true rfl) (Nat.le_of_ble_eq_true rfl)) (bind_cg fun b38 => ?_)
      refine Eq.trans (cJ_bind rfl) (bind_cg fun p38 => ?_)
      show RS (ZZ L xs) (d + 1) mX13_whom 41 [some (.ref o), some (.int i1), some (.int i2), some (.long l3), none, some (.int i5), none, none] [.long p38.2] p38.1 = _
      refine Eq.trans (q_lstore (lv2 := [some (.ref o), some (.int i1), some (.int i2), some (.long l3), none, some (.int i5), some (.long p38.2), none]) dX13_whom_41 (mk0 rfl) (Nat.le_of_ble_eq_true rfl) rfl) ?_
      refine Eq.trans (q_lload dX13_whom_43 (mk0 rfl) rfl) ?_
      refine Eq.trans (q_lload_n dX13_whom_45 (mk0 rfl) rfl) ?_
      refine Eq.trans (q_lcmp dX13_whom_46 (mk0 rfl)) ?_
      refine Eq.trans (q_if_le (t := 56) dX13_whom_47 (mk0 rfl) rfl) (ite_cg ?_ ?_)
      · rfl
      · refine Eq.trans (q_iload dX13_whom_50 (mk0 rfl) rfl) ?_
        refine Eq.trans (q_istore_n (lv2 := [some (.ref o), some (.int i1), some (.int i5), some (.long l3), none, some (.int i5), some (.long p38.2), none]) dX13_whom_52 (mk0 rfl) (Nat.le_of_ble_eq_true rfl) rfl) ?_
        refine Eq.trans (q_lload dX13_whom_53 (mk0 rfl) rfl) ?_
        refine Eq.trans (q_lstore_n (lv2 := [some (.ref o), some (.int i1), some (.int i5), some (.long p38.2), none, some (.int i5), some (.long p38.2), none]) dX13_whom_55 (mk0 rfl) (Nat.le_of_ble_eq_true rfl) rfl) ?_
        rfl
set_option maxRecDepth 20000 in
theorem bX13_whom_56 {L : Nat} {xs : Nat → Int32} (d : Nat) (o : Nat) (i1 : Int32) (i2 : Int32) (l3 : Int64) (i5 : Int32) (u6 : Option Value) (u7 : Option Value) (ph : PH) : RS (ZZ L xs) (d + 1) mX13_whom 56 [some (.ref o), some (.int i1), some (.int i2), some (.long l3), none, some (.int i5), u6, u7] [] ph = RS (ZZ L xs) (d + 1) mX13_whom 7 [some (.ref o), some (.int i1), some (.int i2), some (.long l3), none, some (.int (i5 + 1)), none, none] [] ph := by
  refine Eq.trans (q_iinc (v := 1) (lv2 := [some (.ref o), some (.int i1), some (.int i2), some (.long l3), none, some (.int (i5 + 1)), none, none]) dX13_whom_56 (show mK mX13_whom 56 [some (.ref o), some (.int i1), some (.int i2), some (.long l3), none, some (.int i5), u6, u7] = [some (.ref o), some (.int i1), some (.int i2), some (.long l3), none, some (.int i5), none, none] from rfl) rfl rfl rfl) ?_
  refine Eq.trans (q_goto (t := 7) dX13_whom_59 (mk0 rfl) rfl) ?_
  rfl
set_option maxRecDepth 20000 in
theorem bX13_walks_0 {L : Nat} {xs : Nat → Int32} (d : Nat) (o : Nat) (i1 : Int32) (ph : PH) : RS (ZZ L xs) (d + 1) mX13_walks 0 [some (.ref o), some (.int i1), none] [] ph = (iO ph (.ref o) 13).bind fun b2 => (cI (ZZ L xs) d mX13_whom [.ref b2, .int i1] ph).bind fun p2 => (fR p2.1 (.ref o) 13 48).bind fun x7 => (wI p2.1 x7 i1 p2.2).bind fun h12 => if ¬ (p2.2 : Int32) = (-1) then (fR h12 (.ref o) 13 4).bind fun x36 => (eI h12 x36 p2.2).bind fun x41 => (wI h12 x36 p2.2 (x41 + 1)).bind fun h44 => (fR h44 (.ref o) 13 5).bind fun x46 => (eI h44 x46 p2.2).bind fun x51 => (wI h44 x46 p2.2 (x51 + 1)).bind fun h54 => (fR h54 (.ref o) 13 8).bind fun x56 => (eI h54 x56 ((6 * i1) + p2.2)).bind fun x66 => (wI h54 x56 ((6 * i1) + p2.2) (x66 + 1)).bind fun h69 => (fR h69 (.ref o) 13 7).bind fun x71 => (fR h69 (.ref o) 13 10).bind fun x76 => (eI h69 x76 p2.2).bind fun x80 => if ¬ (x80 : Int32) = 1 then (fR h69 (.ref o) 13 7).bind fun x100 => (eI h69 x100 i1).bind fun x104 => (fR h69 (.ref o) 13 12).bind fun x106 => (eI h69 x106 i1).bind fun x110 => (iO h69 (.ref o) 13).bind fun b111 => (cI (ZZ L xs) d mX13_firstOn [.ref b111, .int x104, .int x110] h69).bind fun p111 => RS (ZZ L xs) (d + 1) mX13_walks 114 [some (.ref o), some (.int i1), some (.int p2.2)] [.int p111.2, .int i1, x71] p111.1 else (fR h69 (.ref o) 13 7).bind fun x87 => (eI h69 x87 i1).bind fun x91 => (iO h69 (.ref o) 13).bind fun b92 => (cI (ZZ L xs) d mX13_greatestBy [.ref b92, .int x91] h69).bind fun p92 => RS (ZZ L xs) (d + 1) mX13_walks 114 [some (.ref o), some (.int i1), some (.int p2.2)] [.int p92.2, .int i1, x71] p92.1 else (fR h12 (.ref o) 13 7).bind fun x19 => (fR h12 (.ref o) 13 7).bind fun x25 => (eI h12 x25 i1).bind fun x29 => (iO h12 (.ref o) 13).bind fun b30 => (cI (ZZ L xs) d mX13_leastBy [.ref b30, .int x29] h12).bind fun p30 => (wI p30.1 x19 i1 p30.2).bind fun h33 => some (h33, none) := by
  refine Eq.trans (q_aload_n dX13_walks_0 (mk0 rfl) rfl rfl) ?_
  refine Eq.trans (q_iload_n dX13_walks_1 (mk0 rfl) rfl) ?_
  refine Eq.trans (q_callV (as := [.int i1]) dX13_walks_2 (mk0 rfl) rfl rfl rfl (Nat.le_of_ble_eq_true rfl) (Nat.le_of_ble_eq_true rfl)) (bind_cg fun b2 => ?_)
  refine Eq.trans (cI_bind (Or.inl rfl)) (bind_cg fun p2 => ?_)
  show RS (ZZ L xs) (d + 1) mX13_walks 5 [some (.ref o), some (.int i1), none] [.int p2.2] p2.1 = _
  refine Eq.trans (q_istore_n (lv2 := [some (.ref o), some (.int i1), some (.int p2.2)]) dX13_walks_5 (mk0 rfl) (Nat.le_of_ble_eq_true rfl) rfl) ?_
  refine Eq.trans (q_aload_n dX13_walks_6 (mk0 rfl) rfl rfl) ?_
  refine Eq.trans (q_getR (ci := 13) (k := 48) dX13_walks_7 (mk0 rfl) rfl) (bind_cg2 fun x7 hx7 => ?_)
  have hx7 := fR_isR hx7
  refine Eq.trans (q_iload_n dX13_walks_10 (mk0 rfl) rfl) ?_
  refine Eq.trans (q_iload_n dX13_walks_11 (mk0 rfl) rfl) ?_
  refine Eq.trans (q_iastore dX13_walks_12 (mk0 rfl)) (bind_cg fun h12 => ?_)
  refine Eq.trans (q_iload_n dX13_walks_13 (mk0 rfl) rfl) ?_
  refine Eq.trans (q_iconst (v := (-1)) dX13_walks_14 (mk0 rfl) rfl) ?_
  refine Eq.trans (q_icmp_ne (t := 35) dX13_walks_15 (mk0 rfl) rfl) (ite_cg ?_ ?_)
  · refine Eq.trans (q_aload_n dX13_walks_35 (mk0 rfl) rfl rfl) ?_
    refine Eq.trans (q_getR (ci := 13) (k := 4) dX13_walks_36 (mk0 rfl) rfl) (bind_cg2 fun x36 hx36 => ?_)
    have hx36 := fR_isR hx36
    refine Eq.trans (q_iload_n dX13_walks_39 (mk0 rfl) rfl) ?_
    refine Eq.trans (q_dup2 dX13_walks_40 (mk0 rfl) rfl (cat_R hx36)) ?_
    refine Eq.trans (q_iaload dX13_walks_41 (mk0 rfl) (no_ext hx36)) (bind_cg fun x41 => ?_)
    refine Eq.trans (q_iconst (v := 1) dX13_walks_42 (mk0 rfl) rfl) ?_
    refine Eq.trans (q_iadd dX13_walks_43 (mk0 rfl)) ?_
    refine Eq.trans (q_iastore dX13_walks_44 (mk0 rfl)) (bind_cg fun h44 => ?_)
    refine Eq.trans (q_aload_n dX13_walks_45 (mk0 rfl) rfl rfl) ?_
    refine Eq.trans (q_getR (ci := 13) (k := 5) dX13_walks_46 (mk0 rfl) rfl) (bind_cg2 fun x46 hx46 => ?_)
    have hx46 := fR_isR hx46
    refine Eq.trans (q_iload_n dX13_walks_49 (mk0 rfl) rfl) ?_
    refine Eq.trans (q_dup2 dX13_walks_50 (mk0 rfl) rfl (cat_R hx46)) ?_
    refine Eq.trans (q_iaload dX13_walks_51 (mk0 rfl) (no_ext hx46)) (bind_cg fun x51 => ?_)
    refine Eq.trans (q_iconst (v := 1) dX13_walks_52 (mk0 rfl) rfl) ?_
    refine Eq.trans (q_iadd dX13_walks_53 (mk0 rfl)) ?_
    refine Eq.trans (q_iastore dX13_walks_54 (mk0 rfl)) (bind_cg fun h54 => ?_)
    refine Eq.trans (q_aload_n dX13_walks_55 (mk0 rfl) rfl rfl) ?_
    refine Eq.trans (q_getR (ci := 13) (k := 8) dX13_walks_56 (mk0 rfl) rfl) (bind_cg2 fun x56 hx56 => ?_)
    have hx56 := fR_isR hx56
    refine Eq.trans (q_bipush (v := 6) dX13_walks_59 (mk0 rfl) rfl) ?_
    refine Eq.trans (q_iload_n dX13_walks_61 (mk0 rfl) rfl) ?_
    refine Eq.trans (q_imul dX13_walks_62 (mk0 rfl)) ?_
    refine Eq.trans (q_iload_n dX13_walks_63 (mk0 rfl) rfl) ?_
    refine Eq.trans (q_iadd dX13_walks_64 (mk0 rfl)) ?_
    refine Eq.trans (q_dup2 dX13_walks_65 (mk0 rfl) rfl (cat_R hx56)) ?_
    refine Eq.trans (q_iaload dX13_walks_66 (mk0 rfl) (no_ext hx56)) (bind_cg fun x66 => ?_)
    refine Eq.trans (q_iconst (v := 1) dX13_walks_67 (mk0 rfl) rfl) ?_
    refine Eq.trans (q_iadd dX13_walks_68 (mk0 rfl)) ?_
    refine Eq.trans (q_iastore dX13_walks_69 (mk0 rfl)) (bind_cg fun h69 => ?_)
    refine Eq.trans (q_aload_n dX13_walks_70 (mk0 rfl) rfl rfl) ?_
    refine Eq.trans (q_getR (ci := 13) (k := 7) dX13_walks_71 (mk0 rfl) rfl) (bind_cg2 fun x71 hx71 => ?_)
    have hx71 := fR_isR hx71
    refine Eq.trans (q_iload_n dX13_walks_74 (mk0 rfl) rfl) ?_
    refine Eq.trans (q_aload_n dX13_walks_75 (mk0 rfl) rfl rfl) ?_
    refine Eq.trans (q_getR (ci := 13) (k := 10) dX13_walks_76 (mk0 rfl) rfl) (bind_cg2 fun x76 hx76 => ?_)
    have hx76 := fR_isR hx76
    refine Eq.trans (q_iload_n dX13_walks_79 (mk0 rfl) rfl) ?_
    refine Eq.trans (q_iaload dX13_walks_80 (mk0 rfl) (no_ext hx76)) (bind_cg fun x80 => ?_)
    refine Eq.trans (q_iconst (v := 1) dX13_walks_81 (mk0 rfl) rfl) ?_
    refine Eq.trans (q_icmp_ne (t := 98) dX13_walks_82 (mk0 rfl) rfl) (ite_cg ?_ ?_)
    · refine Eq.trans (q_aload_n dX13_walks_98 (mk0 rfl) rfl rfl) ?_
      refine Eq.trans (q_aload_n dX13_walks_99 (mk0 rfl) rfl rfl) ?_
      refine Eq.trans (q_getR (ci := 13) (k := 7) dX13_walks_100 (mk0 rfl) rfl) (bind_cg2 fun x100 hx100 => ?_)
      have hx100 := fR_isR hx100
      refine Eq.trans (q_iload_n dX13_walks_103 (mk0 rfl) rfl) ?_
      refine Eq.trans (q_iaload dX13_walks_104 (mk0 rfl) (no_ext hx100)) (bind_cg fun x104 => ?_)
      refine Eq.trans (q_aload_n dX13_walks_105 (mk0 rfl) rfl rfl) ?_
      refine Eq.trans (q_getR (ci := 13) (k := 12) dX13_walks_106 (mk0 rfl) rfl) (bind_cg2 fun x106 hx106 => ?_)
      have hx106 := fR_isR hx106
      refine Eq.trans (q_iload_n dX13_walks_109 (mk0 rfl) rfl) ?_
      refine Eq.trans (q_iaload dX13_walks_110 (mk0 rfl) (no_ext hx106)) (bind_cg fun x110 => ?_)
      refine Eq.trans (q_callV (as := [.int x104, .int x110]) dX13_walks_111 (mk0 rfl) rfl rfl rfl (by simp [catS, ct_i, ct_l, ct_r, ct_n, ct_x, (cat_R hx71)]) (Nat.le_of_ble_eq_true rfl)) (bind_cg fun b111 => ?_)
      refine Eq.trans (cI_bind (Or.inl rfl)) (bind_cg fun p111 => ?_)
      show RS (ZZ L xs) (d + 1) mX13_walks 114 [some (.ref o), some (.int i1), some (.int p2.2)] [.int p111.2, .int i1, x71] p111.1 = _
      rfl
    · refine Eq.trans (q_aload_n dX13_walks_85 (mk0 rfl) rfl rfl) ?_
      refine Eq.trans (q_aload_n dX13_walks_86 (mk0 rfl) rfl rfl) ?_
      refine Eq.trans (q_getR (ci := 13) (k := 7) dX13_walks_87 (mk0 rfl) rfl) (bind_cg2 fun x87 hx87 => ?_)
      have hx87 := fR_isR hx87
      refine Eq.trans (q_iload_n dX13_walks_90 (mk0 rfl) rfl) ?_
      refine Eq.trans (q_iaload dX13_walks_91 (mk0 rfl) (no_ext hx87)) (bind_cg fun x91 => ?_)
      refine Eq.trans (q_callV (as := [.int x91]) dX13_walks_92 (mk0 rfl) rfl rfl rfl (by simp [catS, ct_i, ct_l, ct_r, ct_n, ct_x, (cat_R hx71)]) (Nat.le_of_ble_eq_true rfl)) (bind_cg fun b92 => ?_)
      refine Eq.trans (cI_bind (Or.inl rfl)) (bind_cg fun p92 => ?_)
      show RS (ZZ L xs) (d + 1) mX13_walks 95 [some (.ref o), some (.int i1), some (.int p2.2)] [.int p92.2, .int i1, x71] p92.1 = _
      refine Eq.trans (q_goto (t := 114) dX13_walks_95 (mk0 rfl) rfl) ?_
      rfl
  · refine Eq.trans (q_aload_n dX13_walks_18 (mk0 rfl) rfl rfl) ?_
    refine Eq.trans (q_getR (ci := 13) (k := 7) dX13_walks_19 (mk0 rfl) rfl) (bind_cg2 fun x19 hx19 => ?_)
    have hx19 := fR_isR hx19
    refine Eq.trans (q_iload_n dX13_walks_22 (mk0 rfl) rfl) ?_
    refine Eq.trans (q_aload_n dX13_walks_23 (mk0 rfl) rfl rfl) ?_
    refine Eq.trans (q_aload_n dX13_walks_24 (mk0 rfl) rfl rfl) ?_
    refine Eq.trans (q_getR (ci := 13) (k := 7) dX13_walks_25 (mk0 rfl) rfl) (bind_cg2 fun x25 hx25 => ?_)
    have hx25 := fR_isR hx25
    refine Eq.trans (q_iload_n dX13_walks_28 (mk0 rfl) rfl) ?_
    refine Eq.trans (q_iaload dX13_walks_29 (mk0 rfl) (no_ext hx25)) (bind_cg fun x29 => ?_)
    refine Eq.trans (q_callV (as := [.int x29]) dX13_walks_30 (mk0 rfl) rfl rfl rfl (by simp [catS, ct_i, ct_l, ct_r, ct_n, ct_x, (cat_R hx19)]) (Nat.le_of_ble_eq_true rfl)) (bind_cg fun b30 => ?_)
    refine Eq.trans (cI_bind (Or.inl rfl)) (bind_cg fun p30 => ?_)
    show RS (ZZ L xs) (d + 1) mX13_walks 33 [some (.ref o), some (.int i1), some (.int p2.2)] [.int p30.2, .int i1, x19] p30.1 = _
    refine Eq.trans (q_iastore dX13_walks_33 (mk0 rfl)) (bind_cg fun h33 => ?_)
    exact q_return dX13_walks_34 (mk0 rfl) rfl
set_option maxRecDepth 20000 in
theorem bX13_walks_114 {L : Nat} {xs : Nat → Int32} (d : Nat) (u0 : Option Value) (u1 : Option Value) (u2 : Option Value) (t0 : Int32) (t1 : Int32) (w2 : Value) (hw2 : isR w2 = true) (ph : PH) : RS (ZZ L xs) (d + 1) mX13_walks 114 [u0, u1, u2] [.int t0, .int t1, w2] ph = (wI ph w2 t1 t0).bind fun h114 => some (h114, none) := by
  refine Eq.trans (q_iastore dX13_walks_114 (show mK mX13_walks 114 [u0, u1, u2] = [none, none, none] from rfl)) (bind_cg fun h114 => ?_)
  exact q_return dX13_walks_115 (mk0 rfl) rfl
set_option maxRecDepth 20000 in
theorem bX13_endsTerm_0 {L : Nat} {xs : Nat → Int32} (d : Nat) (o : Nat) (ph : PH) : RS (ZZ L xs) (d + 1) mX13_endsTerm 0 [some (.ref o), none, none] [] ph = RS (ZZ L xs) (d + 1) mX13_endsTerm 4 [some (.ref o), some (.int ((-1))), some (.int 0)] [] ph := by
  refine Eq.trans (q_iconst (v := (-1)) dX13_endsTerm_0 (mk0 rfl) rfl) ?_
  refine Eq.trans (q_istore_n (lv2 := [some (.ref o), some (.int ((-1))), none]) dX13_endsTerm_1 (mk0 rfl) (Nat.le_of_ble_eq_true rfl) rfl) ?_
  refine Eq.trans (q_iconst (v := 0) dX13_endsTerm_2 (mk0 rfl) rfl) ?_
  refine Eq.trans (q_istore_n (lv2 := [some (.ref o), some (.int ((-1))), some (.int 0)]) dX13_endsTerm_3 (mk0 rfl) (Nat.le_of_ble_eq_true rfl) rfl) ?_
  rfl
set_option maxRecDepth 20000 in
theorem bX13_endsTerm_4 {L : Nat} {xs : Nat → Int32} (d : Nat) (o : Nat) (i1 : Int32) (i2 : Int32) (ph : PH) : RS (ZZ L xs) (d + 1) mX13_endsTerm 4 [some (.ref o), some (.int i1), some (.int i2)] [] ph = (fR ph (.ref o) 13 1).bind fun x6 => (eI ph x6 2).bind fun x10 => if (x10 : Int32) ≤ i2 then (fR ph (.ref o) 13 1).bind fun x51 => (wI ph x51 5 i1).bind fun h56 => if (i1 : Int32) = (-1) then RS (ZZ L xs) (d + 1) mX13_endsTerm 72 [some (.ref o), some (.int i1), some (.int i2)] [] h56 else (fR h56 (.ref o) 13 6).bind fun x63 => (eI h56 x63 i1).bind fun x68 => (wI h56 x63 i1 (x68 + 1)).bind fun h71 => RS (ZZ L xs) (d + 1) mX13_endsTerm 72 [some (.ref o), some (.int i1), some (.int i2)] [] h71 else (fR ph (.ref o) 13 4).bind fun x15 => (eI ph x15 i2).bind fun x19 => if ¬ (i1 : Int32) = (-1) then (fR ph (.ref o) 13 4).bind fun x30 => (eI ph x30 i1).bind fun x34 => RS (ZZ L xs) (d + 1) mX13_endsTerm 35 [some (.ref o), some (.int i1), some (.int i2)] [.int x34, .int x19] ph else RS (ZZ L xs) (d + 1) mX13_endsTerm 35 [some (.ref o), some (.int i1), some (.int i2)] [.int 0, .int x19] ph := by
  refine Eq.trans (q_iload_n dX13_endsTerm_4 (mk0 rfl) rfl) ?_
  refine Eq.trans (q_aload_n dX13_endsTerm_5 (mk0 rfl) rfl rfl) ?_
  refine Eq.trans (q_getR (ci := 13) (k := 1) dX13_endsTerm_6 (mk0 rfl) rfl) (bind_cg2 fun x6 hx6 => ?_)
  have hx6 := fR_isR hx6
  refine Eq.trans (q_iconst (v := 2) dX13_endsTerm_9 (mk0 rfl) rfl) ?_
  refine Eq.trans (q_iaload dX13_endsTerm_10 (mk0 rfl) (no_ext hx6)) (bind_cg fun x10 => ?_)
  refine Eq.trans (q_icmp_ge (t := 50) dX13_endsTerm_11 (mk0 rfl) rfl) (ite_cg ?_ ?_)
  · refine Eq.trans (q_aload_n dX13_endsTerm_50 (mk0 rfl) rfl rfl) ?_
    refine Eq.trans (q_getR (ci := 13) (k := 1) dX13_endsTerm_51 (mk0 rfl) rfl) (bind_cg2 fun x51 hx51 => ?_)
    have hx51 := fR_isR hx51
    refine Eq.trans (q_iconst (v := 5) dX13_endsTerm_54 (mk0 rfl) rfl) ?_
    refine Eq.trans (q_iload_n dX13_endsTerm_55 (mk0 rfl) rfl) ?_
    refine Eq.trans (q_iastore dX13_endsTerm_56 (mk0 rfl)) (bind_cg fun h56 => ?_)
    refine Eq.trans (q_iload_n dX13_endsTerm_57 (mk0 rfl) rfl) ?_
    refine Eq.trans (q_iconst (v := (-1)) dX13_endsTerm_58 (mk0 rfl) rfl) ?_
    refine Eq.trans (q_icmp_eq (t := 72) dX13_endsTerm_59 (mk0 rfl) rfl) (ite_cg ?_ ?_)
    · rfl
    · refine Eq.trans (q_aload_n dX13_endsTerm_62 (mk0 rfl) rfl rfl) ?_
      refine Eq.trans (q_getR (ci := 13) (k := 6) dX13_endsTerm_63 (mk0 rfl) rfl) (bind_cg2 fun x63 hx63 => ?_)
      have hx63 := fR_isR hx63
      refine Eq.trans (q_iload_n dX13_endsTerm_66 (mk0 rfl) rfl) ?_
      refine Eq.trans (q_dup2 dX13_endsTerm_67 (mk0 rfl) rfl (cat_R hx63)) ?_
      refine Eq.trans (q_iaload dX13_endsTerm_68 (mk0 rfl) (no_ext hx63)) (bind_cg fun x68 => ?_)
      refine Eq.trans (q_iconst (v := 1) dX13_endsTerm_69 (mk0 rfl) rfl) ?_
      refine Eq.trans (q_iadd dX13_endsTerm_70 (mk0 rfl)) ?_
      refine Eq.trans (q_iastore dX13_endsTerm_71 (mk0 rfl)) (bind_cg fun h71 => ?_)
      rfl
  · refine Eq.trans (q_aload_n dX13_endsTerm_14 (mk0 rfl) rfl rfl) ?_
    refine Eq.trans (q_getR (ci := 13) (k := 4) dX13_endsTerm_15 (mk0 rfl) rfl) (bind_cg2 fun x15 hx15 => ?_)
    have hx15 := fR_isR hx15
    refine Eq.trans (q_iload_n dX13_endsTerm_18 (mk0 rfl) rfl) ?_
    refine Eq.trans (q_iaload dX13_endsTerm_19 (mk0 rfl) (no_ext hx15)) (bind_cg fun x19 => ?_)
    refine Eq.trans (q_iload_n dX13_endsTerm_20 (mk0 rfl) rfl) ?_
    refine Eq.trans (q_iconst (v := (-1)) dX13_endsTerm_21 (mk0 rfl) rfl) ?_
    refine Eq.trans (q_icmp_ne (t := 29) dX13_endsTerm_22 (mk0 rfl) rfl) (ite_cg ?_ ?_)
    · refine Eq.trans (q_aload_n dX13_endsTerm_29 (mk0 rfl) rfl rfl) ?_
      refine Eq.trans (q_getR (ci := 13) (k := 4) dX13_endsTerm_30 (mk0 rfl) rfl) (bind_cg2 fun x30 hx30 => ?_)
      have hx30 := fR_isR hx30
      refine Eq.trans (q_iload_n dX13_endsTerm_33 (mk0 rfl) rfl) ?_
      refine Eq.trans (q_iaload dX13_endsTerm_34 (mk0 rfl) (no_ext hx30)) (bind_cg fun x34 => ?_)
      rfl
    · refine Eq.trans (q_iconst (v := 0) dX13_endsTerm_25 (mk0 rfl) rfl) ?_
      refine Eq.trans (q_goto (t := 35) dX13_endsTerm_26 (mk0 rfl) rfl) ?_
      rfl
set_option maxRecDepth 20000 in
theorem bX13_endsTerm_35 {L : Nat} {xs : Nat → Int32} (d : Nat) (o : Nat) (i1 : Int32) (i2 : Int32) (t0 : Int32) (t1 : Int32) (ph : PH) : RS (ZZ L xs) (d + 1) mX13_endsTerm 35 [some (.ref o), some (.int i1), some (.int i2)] [.int t0, .int t1] ph = if (t1 : Int32) ≤ t0 then RS (ZZ L xs) (d + 1) mX13_endsTerm 43 [some (.ref o), some (.int i1), some (.int i2)] [.int i1] ph else RS (ZZ L xs) (d + 1) mX13_endsTerm 43 [some (.ref o), some (.int i1), some (.int i2)] [.int i2] ph := by
  refine Eq.trans (q_icmp_le (t := 42) dX13_endsTerm_35 (mk0 rfl) rfl) (ite_cg ?_ ?_)
  · refine Eq.trans (q_iload_n dX13_endsTerm_42 (mk0 rfl) rfl) ?_
    rfl
  · refine Eq.trans (q_iload_n dX13_endsTerm_38 (mk0 rfl) rfl) ?_
    refine Eq.trans (q_goto (t := 43) dX13_endsTerm_39 (mk0 rfl) rfl) ?_
    rfl
set_option maxRecDepth 20000 in
theorem bX13_endsTerm_43 {L : Nat} {xs : Nat → Int32} (d : Nat) (o : Nat) (u1 : Option Value) (i2 : Int32) (t0 : Int32) (ph : PH) : RS (ZZ L xs) (d + 1) mX13_endsTerm 43 [some (.ref o), u1, some (.int i2)] [.int t0] ph = RS (ZZ L xs) (d + 1) mX13_endsTerm 4 [some (.ref o), some (.int t0), some (.int (i2 + 1))] [] ph := by
  refine Eq.trans (q_istore_n (lv2 := [some (.ref o), some (.int t0), some (.int i2)]) dX13_endsTerm_43 (show mK mX13_endsTerm 43 [some (.ref o), u1, some (.int i2)] = [some (.ref o), none, some (.int i2)] from rfl) (Nat.le_of_ble_eq_true rfl) rfl) ?_
  refine Eq.trans (q_iinc (v := 1) (lv2 := [some (.ref o), some (.int t0), some (.int (i2 + 1))]) dX13_endsTerm_44 (mk0 rfl) rfl rfl rfl) ?_
  refine Eq.trans (q_goto (t := 4) dX13_endsTerm_47 (mk0 rfl) rfl) ?_
  rfl
set_option maxRecDepth 20000 in
theorem bX13_endsTerm_72 {L : Nat} {xs : Nat → Int32} (d : Nat) (o : Nat) (u1 : Option Value) (u2 : Option Value) (ph : PH) : RS (ZZ L xs) (d + 1) mX13_endsTerm 72 [some (.ref o), u1, u2] [] ph = RS (ZZ L xs) (d + 1) mX13_endsTerm 74 [some (.ref o), none, some (.int 0)] [] ph := by
  refine Eq.trans (q_iconst (v := 0) dX13_endsTerm_72 (show mK mX13_endsTerm 72 [some (.ref o), u1, u2] = [some (.ref o), none, none] from rfl) rfl) ?_
  refine Eq.trans (q_istore_n (lv2 := [some (.ref o), none, some (.int 0)]) dX13_endsTerm_73 (mk0 rfl) (Nat.le_of_ble_eq_true rfl) rfl) ?_
  rfl
set_option maxRecDepth 20000 in
theorem bX13_endsTerm_74 {L : Nat} {xs : Nat → Int32} (d : Nat) (o : Nat) (u1 : Option Value) (i2 : Int32) (ph : PH) : RS (ZZ L xs) (d + 1) mX13_endsTerm 74 [some (.ref o), u1, some (.int i2)] [] ph = if (6 : Int32) ≤ i2 then some (ph, none) else (fR ph (.ref o) 13 4).bind fun x81 => (wI ph x81 i2 0).bind fun h86 => RS (ZZ L xs) (d + 1) mX13_endsTerm 74 [some (.ref o), none, some (.int (i2 + 1))] [] h86 := by
  refine Eq.trans (q_iload_n dX13_endsTerm_74 (show mK mX13_endsTerm 74 [some (.ref o), u1, some (.int i2)] = [some (.ref o), none, some (.int i2)] from rfl) rfl) ?_
  refine Eq.trans (q_bipush (v := 6) dX13_endsTerm_75 (mk0 rfl) rfl) ?_
  refine Eq.trans (q_icmp_ge (t := 93) dX13_endsTerm_77 (mk0 rfl) rfl) (ite_cg ?_ ?_)
  · exact q_return dX13_endsTerm_93 (mk0 rfl) rfl
  · refine Eq.trans (q_aload_n dX13_endsTerm_80 (mk0 rfl) rfl rfl) ?_
    refine Eq.trans (q_getR (ci := 13) (k := 4) dX13_endsTerm_81 (mk0 rfl) rfl) (bind_cg2 fun x81 hx81 => ?_)
    have hx81 := fR_isR hx81
    refine Eq.trans (q_iload_n dX13_endsTerm_84 (mk0 rfl) rfl) ?_
    refine Eq.trans (q_iconst (v := 0) dX13_endsTerm_85 (mk0 rfl) rfl) ?_
    refine Eq.trans (q_iastore dX13_endsTerm_86 (mk0 rfl)) (bind_cg fun h86 => ?_)
    refine Eq.trans (q_iinc (v := 1) (lv2 := [some (.ref o), none, some (.int (i2 + 1))]) dX13_endsTerm_87 (mk0 rfl) rfl rfl rfl) ?_
    refine Eq.trans (q_goto (t := 74) dX13_endsTerm_90 (mk0 rfl) rfl) ?_
    rfl
set_option maxRecDepth 20000 in
theorem bX13_goes_0 {L : Nat} {xs : Nat → Int32} (d : Nat) (o : Nat) (ph : PH) : RS (ZZ L xs) (d + 1) mX13_goes 0 [some (.ref o), none, none] [] ph = RS (ZZ L xs) (d + 1) mX13_goes 4 [some (.ref o), some (.int 0), some (.int 0)] [] ph := by
  refine Eq.trans (q_iconst (v := 0) dX13_goes_0 (mk0 rfl) rfl) ?_
  refine Eq.trans (q_istore_n (lv2 := [some (.ref o), some (.int 0), none]) dX13_goes_1 (mk0 rfl) (Nat.le_of_ble_eq_true rfl) rfl) ?_
  refine Eq.trans (q_iconst (v := 0) dX13_goes_2 (mk0 rfl) rfl) ?_
  refine Eq.trans (q_istore_n (lv2 := [some (.ref o), some (.int 0), some (.int 0)]) dX13_goes_3 (mk0 rfl) (Nat.le_of_ble_eq_true rfl) rfl) ?_
  rfl
set_option maxRecDepth 20000 in
theorem bX13_goes_4 {L : Nat} {xs : Nat → Int32} (d : Nat) (o : Nat) (i1 : Int32) (i2 : Int32) (ph : PH) : RS (ZZ L xs) (d + 1) mX13_goes 4 [some (.ref o), some (.int i1), some (.int i2)] [] ph = (fR ph (.ref o) 13 1).bind fun x6 => (eI ph x6 3).bind fun x10 => if (x10 : Int32) ≤ i2 then RS (ZZ L xs) (d + 1) mX13_goes 69 [some (.ref o), some (.int i1), some (.int 0)] [] ph else (fR ph (.ref o) 13 7).bind fun x15 => (fR ph (.ref o) 13 7).bind fun x20 => (eI ph x20 i2).bind fun x24 => if ¬ (x24 : Int32) = (-1) then RS (ZZ L xs) (d + 1) mX13_goes 54 [some (.ref o), some (.int i1), some (.int i2)] [.int i2, x15] ph else (fR ph (.ref o) 13 1).bind fun x30 => (eI ph x30 4).bind fun x34 => (fR ph (.ref o) 13 13).bind fun x36 => (eI ph x36 i2).bind fun x40 => if (x40 : Int32) = 0 then none else if ¬ (iRem x34 x40 : Int32) = 0 then RS (ZZ L xs) (d + 1) mX13_goes 54 [some (.ref o), some (.int i1), some (.int i2)] [.int i2, x15] ph else (fR ph (.ref o) 13 11).bind fun x46 => (eI ph x46 i2).bind fun x50 => RS (ZZ L xs) (d + 1) mX13_goes 60 [some (.ref o), some (.int i1), some (.int i2)] [.int x50, .int i2, x15] ph := by
  refine Eq.trans (q_iload_n dX13_goes_4 (mk0 rfl) rfl) ?_
  refine Eq.trans (q_aload_n dX13_goes_5 (mk0 rfl) rfl rfl) ?_
  refine Eq.trans (q_getR (ci := 13) (k := 1) dX13_goes_6 (mk0 rfl) rfl) (bind_cg2 fun x6 hx6 => ?_)
  have hx6 := fR_isR hx6
  refine Eq.trans (q_iconst (v := 3) dX13_goes_9 (mk0 rfl) rfl) ?_
  refine Eq.trans (q_iaload dX13_goes_10 (mk0 rfl) (no_ext hx6)) (bind_cg fun x10 => ?_)
  refine Eq.trans (q_icmp_ge (t := 67) dX13_goes_11 (mk0 rfl) rfl) (ite_cg ?_ ?_)
  · refine Eq.trans (q_iconst (v := 0) dX13_goes_67 (mk0 rfl) rfl) ?_
    refine Eq.trans (q_istore_n (lv2 := [some (.ref o), some (.int i1), some (.int 0)]) dX13_goes_68 (mk0 rfl) (Nat.le_of_ble_eq_true rfl) rfl) ?_
    rfl
  · refine Eq.trans (q_aload_n dX13_goes_14 (mk0 rfl) rfl rfl) ?_
    refine Eq.trans (q_getR (ci := 13) (k := 7) dX13_goes_15 (mk0 rfl) rfl) (bind_cg2 fun x15 hx15 => ?_)
    have hx15 := fR_isR hx15
    refine Eq.trans (q_iload_n dX13_goes_18 (mk0 rfl) rfl) ?_
    refine Eq.trans (q_aload_n dX13_goes_19 (mk0 rfl) rfl rfl) ?_
    refine Eq.trans (q_getR (ci := 13) (k := 7) dX13_goes_20 (mk0 rfl) rfl) (bind_cg2 fun x20 hx20 => ?_)
    have hx20 := fR_isR hx20
    refine Eq.trans (q_iload_n dX13_goes_23 (mk0 rfl) rfl) ?_
    refine Eq.trans (q_iaload dX13_goes_24 (mk0 rfl) (no_ext hx20)) (bind_cg fun x24 => ?_)
    refine Eq.trans (q_iconst (v := (-1)) dX13_goes_25 (mk0 rfl) rfl) ?_
    refine Eq.trans (q_icmp_ne (t := 54) dX13_goes_26 (mk0 rfl) rfl) (ite_cg ?_ ?_)
    · rfl
    · refine Eq.trans (q_aload_n dX13_goes_29 (mk0 rfl) rfl rfl) ?_
      refine Eq.trans (q_getR (ci := 13) (k := 1) dX13_goes_30 (mk0 rfl) rfl) (bind_cg2 fun x30 hx30 => ?_)
      have hx30 := fR_isR hx30
      refine Eq.trans (q_iconst (v := 4) dX13_goes_33 (mk0 rfl) rfl) ?_
      refine Eq.trans (q_iaload dX13_goes_34 (mk0 rfl) (no_ext hx30)) (bind_cg fun x34 => ?_)
      refine Eq.trans (q_aload_n dX13_goes_35 (mk0 rfl) rfl rfl) ?_
      refine Eq.trans (q_getR (ci := 13) (k := 13) dX13_goes_36 (mk0 rfl) rfl) (bind_cg2 fun x36 hx36 => ?_)
      have hx36 := fR_isR hx36
      refine Eq.trans (q_iload_n dX13_goes_39 (mk0 rfl) rfl) ?_
      refine Eq.trans (q_iaload dX13_goes_40 (mk0 rfl) (no_ext hx36)) (bind_cg fun x40 => ?_)
      refine Eq.trans (q_irem dX13_goes_41 (mk0 rfl)) (ite_cg rfl ?_)
      refine Eq.trans (q_if_ne (t := 54) dX13_goes_42 (mk0 rfl) rfl) (ite_cg ?_ ?_)
      · rfl
      · refine Eq.trans (q_aload_n dX13_goes_45 (mk0 rfl) rfl rfl) ?_
        refine Eq.trans (q_getR (ci := 13) (k := 11) dX13_goes_46 (mk0 rfl) rfl) (bind_cg2 fun x46 hx46 => ?_)
        have hx46 := fR_isR hx46
        refine Eq.trans (q_iload_n dX13_goes_49 (mk0 rfl) rfl) ?_
        refine Eq.trans (q_iaload dX13_goes_50 (mk0 rfl) (no_ext hx46)) (bind_cg fun x50 => ?_)
        refine Eq.trans (q_goto (t := 60) dX13_goes_51 (mk0 rfl) rfl) ?_
        rfl
set_option maxRecDepth 20000 in
theorem bX13_goes_54 {L : Nat} {xs : Nat → Int32} (d : Nat) (o : Nat) (i1 : Int32) (i2 : Int32) (t0 : Int32) (w1 : Value) (hw1 : isR w1 = true) (ph : PH) : RS (ZZ L xs) (d + 1) mX13_goes 54 [some (.ref o), some (.int i1), some (.int i2)] [.int t0, w1] ph = (fR ph (.ref o) 13 7).bind fun x55 => (eI ph x55 i2).bind fun x59 => RS (ZZ L xs) (d + 1) mX13_goes 60 [some (.ref o), some (.int i1), some (.int i2)] [.int x59, .int t0, w1] ph := by
  refine Eq.trans (q_aload_n dX13_goes_54 (mk0 rfl) rfl rfl) ?_
  refine Eq.trans (q_getR (ci := 13) (k := 7) dX13_goes_55 (mk0 rfl) rfl) (bind_cg2 fun x55 hx55 => ?_)
  have hx55 := fR_isR hx55
  refine Eq.trans (q_iload_n dX13_goes_58 (mk0 rfl) rfl) ?_
  refine Eq.trans (q_iaload dX13_goes_59 (mk0 rfl) (no_ext hx55)) (bind_cg fun x59 => ?_)
  rfl
set_option maxRecDepth 20000 in
theorem bX13_goes_60 {L : Nat} {xs : Nat → Int32} (d : Nat) (o : Nat) (i1 : Int32) (i2 : Int32) (t0 : Int32) (t1 : Int32) (w2 : Value) (hw2 : isR w2 = true) (ph : PH) : RS (ZZ L xs) (d + 1) mX13_goes 60 [some (.ref o), some (.int i1), some (.int i2)] [.int t0, .int t1, w2] ph = (wI ph w2 t1 t0).bind fun h60 => RS (ZZ L xs) (d + 1) mX13_goes 4 [some (.ref o), some (.int i1), some (.int (i2 + 1))] [] h60 := by
  refine Eq.trans (q_iastore dX13_goes_60 (mk0 rfl)) (bind_cg fun h60 => ?_)
  refine Eq.trans (q_iinc (v := 1) (lv2 := [some (.ref o), some (.int i1), some (.int (i2 + 1))]) dX13_goes_61 (mk0 rfl) rfl rfl rfl) ?_
  refine Eq.trans (q_goto (t := 4) dX13_goes_64 (mk0 rfl) rfl) ?_
  rfl
set_option maxRecDepth 20000 in
theorem bX13_goes_69 {L : Nat} {xs : Nat → Int32} (d : Nat) (o : Nat) (i1 : Int32) (i2 : Int32) (ph : PH) : RS (ZZ L xs) (d + 1) mX13_goes 69 [some (.ref o), some (.int i1), some (.int i2)] [] ph = (fR ph (.ref o) 13 1).bind fun x71 => (eI ph x71 3).bind fun x75 => if (x75 : Int32) ≤ i2 then (fR ph (.ref o) 13 1).bind fun x162 => (eI ph x162 4).bind fun x166 => (fR ph (.ref o) 13 1).bind fun x168 => (eI ph x168 1).bind fun x172 => if (x172 : Int32) = 0 then none else (fR ph (.ref o) 13 1).bind fun x175 => (eI ph x175 1).bind fun x179 => if ¬ (iRem x166 x172 : Int32) = x179 - 1 then RS (ZZ L xs) (d + 1) mX13_goes 189 [some (.ref o), some (.int i1), some (.int i2)] [] ph else (iO ph (.ref o) 13).bind fun b186 => (cV (ZZ L xs) d mX13_endsTerm [.ref b186] ph).bind fun p186 => RS (ZZ L xs) (d + 1) mX13_goes 189 [some (.ref o), some (.int i1), some (.int i2)] [] p186 else (fR ph (.ref o) 13 48).bind fun x80 => (wI ph x80 i2 ((-1))).bind fun h85 => (fR h85 (.ref o) 13 7).bind fun x87 => (eI h85 x87 i2).bind fun x91 => (fR h85 (.ref o) 13 12).bind fun x93 => (eI h85 x93 i2).bind fun x97 => if ¬ (x91 : Int32) = x97 then (fR h85 (.ref o) 13 7).bind fun x123 => (eI h85 x123 i2).bind fun x127 => if (x127 : Int32) = (-1) then RS (ZZ L xs) (d + 1) mX13_goes 155 [some (.ref o), some (.int i1), some (.int i2)] [] h85 else (iO h85 (.ref o) 13).bind fun b134 => (cV (ZZ L xs) d mX13_walks [.ref b134, .int i2] h85).bind fun p134 => (fR p134 (.ref o) 13 48).bind fun x139 => (eI p134 x139 i2).bind fun x143 => if ¬ (x143 : Int32) = (-1) then RS (ZZ L xs) (d + 1) mX13_goes 153 [some (.ref o), some (.int i1), some (.int i2)] [.int 1, .int i1] p134 else RS (ZZ L xs) (d + 1) mX13_goes 153 [some (.ref o), some (.int i1), some (.int i2)] [.int 0, .int i1] p134 else (fR h85 (.ref o) 13 7).bind fun x102 => (wI h85 x102 i2 ((-1))).bind fun h107 => (fR h107 (.ref o) 13 1).bind fun x109 => (eI h107 x109 6).bind fun x115 => (wI h107 x109 6 (x115 + 1)).bind fun h118 => RS (ZZ L xs) (d + 1) mX13_goes 155 [some (.ref o), some (.int i1), some (.int i2)] [] h118 := by
  refine Eq.trans (q_iload_n dX13_goes_69 (mk0 rfl) rfl) ?_
  refine Eq.trans (q_aload_n dX13_goes_70 (mk0 rfl) rfl rfl) ?_
  refine Eq.trans (q_getR (ci := 13) (k := 1) dX13_goes_71 (mk0 rfl) rfl) (bind_cg2 fun x71 hx71 => ?_)
  have hx71 := fR_isR hx71
  refine Eq.trans (q_iconst (v := 3) dX13_goes_74 (mk0 rfl) rfl) ?_
  refine Eq.trans (q_iaload dX13_goes_75 (mk0 rfl) (no_ext hx71)) (bind_cg fun x75 => ?_)
  refine Eq.trans (q_icmp_ge (t := 161) dX13_goes_76 (mk0 rfl) rfl) (ite_cg ?_ ?_)
  · refine Eq.trans (q_aload_n dX13_goes_161 (mk0 rfl) rfl rfl) ?_
    refine Eq.trans (q_getR (ci := 13) (k := 1) dX13_goes_162 (mk0 rfl) rfl) (bind_cg2 fun x162 hx162 => ?_)
    have hx162 := fR_isR hx162
    refine Eq.trans (q_iconst (v := 4) dX13_goes_165 (mk0 rfl) rfl) ?_
    refine Eq.trans (q_iaload dX13_goes_166 (mk0 rfl) (no_ext hx162)) (bind_cg fun x166 => ?_)
    refine Eq.trans (q_aload_n dX13_goes_167 (mk0 rfl) rfl rfl) ?_
    refine Eq.trans (q_getR (ci := 13) (k := 1) dX13_goes_168 (mk0 rfl) rfl) (bind_cg2 fun x168 hx168 => ?_)
    have hx168 := fR_isR hx168
    refine Eq.trans (q_iconst (v := 1) dX13_goes_171 (mk0 rfl) rfl) ?_
    refine Eq.trans (q_iaload dX13_goes_172 (mk0 rfl) (no_ext hx168)) (bind_cg fun x172 => ?_)
    refine Eq.trans (q_irem dX13_goes_173 (mk0 rfl)) (ite_cg rfl ?_)
    refine Eq.trans (q_aload_n dX13_goes_174 (mk0 rfl) rfl rfl) ?_
    refine Eq.trans (q_getR (ci := 13) (k := 1) dX13_goes_175 (mk0 rfl) rfl) (bind_cg2 fun x175 hx175 => ?_)
    have hx175 := fR_isR hx175
    refine Eq.trans (q_iconst (v := 1) dX13_goes_178 (mk0 rfl) rfl) ?_
    refine Eq.trans (q_iaload dX13_goes_179 (mk0 rfl) (no_ext hx175)) (bind_cg fun x179 => ?_)
    refine Eq.trans (q_iconst (v := 1) dX13_goes_180 (mk0 rfl) rfl) ?_
    refine Eq.trans (q_isub dX13_goes_181 (mk0 rfl)) ?_
    refine Eq.trans (q_icmp_ne (t := 189) dX13_goes_182 (mk0 rfl) rfl) (ite_cg ?_ ?_)
    · rfl
    · refine Eq.trans (q_aload_n dX13_goes_185 (mk0 rfl) rfl rfl) ?_
      refine Eq.trans (q_callV (as := []) dX13_goes_186 (mk0 rfl) rfl rfl rfl (Nat.le_of_ble_eq_true rfl) (Nat.le_of_ble_eq_true rfl)) (bind_cg fun b186 => ?_)
      refine Eq.trans (cV_bind rfl) (bind_cg fun p186 => ?_)
      show RS (ZZ L xs) (d + 1) mX13_goes 189 [some (.ref o), some (.int i1), some (.int i2)] [] p186 = _
      rfl
  · refine Eq.trans (q_aload_n dX13_goes_79 (mk0 rfl) rfl rfl) ?_
    refine Eq.trans (q_getR (ci := 13) (k := 48) dX13_goes_80 (mk0 rfl) rfl) (bind_cg2 fun x80 hx80 => ?_)
    have hx80 := fR_isR hx80
    refine Eq.trans (q_iload_n dX13_goes_83 (mk0 rfl) rfl) ?_
    refine Eq.trans (q_iconst (v := (-1)) dX13_goes_84 (mk0 rfl) rfl) ?_
    refine Eq.trans (q_iastore dX13_goes_85 (mk0 rfl)) (bind_cg fun h85 => ?_)
    refine Eq.trans (q_aload_n dX13_goes_86 (mk0 rfl) rfl rfl) ?_
    refine Eq.trans (q_getR (ci := 13) (k := 7) dX13_goes_87 (mk0 rfl) rfl) (bind_cg2 fun x87 hx87 => ?_)
    have hx87 := fR_isR hx87
    refine Eq.trans (q_iload_n dX13_goes_90 (mk0 rfl) rfl) ?_
    refine Eq.trans (q_iaload dX13_goes_91 (mk0 rfl) (no_ext hx87)) (bind_cg fun x91 => ?_)
    refine Eq.trans (q_aload_n dX13_goes_92 (mk0 rfl) rfl rfl) ?_
    refine Eq.trans (q_getR (ci := 13) (k := 12) dX13_goes_93 (mk0 rfl) rfl) (bind_cg2 fun x93 hx93 => ?_)
    have hx93 := fR_isR hx93
    refine Eq.trans (q_iload_n dX13_goes_96 (mk0 rfl) rfl) ?_
    refine Eq.trans (q_iaload dX13_goes_97 (mk0 rfl) (no_ext hx93)) (bind_cg fun x97 => ?_)
    refine Eq.trans (q_icmp_ne (t := 122) dX13_goes_98 (mk0 rfl) rfl) (ite_cg ?_ ?_)
    · refine Eq.trans (q_aload_n dX13_goes_122 (mk0 rfl) rfl rfl) ?_
      refine Eq.trans (q_getR (ci := 13) (k := 7) dX13_goes_123 (mk0 rfl) rfl) (bind_cg2 fun x123 hx123 => ?_)
      have hx123 := fR_isR hx123
      refine Eq.trans (q_iload_n dX13_goes_126 (mk0 rfl) rfl) ?_
      refine Eq.trans (q_iaload dX13_goes_127 (mk0 rfl) (no_ext hx123)) (bind_cg fun x127 => ?_)
      refine Eq.trans (q_iconst (v := (-1)) dX13_goes_128 (mk0 rfl) rfl) ?_
      refine Eq.trans (q_icmp_eq (t := 155) dX13_goes_129 (mk0 rfl) rfl) (ite_cg ?_ ?_)
      · rfl
      · refine Eq.trans (q_aload_n dX13_goes_132 (mk0 rfl) rfl rfl) ?_
        refine Eq.trans (q_iload_n dX13_goes_133 (mk0 rfl) rfl) ?_
        refine Eq.trans (q_callV (as := [.int i2]) dX13_goes_134 (mk0 rfl) rfl rfl rfl (Nat.le_of_ble_eq_true rfl) (Nat.le_of_ble_eq_true rfl)) (bind_cg fun b134 => ?_)
        refine Eq.trans (cV_bind rfl) (bind_cg fun p134 => ?_)
        show RS (ZZ L xs) (d + 1) mX13_goes 137 [some (.ref o), some (.int i1), some (.int i2)] [] p134 = _
        refine Eq.trans (q_iload_n dX13_goes_137 (mk0 rfl) rfl) ?_
        refine Eq.trans (q_aload_n dX13_goes_138 (mk0 rfl) rfl rfl) ?_
        refine Eq.trans (q_getR (ci := 13) (k := 48) dX13_goes_139 (mk0 rfl) rfl) (bind_cg2 fun x139 hx139 => ?_)
        have hx139 := fR_isR hx139
        refine Eq.trans (q_iload_n dX13_goes_142 (mk0 rfl) rfl) ?_
        refine Eq.trans (q_iaload dX13_goes_143 (mk0 rfl) (no_ext hx139)) (bind_cg fun x143 => ?_)
        refine Eq.trans (q_iconst (v := (-1)) dX13_goes_144 (mk0 rfl) rfl) ?_
        refine Eq.trans (q_icmp_ne (t := 152) dX13_goes_145 (mk0 rfl) rfl) (ite_cg ?_ ?_)
        · refine Eq.trans (q_iconst (v := 1) dX13_goes_152 (mk0 rfl) rfl) ?_
          rfl
        · refine Eq.trans (q_iconst (v := 0) dX13_goes_148 (mk0 rfl) rfl) ?_
          refine Eq.trans (q_goto (t := 153) dX13_goes_149 (mk0 rfl) rfl) ?_
          rfl
    · refine Eq.trans (q_aload_n dX13_goes_101 (mk0 rfl) rfl rfl) ?_
      refine Eq.trans (q_getR (ci := 13) (k := 7) dX13_goes_102 (mk0 rfl) rfl) (bind_cg2 fun x102 hx102 => ?_)
      have hx102 := fR_isR hx102
      refine Eq.trans (q_iload_n dX13_goes_105 (mk0 rfl) rfl) ?_
      refine Eq.trans (q_iconst (v := (-1)) dX13_goes_106 (mk0 rfl) rfl) ?_
      refine Eq.trans (q_iastore dX13_goes_107 (mk0 rfl)) (bind_cg fun h107 => ?_)
      refine Eq.trans (q_aload_n dX13_goes_108 (mk0 rfl) rfl rfl) ?_
      refine Eq.trans (q_getR (ci := 13) (k := 1) dX13_goes_109 (mk0 rfl) rfl) (bind_cg2 fun x109 hx109 => ?_)
      have hx109 := fR_isR hx109
      refine Eq.trans (q_bipush (v := 6) dX13_goes_112 (mk0 rfl) rfl) ?_
      refine Eq.trans (q_dup2 dX13_goes_114 (mk0 rfl) rfl (cat_R hx109)) ?_
      refine Eq.trans (q_iaload dX13_goes_115 (mk0 rfl) (no_ext hx109)) (bind_cg fun x115 => ?_)
      refine Eq.trans (q_iconst (v := 1) dX13_goes_116 (mk0 rfl) rfl) ?_
      refine Eq.trans (q_iadd dX13_goes_117 (mk0 rfl)) ?_
      refine Eq.trans (q_iastore dX13_goes_118 (mk0 rfl)) (bind_cg fun h118 => ?_)
      refine Eq.trans (q_goto (t := 155) dX13_goes_119 (mk0 rfl) rfl) ?_
      rfl
set_option maxRecDepth 20000 in
theorem bX13_goes_153 {L : Nat} {xs : Nat → Int32} (d : Nat) (o : Nat) (u1 : Option Value) (i2 : Int32) (t0 : Int32) (t1 : Int32) (ph : PH) : RS (ZZ L xs) (d + 1) mX13_goes 153 [some (.ref o), u1, some (.int i2)] [.int t0, .int t1] ph = RS (ZZ L xs) (d + 1) mX13_goes 155 [some (.ref o), some (.int (t1 + t0)), some (.int i2)] [] ph := by
  refine Eq.trans (q_iadd dX13_goes_153 (show mK mX13_goes 153 [some (.ref o), u1, some (.int i2)] = [some (.ref o), none, some (.int i2)] from rfl)) ?_
  refine Eq.trans (q_istore_n (lv2 := [some (.ref o), some (.int (t1 + t0)), some (.int i2)]) dX13_goes_154 (mk0 rfl) (Nat.le_of_ble_eq_true rfl) rfl) ?_
  rfl
set_option maxRecDepth 20000 in
theorem bX13_goes_155 {L : Nat} {xs : Nat → Int32} (d : Nat) (o : Nat) (i1 : Int32) (i2 : Int32) (ph : PH) : RS (ZZ L xs) (d + 1) mX13_goes 155 [some (.ref o), some (.int i1), some (.int i2)] [] ph = RS (ZZ L xs) (d + 1) mX13_goes 69 [some (.ref o), some (.int i1), some (.int (i2 + 1))] [] ph := by
  refine Eq.trans (q_iinc (v := 1) (lv2 := [some (.ref o), some (.int i1), some (.int (i2 + 1))]) dX13_goes_155 (mk0 rfl) rfl rfl rfl) ?_
  refine Eq.trans (q_goto (t := 69) dX13_goes_158 (mk0 rfl) rfl) ?_
  rfl
set_option maxRecDepth 20000 in
theorem bX13_goes_189 {L : Nat} {xs : Nat → Int32} (d : Nat) (o : Nat) (i1 : Int32) (u2 : Option Value) (ph : PH) : RS (ZZ L xs) (d + 1) mX13_goes 189 [some (.ref o), some (.int i1), u2] [] ph = (fR ph (.ref o) 13 1).bind fun x190 => (eI ph x190 4).bind fun x195 => (wI ph x190 4 (x195 + 1)).bind fun h198 => some (h198, some (.int i1)) := by
  refine Eq.trans (q_aload_n dX13_goes_189 (show mK mX13_goes 189 [some (.ref o), some (.int i1), u2] = [some (.ref o), some (.int i1), none] from rfl) rfl rfl) ?_
  refine Eq.trans (q_getR (ci := 13) (k := 1) dX13_goes_190 (mk0 rfl) rfl) (bind_cg2 fun x190 hx190 => ?_)
  have hx190 := fR_isR hx190
  refine Eq.trans (q_iconst (v := 4) dX13_goes_193 (mk0 rfl) rfl) ?_
  refine Eq.trans (q_dup2 dX13_goes_194 (mk0 rfl) rfl (cat_R hx190)) ?_
  refine Eq.trans (q_iaload dX13_goes_195 (mk0 rfl) (no_ext hx190)) (bind_cg fun x195 => ?_)
  refine Eq.trans (q_iconst (v := 1) dX13_goes_196 (mk0 rfl) rfl) ?_
  refine Eq.trans (q_iadd dX13_goes_197 (mk0 rfl)) ?_
  refine Eq.trans (q_iastore dX13_goes_198 (mk0 rfl)) (bind_cg fun h198 => ?_)
  refine Eq.trans (q_iload_n dX13_goes_199 (mk0 rfl) rfl) ?_
  exact q_ireturn dX13_goes_200 (mk0 rfl) rfl
set_option maxRecDepth 20000 in
theorem bX13_goFor_0 {L : Nat} {xs : Nat → Int32} (d : Nat) (o : Nat) (i1 : Int32) (ph : PH) : RS (ZZ L xs) (d + 1) mX13_goFor 0 [some (.ref o), some (.int i1), none] [] ph = RS (ZZ L xs) (d + 1) mX13_goFor 2 [some (.ref o), some (.int i1), some (.int 0)] [] ph := by
  refine Eq.trans (q_iconst (v := 0) dX13_goFor_0 (mk0 rfl) rfl) ?_
  refine Eq.trans (q_istore_n (lv2 := [some (.ref o), some (.int i1), some (.int 0)]) dX13_goFor_1 (mk0 rfl) (Nat.le_of_ble_eq_true rfl) rfl) ?_
  rfl
set_option maxRecDepth 20000 in
theorem bX13_goFor_2 {L : Nat} {xs : Nat → Int32} (d : Nat) (o : Nat) (i1 : Int32) (i2 : Int32) (ph : PH) : RS (ZZ L xs) (d + 1) mX13_goFor 2 [some (.ref o), some (.int i1), some (.int i2)] [] ph = if (i1 : Int32) ≤ i2 then some (ph, none) else (iO ph (.ref o) 13).bind fun b8 => (cI (ZZ L xs) d mX13_goes [.ref b8] ph).bind fun p8 => RS (ZZ L xs) (d + 1) mX13_goFor 2 [some (.ref o), some (.int i1), some (.int (i2 + 1))] [] p8.1 := by
  refine Eq.trans (q_iload_n dX13_goFor_2 (mk0 rfl) rfl) ?_
  refine Eq.trans (q_iload_n dX13_goFor_3 (mk0 rfl) rfl) ?_
  refine Eq.trans (q_icmp_ge (t := 18) dX13_goFor_4 (mk0 rfl) rfl) (ite_cg ?_ ?_)
  · exact q_return dX13_goFor_18 (mk0 rfl) rfl
  · refine Eq.trans (q_aload_n dX13_goFor_7 (mk0 rfl) rfl rfl) ?_
    refine Eq.trans (q_callV (as := []) dX13_goFor_8 (mk0 rfl) rfl rfl rfl (Nat.le_of_ble_eq_true rfl) (Nat.le_of_ble_eq_true rfl)) (bind_cg fun b8 => ?_)
    refine Eq.trans (cI_bind (Or.inl rfl)) (bind_cg fun p8 => ?_)
    show RS (ZZ L xs) (d + 1) mX13_goFor 11 [some (.ref o), some (.int i1), some (.int i2)] [.int p8.2] p8.1 = _
    refine Eq.trans (q_pop dX13_goFor_11 (mk0 rfl) rfl) ?_
    refine Eq.trans (q_iinc (v := 1) (lv2 := [some (.ref o), some (.int i1), some (.int (i2 + 1))]) dX13_goFor_12 (mk0 rfl) rfl rfl rfl) ?_
    refine Eq.trans (q_goto (t := 2) dX13_goFor_15 (mk0 rfl) rfl) ?_
    rfl
set_option maxRecDepth 20000 in
theorem bX13_moves_0 {L : Nat} {xs : Nat → Int32} (d : Nat) (o : Nat) (i1 : Int32) (ph : PH) : RS (ZZ L xs) (d + 1) mX13_moves 0 [some (.ref o), some (.int i1), none] [] ph = (fZ ph (.ref o) 13 53).bind fun x1 => if (x1 : Int32) = 0 then RS (ZZ L xs) (d + 1) mX13_moves 20 [some (.ref o), some (.int i1), none] [.int i1] ph else (fR ph (.ref o) 13 49).bind fun x8 => (fI ph (.ref o) 13 52).bind fun x12 => (eI ph x8 x12).bind fun x15 => RS (ZZ L xs) (d + 1) mX13_moves 20 [some (.ref o), some (.int i1), none] [.int x15] ph := by
  refine Eq.trans (q_aload_n dX13_moves_0 (mk0 rfl) rfl rfl) ?_
  refine Eq.trans (q_getZ (ci := 13) (k := 53) dX13_moves_1 (mk0 rfl) rfl) (bind_cg fun x1 => ?_)
  refine Eq.trans (q_if_eq (t := 19) dX13_moves_4 (mk0 rfl) rfl) (ite_cg ?_ ?_)
  · refine Eq.trans (q_iload_n dX13_moves_19 (mk0 rfl) rfl) ?_
    rfl
  · refine Eq.trans (q_aload_n dX13_moves_7 (mk0 rfl) rfl rfl) ?_
    refine Eq.trans (q_getR (ci := 13) (k := 49) dX13_moves_8 (mk0 rfl) rfl) (bind_cg2 fun x8 hx8 => ?_)
    have hx8 := fR_isR hx8
    refine Eq.trans (q_aload_n dX13_moves_11 (mk0 rfl) rfl rfl) ?_
    refine Eq.trans (q_getI (ci := 13) (k := 52) dX13_moves_12 (mk0 rfl) rfl) (bind_cg fun x12 => ?_)
    refine Eq.trans (q_iaload dX13_moves_15 (mk0 rfl) (no_ext hx8)) (bind_cg fun x15 => ?_)
    refine Eq.trans (q_goto (t := 20) dX13_moves_16 (mk0 rfl) rfl) ?_
    rfl
set_option maxRecDepth 20000 in
theorem bX13_moves_20 {L : Nat} {xs : Nat → Int32} (d : Nat) (o : Nat) (u1 : Option Value) (u2 : Option Value) (t0 : Int32) (ph : PH) : RS (ZZ L xs) (d + 1) mX13_moves 20 [some (.ref o), u1, u2] [.int t0] ph = (fR ph (.ref o) 13 49).bind fun x22 => (fI ph (.ref o) 13 52).bind fun x26 => (wI ph x22 x26 t0).bind fun h30 => (fI h30 (.ref o) 13 52).bind fun x33 => (fP h30 (.ref o) 13 52 (.int (x33 + 1))).bind fun h38 => some (h38, some (.int t0)) := by
  refine Eq.trans (q_istore_n (lv2 := [some (.ref o), none, some (.int t0)]) dX13_moves_20 (show mK mX13_moves 20 [some (.ref o), u1, u2] = [some (.ref o), none, none] from rfl) (Nat.le_of_ble_eq_true rfl) rfl) ?_
  refine Eq.trans (q_aload_n dX13_moves_21 (mk0 rfl) rfl rfl) ?_
  refine Eq.trans (q_getR (ci := 13) (k := 49) dX13_moves_22 (mk0 rfl) rfl) (bind_cg2 fun x22 hx22 => ?_)
  have hx22 := fR_isR hx22
  refine Eq.trans (q_aload_n dX13_moves_25 (mk0 rfl) rfl rfl) ?_
  refine Eq.trans (q_getI (ci := 13) (k := 52) dX13_moves_26 (mk0 rfl) rfl) (bind_cg fun x26 => ?_)
  refine Eq.trans (q_iload_n dX13_moves_29 (mk0 rfl) rfl) ?_
  refine Eq.trans (q_iastore dX13_moves_30 (mk0 rfl)) (bind_cg fun h30 => ?_)
  refine Eq.trans (q_aload_n dX13_moves_31 (mk0 rfl) rfl rfl) ?_
  refine Eq.trans (q_dup dX13_moves_32 (mk0 rfl) rfl) ?_
  refine Eq.trans (q_getI (ci := 13) (k := 52) dX13_moves_33 (mk0 rfl) rfl) (bind_cg fun x33 => ?_)
  refine Eq.trans (q_iconst (v := 1) dX13_moves_36 (mk0 rfl) rfl) ?_
  refine Eq.trans (q_iadd dX13_moves_37 (mk0 rfl)) ?_
  refine Eq.trans (q_put (ci := 13) (k := 52) (kd := 0) dX13_moves_38 (mk0 rfl) rfl rfl (fun h => by cases h)) (bind_cg fun h38 => ?_)
  refine Eq.trans (q_iload_n dX13_moves_41 (mk0 rfl) rfl) ?_
  exact q_ireturn dX13_moves_42 (mk0 rfl) rfl
set_option maxRecDepth 20000 in
theorem bX13_movesRow_0 {L : Nat} {xs : Nat → Int32} (d : Nat) (o : Nat) (v1 : Value) (hv1 : isR v1 = true) (ph : PH) : RS (ZZ L xs) (d + 1) mX13_movesRow 0 [some (.ref o), some (v1), none] [] ph = RS (ZZ L xs) (d + 1) mX13_movesRow 2 [some (.ref o), some (v1), some (.int 0)] [] ph := by
  refine Eq.trans (q_iconst (v := 0) dX13_movesRow_0 (mk0 rfl) rfl) ?_
  refine Eq.trans (q_istore_n (lv2 := [some (.ref o), some (v1), some (.int 0)]) dX13_movesRow_1 (mk0 rfl) (Nat.le_of_ble_eq_true rfl) (by simp [s1, s2, s0, (cat_R hv1)] <;> rfl)) ?_
  rfl
set_option maxRecDepth 20000 in
theorem bX13_movesRow_2 {L : Nat} {xs : Nat → Int32} (d : Nat) (o : Nat) (v1 : Value) (i2 : Int32) (hv1 : isR v1 = true) (ph : PH) : RS (ZZ L xs) (d + 1) mX13_movesRow 2 [some (.ref o), some (v1), some (.int i2)] [] ph = (nA ph v1).bind fun x4 => if (x4 : Int32) ≤ i2 then some (ph, none) else (eI ph v1 i2).bind fun x13 => (iO ph (.ref o) 13).bind fun b14 => (cI (ZZ L xs) d mX13_moves [.ref b14, .int x13] ph).bind fun p14 => (wI p14.1 v1 i2 p14.2).bind fun h17 => RS (ZZ L xs) (d + 1) mX13_movesRow 2 [some (.ref o), some (v1), some (.int (i2 + 1))] [] h17 := by
  refine Eq.trans (q_iload_n dX13_movesRow_2 (mk0 rfl) rfl) ?_
  refine Eq.trans (q_aload_n dX13_movesRow_3 (mk0 rfl) rfl (isA_R hv1)) ?_
  refine Eq.trans (q_alen dX13_movesRow_4 (mk0 rfl) (no_ext hv1)) (bind_cg fun x4 => ?_)
  refine Eq.trans (q_icmp_ge (t := 24) dX13_movesRow_5 (mk0 rfl) rfl) (ite_cg ?_ ?_)
  · exact q_return dX13_movesRow_24 (mk0 rfl) rfl
  · refine Eq.trans (q_aload_n dX13_movesRow_8 (mk0 rfl) rfl (isA_R hv1)) ?_
    refine Eq.trans (q_iload_n dX13_movesRow_9 (mk0 rfl) rfl) ?_
    refine Eq.trans (q_aload_n dX13_movesRow_10 (mk0 rfl) rfl rfl) ?_
    refine Eq.trans (q_aload_n dX13_movesRow_11 (mk0 rfl) rfl (isA_R hv1)) ?_
    refine Eq.trans (q_iload_n dX13_movesRow_12 (mk0 rfl) rfl) ?_
    refine Eq.trans (q_iaload dX13_movesRow_13 (mk0 rfl) (no_ext hv1)) (bind_cg fun x13 => ?_)
    refine Eq.trans (q_callV (as := [.int x13]) dX13_movesRow_14 (mk0 rfl) rfl rfl rfl (by simp [catS, ct_i, ct_l, ct_r, ct_n, ct_x, (cat_R hv1)]) (Nat.le_of_ble_eq_true rfl)) (bind_cg fun b14 => ?_)
    refine Eq.trans (cI_bind (Or.inl rfl)) (bind_cg fun p14 => ?_)
    show RS (ZZ L xs) (d + 1) mX13_movesRow 17 [some (.ref o), some (v1), some (.int i2)] [.int p14.2, .int i2, v1] p14.1 = _
    refine Eq.trans (q_iastore dX13_movesRow_17 (mk0 rfl)) (bind_cg fun h17 => ?_)
    refine Eq.trans (q_iinc (v := 1) (lv2 := [some (.ref o), some (v1), some (.int (i2 + 1))]) dX13_movesRow_18 (mk0 rfl) rfl rfl (by simp [s1, s2, s0, (cat_R hv1)] <;> rfl)) ?_
    refine Eq.trans (q_goto (t := 2) dX13_movesRow_21 (mk0 rfl) rfl) ?_
    rfl
set_option maxRecDepth 20000 in
theorem bX13_movesAll_0 {L : Nat} {xs : Nat → Int32} (d : Nat) (o : Nat) (i1 : Int32) (i2 : Int32) (ph : PH) : RS (ZZ L xs) (d + 1) mX13_movesAll 0 [some (.ref o), some (.int i1), some (.int i2), none] [] ph = (fP ph (.ref o) 13 52 (.int (76 * i1))).bind fun h5 => if (i2 : Int32) = 0 ∨ (i2 : Int32) = 1 then (fP h5 (.ref o) 13 53 (.int i2)).bind fun h10 => RS (ZZ L xs) (d + 1) mX13_movesAll 15 [some (.ref o), some (.int i1), some (.int i2), some (.int 4)] [] h10 else none := by
  refine Eq.trans (q_aload_n dX13_movesAll_0 (mk0 rfl) rfl rfl) ?_
  refine Eq.trans (q_bipush (v := 76) dX13_movesAll_1 (mk0 rfl) rfl) ?_
  refine Eq.trans (q_iload_n dX13_movesAll_3 (mk0 rfl) rfl) ?_
  refine Eq.trans (q_imul dX13_movesAll_4 (mk0 rfl)) ?_
  refine Eq.trans (q_put (ci := 13) (k := 52) (kd := 0) dX13_movesAll_5 (mk0 rfl) rfl rfl (fun h => by cases h)) (bind_cg fun h5 => ?_)
  refine Eq.trans (q_aload_n dX13_movesAll_8 (mk0 rfl) rfl rfl) ?_
  refine Eq.trans (q_iload_n dX13_movesAll_9 (mk0 rfl) rfl) ?_
  refine Eq.trans (q_putZ (ci := 13) (k := 53) dX13_movesAll_10 (mk0 rfl) rfl) (ite_cg (bind_cg fun h10 => ?_) rfl)
  refine Eq.trans (q_iconst (v := 4) dX13_movesAll_13 (mk0 rfl) rfl) ?_
  refine Eq.trans (q_istore_n (lv2 := [some (.ref o), some (.int i1), some (.int i2), some (.int 4)]) dX13_movesAll_14 (mk0 rfl) (Nat.le_of_ble_eq_true rfl) rfl) ?_
  rfl
set_option maxRecDepth 20000 in
theorem bX13_movesAll_15 {L : Nat} {xs : Nat → Int32} (d : Nat) (o : Nat) (u1 : Option Value) (u2 : Option Value) (i3 : Int32) (ph : PH) : RS (ZZ L xs) (d + 1) mX13_movesAll 15 [some (.ref o), u1, u2, some (.int i3)] [] ph = if (7 : Int32) ≤ i3 then (fR ph (.ref o) 13 2).bind fun x45 => (iO ph (.ref o) 13).bind fun b48 => (cV (ZZ L xs) d mX13_movesRow [.ref b48, x45] ph).bind fun p48 => (fR p48 (.ref o) 13 3).bind fun x53 => (iO p48 (.ref o) 13).bind fun b56 => (cV (ZZ L xs) d mX13_movesRow [.ref b56, x53] p48).bind fun p56 => (fR p56 (.ref o) 13 4).bind fun x61 => (iO p56 (.ref o) 13).bind fun b64 => (cV (ZZ L xs) d mX13_movesRow [.ref b64, x61] p56).bind fun p64 => (fR p64 (.ref o) 13 5).bind fun x69 => (iO p64 (.ref o) 13).bind fun b72 => (cV (ZZ L xs) d mX13_movesRow [.ref b72, x69] p64).bind fun p72 => (fR p72 (.ref o) 13 6).bind fun x77 => (iO p72 (.ref o) 13).bind fun b80 => (cV (ZZ L xs) d mX13_movesRow [.ref b80, x77] p72).bind fun p80 => (fR p80 (.ref o) 13 7).bind fun x85 => (iO p80 (.ref o) 13).bind fun b88 => (cV (ZZ L xs) d mX13_movesRow [.ref b88, x85] p80).bind fun p88 => (fR p88 (.ref o) 13 8).bind fun x93 => (iO p88 (.ref o) 13).bind fun b96 => (cV (ZZ L xs) d mX13_movesRow [.ref b96, x93] p88).bind fun p96 => (fR p96 (.ref o) 13 9).bind fun x101 => (iO p96 (.ref o) 13).bind fun b104 => (cV (ZZ L xs) d mX13_movesRow [.ref b104, x101] p96).bind fun p104 => some (p104, none) else (fR ph (.ref o) 13 1).bind fun x22 => (fR ph (.ref o) 13 1).bind fun x28 => (eI ph x28 i3).bind fun x32 => (iO ph (.ref o) 13).bind fun b33 => (cI (ZZ L xs) d mX13_moves [.ref b33, .int x32] ph).bind fun p33 => (wI p33.1 x22 i3 p33.2).bind fun h36 => RS (ZZ L xs) (d + 1) mX13_movesAll 15 [some (.ref o), none, none, some (.int (i3 + 1))] [] h36 := by
  refine Eq.trans (q_iload_n dX13_movesAll_15 (show mK mX13_movesAll 15 [some (.ref o), u1, u2, some (.int i3)] = [some (.ref o), none, none, some (.int i3)] from rfl) rfl) ?_
  refine Eq.trans (q_bipush (v := 7) dX13_movesAll_16 (mk0 rfl) rfl) ?_
  refine Eq.trans (q_icmp_ge (t := 43) dX13_movesAll_18 (mk0 rfl) rfl) (ite_cg ?_ ?_)
  · refine Eq.trans (q_aload_n dX13_movesAll_43 (mk0 rfl) rfl rfl) ?_
    refine Eq.trans (q_aload_n dX13_movesAll_44 (mk0 rfl) rfl rfl) ?_
    refine Eq.trans (q_getR (ci := 13) (k := 2) dX13_movesAll_45 (mk0 rfl) rfl) (bind_cg2 fun x45 hx45 => ?_)
    have hx45 := fR_isR hx45
    refine Eq.trans (q_callV (as := [x45]) dX13_movesAll_48 (mk0 rfl) rfl rfl rfl (Nat.le_of_ble_eq_true rfl) (by simp [eA, ct_i, ct_l, ct_r, ct_n, ct_x, mX13_movesRow, (cat_R hx45)])) (bind_cg fun b48 => ?_)
    refine Eq.trans (cV_bind rfl) (bind_cg fun p48 => ?_)
    show RS (ZZ L xs) (d + 1) mX13_movesAll 51 [some (.ref o), none, none, some (.int i3)] [] p48 = _
    refine Eq.trans (q_aload_n dX13_movesAll_51 (mk0 rfl) rfl rfl) ?_
    refine Eq.trans (q_aload_n dX13_movesAll_52 (mk0 rfl) rfl rfl) ?_
    refine Eq.trans (q_getR (ci := 13) (k := 3) dX13_movesAll_53 (mk0 rfl) rfl) (bind_cg2 fun x53 hx53 => ?_)
    have hx53 := fR_isR hx53
    refine Eq.trans (q_callV (as := [x53]) dX13_movesAll_56 (mk0 rfl) rfl rfl rfl (Nat.le_of_ble_eq_true rfl) (by simp [eA, ct_i, ct_l, ct_r, ct_n, ct_x, mX13_movesRow, (cat_R hx53)])) (bind_cg fun b56 => ?_)
    refine Eq.trans (cV_bind rfl) (bind_cg fun p56 => ?_)
    show RS (ZZ L xs) (d + 1) mX13_movesAll 59 [some (.ref o), none, none, some (.int i3)] [] p56 = _
    refine Eq.trans (q_aload_n dX13_movesAll_59 (mk0 rfl) rfl rfl) ?_
    refine Eq.trans (q_aload_n dX13_movesAll_60 (mk0 rfl) rfl rfl) ?_
    refine Eq.trans (q_getR (ci := 13) (k := 4) dX13_movesAll_61 (mk0 rfl) rfl) (bind_cg2 fun x61 hx61 => ?_)
    have hx61 := fR_isR hx61
    refine Eq.trans (q_callV (as := [x61]) dX13_movesAll_64 (mk0 rfl) rfl rfl rfl (Nat.le_of_ble_eq_true rfl) (by simp [eA, ct_i, ct_l, ct_r, ct_n, ct_x, mX13_movesRow, (cat_R hx61)])) (bind_cg fun b64 => ?_)
    refine Eq.trans (cV_bind rfl) (bind_cg fun p64 => ?_)
    show RS (ZZ L xs) (d + 1) mX13_movesAll 67 [some (.ref o), none, none, some (.int i3)] [] p64 = _
    refine Eq.trans (q_aload_n dX13_movesAll_67 (mk0 rfl) rfl rfl) ?_
    refine Eq.trans (q_aload_n dX13_movesAll_68 (mk0 rfl) rfl rfl) ?_
    refine Eq.trans (q_getR (ci := 13) (k := 5) dX13_movesAll_69 (mk0 rfl) rfl) (bind_cg2 fun x69 hx69 => ?_)
    have hx69 := fR_isR hx69
    refine Eq.trans (q_callV (as := [x69]) dX13_movesAll_72 (mk0 rfl) rfl rfl rfl (Nat.le_of_ble_eq_true rfl) (by simp [eA, ct_i, ct_l, ct_r, ct_n, ct_x, mX13_movesRow, (cat_R hx69)])) (bind_cg fun b72 => ?_)
    refine Eq.trans (cV_bind rfl) (bind_cg fun p72 => ?_)
    show RS (ZZ L xs) (d + 1) mX13_movesAll 75 [some (.ref o), none, none, some (.int i3)] [] p72 = _
    refine Eq.trans (q_aload_n dX13_movesAll_75 (mk0 rfl) rfl rfl) ?_
    refine Eq.trans (q_aload_n dX13_movesAll_76 (mk0 rfl) rfl rfl) ?_
    refine Eq.trans (q_getR (ci := 13) (k := 6) dX13_movesAll_77 (mk0 rfl) rfl) (bind_cg2 fun x77 hx77 => ?_)
    have hx77 := fR_isR hx77
    refine Eq.trans (q_callV (as := [x77]) dX13_movesAll_80 (mk0 rfl) rfl rfl rfl (Nat.le_of_ble_eq_true rfl) (by simp [eA, ct_i, ct_l, ct_r, ct_n, ct_x, mX13_movesRow, (cat_R hx77)])) (bind_cg fun b80 => ?_)
    refine Eq.trans (cV_bind rfl) (bind_cg fun p80 => ?_)
    show RS (ZZ L xs) (d + 1) mX13_movesAll 83 [some (.ref o), none, none, some (.int i3)] [] p80 = _
    refine Eq.trans (q_aload_n dX13_movesAll_83 (mk0 rfl) rfl rfl) ?_
    refine Eq.trans (q_aload_n dX13_movesAll_84 (mk0 rfl) rfl rfl) ?_
    refine Eq.trans (q_getR (ci := 13) (k := 7) dX13_movesAll_85 (mk0 rfl) rfl) (bind_cg2 fun x85 hx85 => ?_)
    have hx85 := fR_isR hx85
    refine Eq.trans (q_callV (as := [x85]) dX13_movesAll_88 (mk0 rfl) rfl rfl rfl (Nat.le_of_ble_eq_true rfl) (by simp [eA, ct_i, ct_l, ct_r, ct_n, ct_x, mX13_movesRow, (cat_R hx85)])) (bind_cg fun b88 => ?_)
    refine Eq.trans (cV_bind rfl) (bind_cg fun p88 => ?_)
    show RS (ZZ L xs) (d + 1) mX13_movesAll 91 [some (.ref o), none, none, some (.int i3)] [] p88 = _
    refine Eq.trans (q_aload_n dX13_movesAll_91 (mk0 rfl) rfl rfl) ?_
    refine Eq.trans (q_aload_n dX13_movesAll_92 (mk0 rfl) rfl rfl) ?_
    refine Eq.trans (q_getR (ci := 13) (k := 8) dX13_movesAll_93 (mk0 rfl) rfl) (bind_cg2 fun x93 hx93 => ?_)
    have hx93 := fR_isR hx93
    refine Eq.trans (q_callV (as := [x93]) dX13_movesAll_96 (mk0 rfl) rfl rfl rfl (Nat.le_of_ble_eq_true rfl) (by simp [eA, ct_i, ct_l, ct_r, ct_n, ct_x, mX13_movesRow, (cat_R hx93)])) (bind_cg fun b96 => ?_)
    refine Eq.trans (cV_bind rfl) (bind_cg fun p96 => ?_)
    show RS (ZZ L xs) (d + 1) mX13_movesAll 99 [some (.ref o), none, none, some (.int i3)] [] p96 = _
    refine Eq.trans (q_aload_n dX13_movesAll_99 (mk0 rfl) rfl rfl) ?_
    refine Eq.trans (q_aload_n dX13_movesAll_100 (mk0 rfl) rfl rfl) ?_
    refine Eq.trans (q_getR (ci := 13) (k := 9) dX13_movesAll_101 (mk0 rfl) rfl) (bind_cg2 fun x101 hx101 => ?_)
    have hx101 := fR_isR hx101
    refine Eq.trans (q_callV (as := [x101]) dX13_movesAll_104 (mk0 rfl) rfl rfl rfl (Nat.le_of_ble_eq_true rfl) (by simp [eA, ct_i, ct_l, ct_r, ct_n, ct_x, mX13_movesRow, (cat_R hx101)])) (bind_cg fun b104 => ?_)
    refine Eq.trans (cV_bind rfl) (bind_cg fun p104 => ?_)
    show RS (ZZ L xs) (d + 1) mX13_movesAll 107 [some (.ref o), none, none, some (.int i3)] [] p104 = _
    exact q_return dX13_movesAll_107 (mk0 rfl) rfl
  · refine Eq.trans (q_aload_n dX13_movesAll_21 (mk0 rfl) rfl rfl) ?_
    refine Eq.trans (q_getR (ci := 13) (k := 1) dX13_movesAll_22 (mk0 rfl) rfl) (bind_cg2 fun x22 hx22 => ?_)
    have hx22 := fR_isR hx22
    refine Eq.trans (q_iload_n dX13_movesAll_25 (mk0 rfl) rfl) ?_
    refine Eq.trans (q_aload_n dX13_movesAll_26 (mk0 rfl) rfl rfl) ?_
    refine Eq.trans (q_aload_n dX13_movesAll_27 (mk0 rfl) rfl rfl) ?_
    refine Eq.trans (q_getR (ci := 13) (k := 1) dX13_movesAll_28 (mk0 rfl) rfl) (bind_cg2 fun x28 hx28 => ?_)
    have hx28 := fR_isR hx28
    refine Eq.trans (q_iload_n dX13_movesAll_31 (mk0 rfl) rfl) ?_
    refine Eq.trans (q_iaload dX13_movesAll_32 (mk0 rfl) (no_ext hx28)) (bind_cg fun x32 => ?_)
    refine Eq.trans (q_callV (as := [.int x32]) dX13_movesAll_33 (mk0 rfl) rfl rfl rfl (by simp [catS, ct_i, ct_l, ct_r, ct_n, ct_x, (cat_R hx22)]) (Nat.le_of_ble_eq_true rfl)) (bind_cg fun b33 => ?_)
    refine Eq.trans (cI_bind (Or.inl rfl)) (bind_cg fun p33 => ?_)
    show RS (ZZ L xs) (d + 1) mX13_movesAll 36 [some (.ref o), none, none, some (.int i3)] [.int p33.2, .int i3, x22] p33.1 = _
    refine Eq.trans (q_iastore dX13_movesAll_36 (mk0 rfl)) (bind_cg fun h36 => ?_)
    refine Eq.trans (q_iinc (v := 1) (lv2 := [some (.ref o), none, none, some (.int (i3 + 1))]) dX13_movesAll_37 (mk0 rfl) rfl rfl rfl) ?_
    refine Eq.trans (q_goto (t := 15) dX13_movesAll_40 (mk0 rfl) rfl) ?_
    rfl
set_option maxRecDepth 20000 in
theorem bX13_keepsAct_0 {L : Nat} {xs : Nat → Int32} (d : Nat) (o : Nat) (ph : PH) : RS (ZZ L xs) (d + 1) mX13_keepsAct 0 [some (.ref o), none] [] ph = (fI ph (.ref o) 13 51).bind fun x1 => if ¬ (x1 : Int32) = 20 then RS (ZZ L xs) (d + 1) mX13_keepsAct 50 [some (.ref o), none] [] ph else RS (ZZ L xs) (d + 1) mX13_keepsAct 12 [some (.ref o), some (.int 76)] [] ph := by
  refine Eq.trans (q_aload_n dX13_keepsAct_0 (mk0 rfl) rfl rfl) ?_
  refine Eq.trans (q_getI (ci := 13) (k := 51) dX13_keepsAct_1 (mk0 rfl) rfl) (bind_cg fun x1 => ?_)
  refine Eq.trans (q_bipush (v := 20) dX13_keepsAct_4 (mk0 rfl) rfl) ?_
  refine Eq.trans (q_icmp_ne (t := 50) dX13_keepsAct_6 (mk0 rfl) rfl) (ite_cg ?_ ?_)
  · rfl
  · refine Eq.trans (q_bipush (v := 76) dX13_keepsAct_9 (mk0 rfl) rfl) ?_
    refine Eq.trans (q_istore_n (lv2 := [some (.ref o), some (.int 76)]) dX13_keepsAct_11 (mk0 rfl) (Nat.le_of_ble_eq_true rfl) rfl) ?_
    rfl
set_option maxRecDepth 20000 in
theorem bX13_keepsAct_12 {L : Nat} {xs : Nat → Int32} (d : Nat) (o : Nat) (i1 : Int32) (ph : PH) : RS (ZZ L xs) (d + 1) mX13_keepsAct 12 [some (.ref o), some (.int i1)] [] ph = if (1520 : Int32) ≤ i1 then (fI ph (.ref o) 13 51).bind fun x42 => (fP ph (.ref o) 13 51 (.int (x42 - 1))).bind fun h47 => RS (ZZ L xs) (d + 1) mX13_keepsAct 50 [some (.ref o), some (.int i1)] [] h47 else (fR ph (.ref o) 13 49).bind fun x20 => (fR ph (.ref o) 13 49).bind fun x28 => (eI ph x28 i1).bind fun x32 => (wI ph x20 (i1 - 76) x32).bind fun h33 => RS (ZZ L xs) (d + 1) mX13_keepsAct 12 [some (.ref o), some (.int (i1 + 1))] [] h33 := by
  refine Eq.trans (q_iload_n dX13_keepsAct_12 (mk0 rfl) rfl) ?_
  refine Eq.trans (q_sipush (v := 1520) dX13_keepsAct_13 (mk0 rfl) rfl) ?_
  refine Eq.trans (q_icmp_ge (t := 40) dX13_keepsAct_16 (mk0 rfl) rfl) (ite_cg ?_ ?_)
  · refine Eq.trans (q_aload_n dX13_keepsAct_40 (mk0 rfl) rfl rfl) ?_
    refine Eq.trans (q_dup dX13_keepsAct_41 (mk0 rfl) rfl) ?_
    refine Eq.trans (q_getI (ci := 13) (k := 51) dX13_keepsAct_42 (mk0 rfl) rfl) (bind_cg fun x42 => ?_)
    refine Eq.trans (q_iconst (v := 1) dX13_keepsAct_45 (mk0 rfl) rfl) ?_
    refine Eq.trans (q_isub dX13_keepsAct_46 (mk0 rfl)) ?_
    refine Eq.trans (q_put (ci := 13) (k := 51) (kd := 0) dX13_keepsAct_47 (mk0 rfl) rfl rfl (fun h => by cases h)) (bind_cg fun h47 => ?_)
    rfl
  · refine Eq.trans (q_aload_n dX13_keepsAct_19 (mk0 rfl) rfl rfl) ?_
    refine Eq.trans (q_getR (ci := 13) (k := 49) dX13_keepsAct_20 (mk0 rfl) rfl) (bind_cg2 fun x20 hx20 => ?_)
    have hx20 := fR_isR hx20
    refine Eq.trans (q_iload_n dX13_keepsAct_23 (mk0 rfl) rfl) ?_
    refine Eq.trans (q_bipush (v := 76) dX13_keepsAct_24 (mk0 rfl) rfl) ?_
    refine Eq.trans (q_isub dX13_keepsAct_26 (mk0 rfl)) ?_
    refine Eq.trans (q_aload_n dX13_keepsAct_27 (mk0 rfl) rfl rfl) ?_
    refine Eq.trans (q_getR (ci := 13) (k := 49) dX13_keepsAct_28 (mk0 rfl) rfl) (bind_cg2 fun x28 hx28 => ?_)
    have hx28 := fR_isR hx28
    refine Eq.trans (q_iload_n dX13_keepsAct_31 (mk0 rfl) rfl) ?_
    refine Eq.trans (q_iaload dX13_keepsAct_32 (mk0 rfl) (no_ext hx28)) (bind_cg fun x32 => ?_)
    refine Eq.trans (q_iastore dX13_keepsAct_33 (mk0 rfl)) (bind_cg fun h33 => ?_)
    refine Eq.trans (q_iinc (v := 1) (lv2 := [some (.ref o), some (.int (i1 + 1))]) dX13_keepsAct_34 (mk0 rfl) rfl rfl rfl) ?_
    refine Eq.trans (q_goto (t := 12) dX13_keepsAct_37 (mk0 rfl) rfl) ?_
    rfl
set_option maxRecDepth 20000 in
theorem bX13_keepsAct_50 {L : Nat} {xs : Nat → Int32} (d : Nat) (o : Nat) (u1 : Option Value) (ph : PH) : RS (ZZ L xs) (d + 1) mX13_keepsAct 50 [some (.ref o), u1] [] ph = (fI ph (.ref o) 13 51).bind fun x52 => (iO ph (.ref o) 13).bind fun b56 => (cV (ZZ L xs) d mX13_movesAll [.ref b56, .int x52, .int 0] ph).bind fun p56 => (fI p56 (.ref o) 13 51).bind fun x61 => (fP p56 (.ref o) 13 51 (.int (x61 + 1))).bind fun h66 => some (h66, none) := by
  refine Eq.trans (q_aload_n dX13_keepsAct_50 (show mK mX13_keepsAct 50 [some (.ref o), u1] = [some (.ref o), none] from rfl) rfl rfl) ?_
  refine Eq.trans (q_aload_n dX13_keepsAct_51 (mk0 rfl) rfl rfl) ?_
  refine Eq.trans (q_getI (ci := 13) (k := 51) dX13_keepsAct_52 (mk0 rfl) rfl) (bind_cg fun x52 => ?_)
  refine Eq.trans (q_iconst (v := 0) dX13_keepsAct_55 (mk0 rfl) rfl) ?_
  refine Eq.trans (q_callV (as := [.int x52, .int 0]) dX13_keepsAct_56 (mk0 rfl) rfl rfl rfl (Nat.le_of_ble_eq_true rfl) (Nat.le_of_ble_eq_true rfl)) (bind_cg fun b56 => ?_)
  refine Eq.trans (cV_bind rfl) (bind_cg fun p56 => ?_)
  show RS (ZZ L xs) (d + 1) mX13_keepsAct 59 [some (.ref o), none] [] p56 = _
  refine Eq.trans (q_aload_n dX13_keepsAct_59 (mk0 rfl) rfl rfl) ?_
  refine Eq.trans (q_dup dX13_keepsAct_60 (mk0 rfl) rfl) ?_
  refine Eq.trans (q_getI (ci := 13) (k := 51) dX13_keepsAct_61 (mk0 rfl) rfl) (bind_cg fun x61 => ?_)
  refine Eq.trans (q_iconst (v := 1) dX13_keepsAct_64 (mk0 rfl) rfl) ?_
  refine Eq.trans (q_iadd dX13_keepsAct_65 (mk0 rfl)) ?_
  refine Eq.trans (q_put (ci := 13) (k := 51) (kd := 0) dX13_keepsAct_66 (mk0 rfl) rfl rfl (fun h => by cases h)) (bind_cg fun h66 => ?_)
  exact q_return dX13_keepsAct_69 (mk0 rfl) rfl
set_option maxRecDepth 20000 in
theorem bX13_undo_0 {L : Nat} {xs : Nat → Int32} (d : Nat) (o : Nat) (ph : PH) : RS (ZZ L xs) (d + 1) mX13_undo 0 [some (.ref o)] [] ph = (fI ph (.ref o) 13 51).bind fun x1 => if ¬ (x1 : Int32) = 0 then (fI ph (.ref o) 13 51).bind fun x12 => (fP ph (.ref o) 13 51 (.int (x12 - 1))).bind fun h17 => (fI h17 (.ref o) 13 51).bind fun x22 => (iO h17 (.ref o) 13).bind fun b26 => (cV (ZZ L xs) d mX13_movesAll [.ref b26, .int x22, .int 1] h17).bind fun p26 => (fI p26 (.ref o) 13 51).bind fun x30 => some (p26, some (.int x30)) else some (ph, some (.int ((-2)))) := by
  refine Eq.trans (q_aload_n dX13_undo_0 (mk0 rfl) rfl rfl) ?_
  refine Eq.trans (q_getI (ci := 13) (k := 51) dX13_undo_1 (mk0 rfl) rfl) (bind_cg fun x1 => ?_)
  refine Eq.trans (q_if_ne (t := 10) dX13_undo_4 (mk0 rfl) rfl) (ite_cg ?_ ?_)
  · refine Eq.trans (q_aload_n dX13_undo_10 (mk0 rfl) rfl rfl) ?_
    refine Eq.trans (q_dup dX13_undo_11 (mk0 rfl) rfl) ?_
    refine Eq.trans (q_getI (ci := 13) (k := 51) dX13_undo_12 (mk0 rfl) rfl) (bind_cg fun x12 => ?_)
    refine Eq.trans (q_iconst (v := 1) dX13_undo_15 (mk0 rfl) rfl) ?_
    refine Eq.trans (q_isub dX13_undo_16 (mk0 rfl)) ?_
    refine Eq.trans (q_put (ci := 13) (k := 51) (kd := 0) dX13_undo_17 (mk0 rfl) rfl rfl (fun h => by cases h)) (bind_cg fun h17 => ?_)
    refine Eq.trans (q_aload_n dX13_undo_20 (mk0 rfl) rfl rfl) ?_
    refine Eq.trans (q_aload_n dX13_undo_21 (mk0 rfl) rfl rfl) ?_
    refine Eq.trans (q_getI (ci := 13) (k := 51) dX13_undo_22 (mk0 rfl) rfl) (bind_cg fun x22 => ?_)
    refine Eq.trans (q_iconst (v := 1) dX13_undo_25 (mk0 rfl) rfl) ?_
    refine Eq.trans (q_callV (as := [.int x22, .int 1]) dX13_undo_26 (mk0 rfl) rfl rfl rfl (Nat.le_of_ble_eq_true rfl) (Nat.le_of_ble_eq_true rfl)) (bind_cg fun b26 => ?_)
    refine Eq.trans (cV_bind rfl) (bind_cg fun p26 => ?_)
    show RS (ZZ L xs) (d + 1) mX13_undo 29 [some (.ref o)] [] p26 = _
    refine Eq.trans (q_aload_n dX13_undo_29 (mk0 rfl) rfl rfl) ?_
    refine Eq.trans (q_getI (ci := 13) (k := 51) dX13_undo_30 (mk0 rfl) rfl) (bind_cg fun x30 => ?_)
    exact q_ireturn dX13_undo_33 (mk0 rfl) rfl
  · refine Eq.trans (q_bipush (v := (-2)) dX13_undo_7 (mk0 rfl) rfl) ?_
    exact q_ireturn dX13_undo_9 (mk0 rfl) rfl
set_option maxRecDepth 20000 in
theorem bX13_hour_0 {L : Nat} {xs : Nat → Int32} (d : Nat) (o : Nat) (ph : PH) : RS (ZZ L xs) (d + 1) mX13_hour 0 [some (.ref o)] [] ph = (iO ph (.ref o) 13).bind fun b1 => (cI (ZZ L xs) d mX13_isTown [.ref b1] ph).bind fun p1 => if (p1.2 : Int32) = 0 then RS (ZZ L xs) (d + 1) mX13_hour 19 [some (.ref o)] [] p1.1 else (fR p1.1 (.ref o) 13 1).bind fun x8 => (eI p1.1 x8 4).bind fun x12 => if ¬ (x12 : Int32) = 999 then (iO p1.1 (.ref o) 13).bind fun b22 => (cV (ZZ L xs) d mX13_keepsAct [.ref b22] p1.1).bind fun p22 => (iO p22 (.ref o) 13).bind fun b26 => (cI (ZZ L xs) d mX13_goes [.ref b26] p22).bind fun p26 => some (p26.1, some (.int p26.2)) else RS (ZZ L xs) (d + 1) mX13_hour 19 [some (.ref o)] [] p1.1 := by
  refine Eq.trans (q_aload_n dX13_hour_0 (mk0 rfl) rfl rfl) ?_
  refine Eq.trans (q_callV (as := []) dX13_hour_1 (mk0 rfl) rfl rfl rfl (Nat.le_of_ble_eq_true rfl) (Nat.le_of_ble_eq_true rfl)) (bind_cg fun b1 => ?_)
  refine Eq.trans (cI_bind (Or.inr rfl)) (bind_cg fun p1 => ?_)
  show RS (ZZ L xs) (d + 1) mX13_hour 4 [some (.ref o)] [.int p1.2] p1.1 = _
  refine Eq.trans (q_if_eq (t := 19) dX13_hour_4 (mk0 rfl) rfl) (ite_cg ?_ ?_)
  · rfl
  · refine Eq.trans (q_aload_n dX13_hour_7 (mk0 rfl) rfl rfl) ?_
    refine Eq.trans (q_getR (ci := 13) (k := 1) dX13_hour_8 (mk0 rfl) rfl) (bind_cg2 fun x8 hx8 => ?_)
    have hx8 := fR_isR hx8
    refine Eq.trans (q_iconst (v := 4) dX13_hour_11 (mk0 rfl) rfl) ?_
    refine Eq.trans (q_iaload dX13_hour_12 (mk0 rfl) (no_ext hx8)) (bind_cg fun x12 => ?_)
    refine Eq.trans (q_sipush (v := 999) dX13_hour_13 (mk0 rfl) rfl) ?_
    refine Eq.trans (q_icmp_ne (t := 21) dX13_hour_16 (mk0 rfl) rfl) (ite_cg ?_ ?_)
    · refine Eq.trans (q_aload_n dX13_hour_21 (mk0 rfl) rfl rfl) ?_
      refine Eq.trans (q_callV (as := []) dX13_hour_22 (mk0 rfl) rfl rfl rfl (Nat.le_of_ble_eq_true rfl) (Nat.le_of_ble_eq_true rfl)) (bind_cg fun b22 => ?_)
      refine Eq.trans (cV_bind rfl) (bind_cg fun p22 => ?_)
      show RS (ZZ L xs) (d + 1) mX13_hour 25 [some (.ref o)] [] p22 = _
      refine Eq.trans (q_aload_n dX13_hour_25 (mk0 rfl) rfl rfl) ?_
      refine Eq.trans (q_callV (as := []) dX13_hour_26 (mk0 rfl) rfl rfl rfl (Nat.le_of_ble_eq_true rfl) (Nat.le_of_ble_eq_true rfl)) (bind_cg fun b26 => ?_)
      refine Eq.trans (cI_bind (Or.inl rfl)) (bind_cg fun p26 => ?_)
      show RS (ZZ L xs) (d + 1) mX13_hour 29 [some (.ref o)] [.int p26.2] p26.1 = _
      exact q_ireturn dX13_hour_29 (mk0 rfl) rfl
    · rfl
set_option maxRecDepth 20000 in
theorem bX13_hour_19 {L : Nat} {xs : Nat → Int32} (d : Nat) (u0 : Option Value) (ph : PH) : RS (ZZ L xs) (d + 1) mX13_hour 19 [u0] [] ph = some (ph, some (.int ((-1)))) := by
  refine Eq.trans (q_iconst (v := (-1)) dX13_hour_19 (show mK mX13_hour 19 [u0] = [none] from rfl) rfl) ?_
  exact q_ireturn dX13_hour_20 (mk0 rfl) rfl
set_option maxRecDepth 20000 in
theorem bX13_stand_0 {L : Nat} {xs : Nat → Int32} (d : Nat) (o : Nat) (i1 : Int32) (i2 : Int32) (ph : PH) : RS (ZZ L xs) (d + 1) mX13_stand 0 [some (.ref o), some (.int i1), some (.int i2), none] [] ph = (iO ph (.ref o) 13).bind fun b2 => (cI (ZZ L xs) d mX13_isPerson [.ref b2, .int i1] ph).bind fun p2 => if (p2.2 : Int32) = 0 then RS (ZZ L xs) (d + 1) mX13_stand 26 [some (.ref o), some (.int i1), some (.int i2), none] [] p2.1 else (iO p2.1 (.ref o) 13).bind fun b10 => (cI (ZZ L xs) d mX13_isPlace [.ref b10, .int i2] p2.1).bind fun p10 => if (p10.2 : Int32) = 0 then RS (ZZ L xs) (d + 1) mX13_stand 26 [some (.ref o), some (.int i1), some (.int i2), none] [] p10.1 else (fR p10.1 (.ref o) 13 2).bind fun x17 => (eI p10.1 x17 i1).bind fun x21 => if ¬ (x21 : Int32) = i2 then (iO p10.1 (.ref o) 13).bind fun b29 => (cV (ZZ L xs) d mX13_keepsAct [.ref b29] p10.1).bind fun p29 => (fR p29 (.ref o) 13 2).bind fun x33 => (eI p29 x33 i1).bind fun x37 => (fR p29 (.ref o) 13 2).bind fun x40 => (wI p29 x40 i1 i2).bind fun h45 => some (h45, some (.int x37)) else RS (ZZ L xs) (d + 1) mX13_stand 26 [some (.ref o), some (.int i1), some (.int i2), none] [] p10.1 := by
  refine Eq.trans (q_aload_n dX13_stand_0 (mk0 rfl) rfl rfl) ?_
  refine Eq.trans (q_iload_n dX13_stand_1 (mk0 rfl) rfl) ?_
  refine Eq.trans (q_callV (as := [.int i1]) dX13_stand_2 (mk0 rfl) rfl rfl rfl (Nat.le_of_ble_eq_true rfl) (Nat.le_of_ble_eq_true rfl)) (bind_cg fun b2 => ?_)
  refine Eq.trans (cI_bind (Or.inr rfl)) (bind_cg fun p2 => ?_)
  show RS (ZZ L xs) (d + 1) mX13_stand 5 [some (.ref o), some (.int i1), some (.int i2), none] [.int p2.2] p2.1 = _
  refine Eq.trans (q_if_eq (t := 26) dX13_stand_5 (mk0 rfl) rfl) (ite_cg ?_ ?_)
  · rfl
  · refine Eq.trans (q_aload_n dX13_stand_8 (mk0 rfl) rfl rfl) ?_
    refine Eq.trans (q_iload_n dX13_stand_9 (mk0 rfl) rfl) ?_
    refine Eq.trans (q_callV (as := [.int i2]) dX13_stand_10 (mk0 rfl) rfl rfl rfl (Nat.le_of_ble_eq_true rfl) (Nat.le_of_ble_eq_true rfl)) (bind_cg fun b10 => ?_)
    refine Eq.trans (cI_bind (Or.inr rfl)) (bind_cg fun p10 => ?_)
    show RS (ZZ L xs) (d + 1) mX13_stand 13 [some (.ref o), some (.int i1), some (.int i2), none] [.int p10.2] p10.1 = _
    refine Eq.trans (q_if_eq (t := 26) dX13_stand_13 (mk0 rfl) rfl) (ite_cg ?_ ?_)
    · rfl
    · refine Eq.trans (q_aload_n dX13_stand_16 (mk0 rfl) rfl rfl) ?_
      refine Eq.trans (q_getR (ci := 13) (k := 2) dX13_stand_17 (mk0 rfl) rfl) (bind_cg2 fun x17 hx17 => ?_)
      have hx17 := fR_isR hx17
      refine Eq.trans (q_iload_n dX13_stand_20 (mk0 rfl) rfl) ?_
      refine Eq.trans (q_iaload dX13_stand_21 (mk0 rfl) (no_ext hx17)) (bind_cg fun x21 => ?_)
      refine Eq.trans (q_iload_n dX13_stand_22 (mk0 rfl) rfl) ?_
      refine Eq.trans (q_icmp_ne (t := 28) dX13_stand_23 (mk0 rfl) rfl) (ite_cg ?_ ?_)
      · refine Eq.trans (q_aload_n dX13_stand_28 (mk0 rfl) rfl rfl) ?_
        refine Eq.trans (q_callV (as := []) dX13_stand_29 (mk0 rfl) rfl rfl rfl (Nat.le_of_ble_eq_true rfl) (Nat.le_of_ble_eq_true rfl)) (bind_cg fun b29 => ?_)
        refine Eq.trans (cV_bind rfl) (bind_cg fun p29 => ?_)
        show RS (ZZ L xs) (d + 1) mX13_stand 32 [some (.ref o), some (.int i1), some (.int i2), none] [] p29 = _
        refine Eq.trans (q_aload_n dX13_stand_32 (mk0 rfl) rfl rfl) ?_
        refine Eq.trans (q_getR (ci := 13) (k := 2) dX13_stand_33 (mk0 rfl) rfl) (bind_cg2 fun x33 hx33 => ?_)
        have hx33 := fR_isR hx33
        refine Eq.trans (q_iload_n dX13_stand_36 (mk0 rfl) rfl) ?_
        refine Eq.trans (q_iaload dX13_stand_37 (mk0 rfl) (no_ext hx33)) (bind_cg fun x37 => ?_)
        refine Eq.trans (q_istore_n (lv2 := [some (.ref o), some (.int i1), some (.int i2), some (.int x37)]) dX13_stand_38 (mk0 rfl) (Nat.le_of_ble_eq_true rfl) rfl) ?_
        refine Eq.trans (q_aload_n dX13_stand_39 (mk0 rfl) rfl rfl) ?_
        refine Eq.trans (q_getR (ci := 13) (k := 2) dX13_stand_40 (mk0 rfl) rfl) (bind_cg2 fun x40 hx40 => ?_)
        have hx40 := fR_isR hx40
        refine Eq.trans (q_iload_n dX13_stand_43 (mk0 rfl) rfl) ?_
        refine Eq.trans (q_iload_n dX13_stand_44 (mk0 rfl) rfl) ?_
        refine Eq.trans (q_iastore dX13_stand_45 (mk0 rfl)) (bind_cg fun h45 => ?_)
        refine Eq.trans (q_iload_n dX13_stand_46 (mk0 rfl) rfl) ?_
        exact q_ireturn dX13_stand_47 (mk0 rfl) rfl
      · rfl
set_option maxRecDepth 20000 in
theorem bX13_stand_26 {L : Nat} {xs : Nat → Int32} (d : Nat) (u0 : Option Value) (u1 : Option Value) (u2 : Option Value) (u3 : Option Value) (ph : PH) : RS (ZZ L xs) (d + 1) mX13_stand 26 [u0, u1, u2, u3] [] ph = some (ph, some (.int ((-1)))) := by
  refine Eq.trans (q_iconst (v := (-1)) dX13_stand_26 (show mK mX13_stand 26 [u0, u1, u2, u3] = [none, none, none, none] from rfl) rfl) ?_
  exact q_ireturn dX13_stand_27 (mk0 rfl) rfl
set_option maxRecDepth 20000 in
theorem bX13_collar_0 {L : Nat} {xs : Nat → Int32} (d : Nat) (o : Nat) (i1 : Int32) (i2 : Int32) (ph : PH) : RS (ZZ L xs) (d + 1) mX13_collar 0 [some (.ref o), some (.int i1), some (.int i2), none] [] ph = (iO ph (.ref o) 13).bind fun b2 => (cI (ZZ L xs) d mX13_isPerson [.ref b2, .int i1] ph).bind fun p2 => if (p2.2 : Int32) = 0 then RS (ZZ L xs) (d + 1) mX13_collar 30 [some (.ref o), some (.int i1), some (.int i2), none] [] p2.1 else (cI (ZZ L xs) d mX13_in [.long ((i2 : Int32).toInt64), .long 0, .long 9] p2.1).bind fun p14 => if (p14.2 : Int32) = 0 then RS (ZZ L xs) (d + 1) mX13_collar 30 [some (.ref o), some (.int i1), some (.int i2), none] [] p14.1 else (fR p14.1 (.ref o) 13 3).bind fun x21 => (eI p14.1 x21 i1).bind fun x25 => if ¬ (x25 : Int32) = i2 then (iO p14.1 (.ref o) 13).bind fun b33 => (cV (ZZ L xs) d mX13_keepsAct [.ref b33] p14.1).bind fun p33 => (fR p33 (.ref o) 13 3).bind fun x37 => (eI p33 x37 i1).bind fun x41 => (fR p33 (.ref o) 13 3).bind fun x44 => (wI p33 x44 i1 i2).bind fun h49 => some (h49, some (.int x41)) else RS (ZZ L xs) (d + 1) mX13_collar 30 [some (.ref o), some (.int i1), some (.int i2), none] [] p14.1 := by
  refine Eq.trans (q_aload_n dX13_collar_0 (mk0 rfl) rfl rfl) ?_
  refine Eq.trans (q_iload_n dX13_collar_1 (mk0 rfl) rfl) ?_
  refine Eq.trans (q_callV (as := [.int i1]) dX13_collar_2 (mk0 rfl) rfl rfl rfl (Nat.le_of_ble_eq_true rfl) (Nat.le_of_ble_eq_true rfl)) (bind_cg fun b2 => ?_)
  refine Eq.trans (cI_bind (Or.inr rfl)) (bind_cg fun p2 => ?_)
  show RS (ZZ L xs) (d + 1) mX13_collar 5 [some (.ref o), some (.int i1), some (.int i2), none] [.int p2.2] p2.1 = _
  refine Eq.trans (q_if_eq (t := 30) dX13_collar_5 (mk0 rfl) rfl) (ite_cg ?_ ?_)
  · rfl
  · refine Eq.trans (q_iload_n dX13_collar_8 (mk0 rfl) rfl) ?_
    refine Eq.trans (q_i2l dX13_collar_9 (mk0 rfl)) ?_
    refine Eq.trans (q_lconst (v := 0) dX13_collar_10 (mk0 rfl) rfl) ?_
    refine Eq.trans (q_ldc2 (v := 9) dX13_collar_11 (mk0 rfl) rfl) ?_
    refine Eq.trans (q_callS (as := [.long ((i2 : Int32).toInt64), .long 0, .long 9]) dX13_collar_14 (mk0 rfl) rfl (Or.inl rfl) rfl rfl (Nat.le_of_ble_eq_true rfl) (Nat.le_of_ble_eq_true rfl)) ?_
    refine Eq.trans (cI_bind (Or.inr rfl)) (bind_cg fun p14 => ?_)
    show RS (ZZ L xs) (d + 1) mX13_collar 17 [some (.ref o), some (.int i1), some (.int i2), none] [.int p14.2] p14.1 = _
    refine Eq.trans (q_if_eq (t := 30) dX13_collar_17 (mk0 rfl) rfl) (ite_cg ?_ ?_)
    · rfl
    · refine Eq.trans (q_aload_n dX13_collar_20 (mk0 rfl) rfl rfl) ?_
      refine Eq.trans (q_getR (ci := 13) (k := 3) dX13_collar_21 (mk0 rfl) rfl) (bind_cg2 fun x21 hx21 => ?_)
      have hx21 := fR_isR hx21
      refine Eq.trans (q_iload_n dX13_collar_24 (mk0 rfl) rfl) ?_
      refine Eq.trans (q_iaload dX13_collar_25 (mk0 rfl) (no_ext hx21)) (bind_cg fun x25 => ?_)
      refine Eq.trans (q_iload_n dX13_collar_26 (mk0 rfl) rfl) ?_
      refine Eq.trans (q_icmp_ne (t := 32) dX13_collar_27 (mk0 rfl) rfl) (ite_cg ?_ ?_)
      · refine Eq.trans (q_aload_n dX13_collar_32 (mk0 rfl) rfl rfl) ?_
        refine Eq.trans (q_callV (as := []) dX13_collar_33 (mk0 rfl) rfl rfl rfl (Nat.le_of_ble_eq_true rfl) (Nat.le_of_ble_eq_true rfl)) (bind_cg fun b33 => ?_)
        refine Eq.trans (cV_bind rfl) (bind_cg fun p33 => ?_)
        show RS (ZZ L xs) (d + 1) mX13_collar 36 [some (.ref o), some (.int i1), some (.int i2), none] [] p33 = _
        refine Eq.trans (q_aload_n dX13_collar_36 (mk0 rfl) rfl rfl) ?_
        refine Eq.trans (q_getR (ci := 13) (k := 3) dX13_collar_37 (mk0 rfl) rfl) (bind_cg2 fun x37 hx37 => ?_)
        have hx37 := fR_isR hx37
        refine Eq.trans (q_iload_n dX13_collar_40 (mk0 rfl) rfl) ?_
        refine Eq.trans (q_iaload dX13_collar_41 (mk0 rfl) (no_ext hx37)) (bind_cg fun x41 => ?_)
        refine Eq.trans (q_istore_n (lv2 := [some (.ref o), some (.int i1), some (.int i2), some (.int x41)]) dX13_collar_42 (mk0 rfl) (Nat.le_of_ble_eq_true rfl) rfl) ?_
        refine Eq.trans (q_aload_n dX13_collar_43 (mk0 rfl) rfl rfl) ?_
        refine Eq.trans (q_getR (ci := 13) (k := 3) dX13_collar_44 (mk0 rfl) rfl) (bind_cg2 fun x44 hx44 => ?_)
        have hx44 := fR_isR hx44
        refine Eq.trans (q_iload_n dX13_collar_47 (mk0 rfl) rfl) ?_
        refine Eq.trans (q_iload_n dX13_collar_48 (mk0 rfl) rfl) ?_
        refine Eq.trans (q_iastore dX13_collar_49 (mk0 rfl)) (bind_cg fun h49 => ?_)
        refine Eq.trans (q_iload_n dX13_collar_50 (mk0 rfl) rfl) ?_
        exact q_ireturn dX13_collar_51 (mk0 rfl) rfl
      · rfl
set_option maxRecDepth 20000 in
theorem bX13_collar_30 {L : Nat} {xs : Nat → Int32} (d : Nat) (u0 : Option Value) (u1 : Option Value) (u2 : Option Value) (u3 : Option Value) (ph : PH) : RS (ZZ L xs) (d + 1) mX13_collar 30 [u0, u1, u2, u3] [] ph = some (ph, some (.int ((-1)))) := by
  refine Eq.trans (q_iconst (v := (-1)) dX13_collar_30 (show mK mX13_collar 30 [u0, u1, u2, u3] = [none, none, none, none] from rfl) rfl) ?_
  exact q_ireturn dX13_collar_31 (mk0 rfl) rfl
set_option maxRecDepth 20000 in
theorem bX13_shuts_0 {L : Nat} {xs : Nat → Int32} (d : Nat) (o : Nat) (i1 : Int32) (i2 : Int32) (ph : PH) : RS (ZZ L xs) (d + 1) mX13_shuts 0 [some (.ref o), some (.int i1), some (.int i2)] [] ph = (fR ph (.ref o) 13 9).bind fun x1 => (eI ph x1 i1).bind fun x6 => (wI ph x1 i1 (x6 ^^^ (iShl 1 i2))).bind fun h11 => (fR h11 (.ref o) 13 9).bind fun x13 => (eI h11 x13 i2).bind fun x18 => (wI h11 x13 i2 (x18 ^^^ (iShl 1 i1))).bind fun h23 => some (h23, none) := by
  refine Eq.trans (q_aload_n dX13_shuts_0 (mk0 rfl) rfl rfl) ?_
  refine Eq.trans (q_getR (ci := 13) (k := 9) dX13_shuts_1 (mk0 rfl) rfl) (bind_cg2 fun x1 hx1 => ?_)
  have hx1 := fR_isR hx1
  refine Eq.trans (q_iload_n dX13_shuts_4 (mk0 rfl) rfl) ?_
  refine Eq.trans (q_dup2 dX13_shuts_5 (mk0 rfl) rfl (cat_R hx1)) ?_
  refine Eq.trans (q_iaload dX13_shuts_6 (mk0 rfl) (no_ext hx1)) (bind_cg fun x6 => ?_)
  refine Eq.trans (q_iconst (v := 1) dX13_shuts_7 (mk0 rfl) rfl) ?_
  refine Eq.trans (q_iload_n dX13_shuts_8 (mk0 rfl) rfl) ?_
  refine Eq.trans (q_ishl dX13_shuts_9 (mk0 rfl)) ?_
  refine Eq.trans (q_ixor dX13_shuts_10 (mk0 rfl)) ?_
  refine Eq.trans (q_iastore dX13_shuts_11 (mk0 rfl)) (bind_cg fun h11 => ?_)
  refine Eq.trans (q_aload_n dX13_shuts_12 (mk0 rfl) rfl rfl) ?_
  refine Eq.trans (q_getR (ci := 13) (k := 9) dX13_shuts_13 (mk0 rfl) rfl) (bind_cg2 fun x13 hx13 => ?_)
  have hx13 := fR_isR hx13
  refine Eq.trans (q_iload_n dX13_shuts_16 (mk0 rfl) rfl) ?_
  refine Eq.trans (q_dup2 dX13_shuts_17 (mk0 rfl) rfl (cat_R hx13)) ?_
  refine Eq.trans (q_iaload dX13_shuts_18 (mk0 rfl) (no_ext hx13)) (bind_cg fun x18 => ?_)
  refine Eq.trans (q_iconst (v := 1) dX13_shuts_19 (mk0 rfl) rfl) ?_
  refine Eq.trans (q_iload_n dX13_shuts_20 (mk0 rfl) rfl) ?_
  refine Eq.trans (q_ishl dX13_shuts_21 (mk0 rfl)) ?_
  refine Eq.trans (q_ixor dX13_shuts_22 (mk0 rfl)) ?_
  refine Eq.trans (q_iastore dX13_shuts_23 (mk0 rfl)) (bind_cg fun h23 => ?_)
  exact q_return dX13_shuts_24 (mk0 rfl) rfl
set_option maxRecDepth 20000 in
theorem bX13_shut_0 {L : Nat} {xs : Nat → Int32} (d : Nat) (o : Nat) (i1 : Int32) (i2 : Int32) (ph : PH) : RS (ZZ L xs) (d + 1) mX13_shut 0 [some (.ref o), some (.int i1), some (.int i2)] [] ph = (iO ph (.ref o) 13).bind fun b2 => (cI (ZZ L xs) d mX13_isPlace [.ref b2, .int i1] ph).bind fun p2 => if (p2.2 : Int32) = 0 then RS (ZZ L xs) (d + 1) mX13_shut 29 [some (.ref o), some (.int i1), some (.int i2)] [] p2.1 else (iO p2.1 (.ref o) 13).bind fun b10 => (cI (ZZ L xs) d mX13_isPlace [.ref b10, .int i2] p2.1).bind fun p10 => if (p10.2 : Int32) = 0 then RS (ZZ L xs) (d + 1) mX13_shut 29 [some (.ref o), some (.int i1), some (.int i2)] [] p10.1 else (fR p10.1 (.ref o) 13 19).bind fun x17 => (eI p10.1 x17 i1).bind fun x21 => (cI (ZZ L xs) d mX13_has [.int x21, .int i2] p10.1).bind fun p23 => if ¬ (p23.2 : Int32) = 0 then (iO p23.1 (.ref o) 13).bind fun b32 => (cV (ZZ L xs) d mX13_keepsAct [.ref b32] p23.1).bind fun p32 => (iO p32 (.ref o) 13).bind fun b38 => (cV (ZZ L xs) d mX13_shuts [.ref b38, .int i1, .int i2] p32).bind fun p38 => (fR p38 (.ref o) 13 9).bind fun x42 => (eI p38 x42 i1).bind fun x46 => (cI (ZZ L xs) d mX13_has [.int x46, .int i2] p38).bind fun p48 => if (p48.2 : Int32) = 0 then RS (ZZ L xs) (d + 1) mX13_shut 59 [some (.ref o), some (.int i1), some (.int i2)] [.int 1] p48.1 else RS (ZZ L xs) (d + 1) mX13_shut 59 [some (.ref o), some (.int i1), some (.int i2)] [.int 0] p48.1 else RS (ZZ L xs) (d + 1) mX13_shut 29 [some (.ref o), some (.int i1), some (.int i2)] [] p23.1 := by
  refine Eq.trans (q_aload_n dX13_shut_0 (mk0 rfl) rfl rfl) ?_
  refine Eq.trans (q_iload_n dX13_shut_1 (mk0 rfl) rfl) ?_
  refine Eq.trans (q_callV (as := [.int i1]) dX13_shut_2 (mk0 rfl) rfl rfl rfl (Nat.le_of_ble_eq_true rfl) (Nat.le_of_ble_eq_true rfl)) (bind_cg fun b2 => ?_)
  refine Eq.trans (cI_bind (Or.inr rfl)) (bind_cg fun p2 => ?_)
  show RS (ZZ L xs) (d + 1) mX13_shut 5 [some (.ref o), some (.int i1), some (.int i2)] [.int p2.2] p2.1 = _
  refine Eq.trans (q_if_eq (t := 29) dX13_shut_5 (mk0 rfl) rfl) (ite_cg ?_ ?_)
  · rfl
  · refine Eq.trans (q_aload_n dX13_shut_8 (mk0 rfl) rfl rfl) ?_
    refine Eq.trans (q_iload_n dX13_shut_9 (mk0 rfl) rfl) ?_
    refine Eq.trans (q_callV (as := [.int i2]) dX13_shut_10 (mk0 rfl) rfl rfl rfl (Nat.le_of_ble_eq_true rfl) (Nat.le_of_ble_eq_true rfl)) (bind_cg fun b10 => ?_)
    refine Eq.trans (cI_bind (Or.inr rfl)) (bind_cg fun p10 => ?_)
    show RS (ZZ L xs) (d + 1) mX13_shut 13 [some (.ref o), some (.int i1), some (.int i2)] [.int p10.2] p10.1 = _
    refine Eq.trans (q_if_eq (t := 29) dX13_shut_13 (mk0 rfl) rfl) (ite_cg ?_ ?_)
    · rfl
    · refine Eq.trans (q_aload_n dX13_shut_16 (mk0 rfl) rfl rfl) ?_
      refine Eq.trans (q_getR (ci := 13) (k := 19) dX13_shut_17 (mk0 rfl) rfl) (bind_cg2 fun x17 hx17 => ?_)
      have hx17 := fR_isR hx17
      refine Eq.trans (q_iload_n dX13_shut_20 (mk0 rfl) rfl) ?_
      refine Eq.trans (q_iaload dX13_shut_21 (mk0 rfl) (no_ext hx17)) (bind_cg fun x21 => ?_)
      refine Eq.trans (q_iload_n dX13_shut_22 (mk0 rfl) rfl) ?_
      refine Eq.trans (q_callS (as := [.int x21, .int i2]) dX13_shut_23 (mk0 rfl) rfl (Or.inl rfl) rfl rfl (Nat.le_of_ble_eq_true rfl) (Nat.le_of_ble_eq_true rfl)) ?_
      refine Eq.trans (cI_bind (Or.inr rfl)) (bind_cg fun p23 => ?_)
      show RS (ZZ L xs) (d + 1) mX13_shut 26 [some (.ref o), some (.int i1), some (.int i2)] [.int p23.2] p23.1 = _
      refine Eq.trans (q_if_ne (t := 31) dX13_shut_26 (mk0 rfl) rfl) (ite_cg ?_ ?_)
      · refine Eq.trans (q_aload_n dX13_shut_31 (mk0 rfl) rfl rfl) ?_
        refine Eq.trans (q_callV (as := []) dX13_shut_32 (mk0 rfl) rfl rfl rfl (Nat.le_of_ble_eq_true rfl) (Nat.le_of_ble_eq_true rfl)) (bind_cg fun b32 => ?_)
        refine Eq.trans (cV_bind rfl) (bind_cg fun p32 => ?_)
        show RS (ZZ L xs) (d + 1) mX13_shut 35 [some (.ref o), some (.int i1), some (.int i2)] [] p32 = _
        refine Eq.trans (q_aload_n dX13_shut_35 (mk0 rfl) rfl rfl) ?_
        refine Eq.trans (q_iload_n dX13_shut_36 (mk0 rfl) rfl) ?_
        refine Eq.trans (q_iload_n dX13_shut_37 (mk0 rfl) rfl) ?_
        refine Eq.trans (q_callV (as := [.int i1, .int i2]) dX13_shut_38 (mk0 rfl) rfl rfl rfl (Nat.le_of_ble_eq_true rfl) (Nat.le_of_ble_eq_true rfl)) (bind_cg fun b38 => ?_)
        refine Eq.trans (cV_bind rfl) (bind_cg fun p38 => ?_)
        show RS (ZZ L xs) (d + 1) mX13_shut 41 [some (.ref o), some (.int i1), some (.int i2)] [] p38 = _
        refine Eq.trans (q_aload_n dX13_shut_41 (mk0 rfl) rfl rfl) ?_
        refine Eq.trans (q_getR (ci := 13) (k := 9) dX13_shut_42 (mk0 rfl) rfl) (bind_cg2 fun x42 hx42 => ?_)
        have hx42 := fR_isR hx42
        refine Eq.trans (q_iload_n dX13_shut_45 (mk0 rfl) rfl) ?_
        refine Eq.trans (q_iaload dX13_shut_46 (mk0 rfl) (no_ext hx42)) (bind_cg fun x46 => ?_)
        refine Eq.trans (q_iload_n dX13_shut_47 (mk0 rfl) rfl) ?_
        refine Eq.trans (q_callS (as := [.int x46, .int i2]) dX13_shut_48 (mk0 rfl) rfl (Or.inl rfl) rfl rfl (Nat.le_of_ble_eq_true rfl) (Nat.le_of_ble_eq_true rfl)) ?_
        refine Eq.trans (cI_bind (Or.inr rfl)) (bind_cg fun p48 => ?_)
        show RS (ZZ L xs) (d + 1) mX13_shut 51 [some (.ref o), some (.int i1), some (.int i2)] [.int p48.2] p48.1 = _
        refine Eq.trans (q_if_eq (t := 58) dX13_shut_51 (mk0 rfl) rfl) (ite_cg ?_ ?_)
        · refine Eq.trans (q_iconst (v := 1) dX13_shut_58 (mk0 rfl) rfl) ?_
          rfl
        · refine Eq.trans (q_iconst (v := 0) dX13_shut_54 (mk0 rfl) rfl) ?_
          refine Eq.trans (q_goto (t := 59) dX13_shut_55 (mk0 rfl) rfl) ?_
          rfl
      · rfl
set_option maxRecDepth 20000 in
theorem bX13_shut_29 {L : Nat} {xs : Nat → Int32} (d : Nat) (u0 : Option Value) (u1 : Option Value) (u2 : Option Value) (ph : PH) : RS (ZZ L xs) (d + 1) mX13_shut 29 [u0, u1, u2] [] ph = some (ph, some (.int ((-1)))) := by
  refine Eq.trans (q_iconst (v := (-1)) dX13_shut_29 (show mK mX13_shut 29 [u0, u1, u2] = [none, none, none] from rfl) rfl) ?_
  exact q_ireturn dX13_shut_30 (mk0 rfl) rfl
set_option maxRecDepth 20000 in
theorem bX13_shut_59 {L : Nat} {xs : Nat → Int32} (d : Nat) (u0 : Option Value) (u1 : Option Value) (u2 : Option Value) (t0 : Int32) (ph : PH) : RS (ZZ L xs) (d + 1) mX13_shut 59 [u0, u1, u2] [.int t0] ph = some (ph, some (.int t0)) := by
  exact q_ireturn dX13_shut_59 (show mK mX13_shut 59 [u0, u1, u2] = [none, none, none] from rfl) rfl
set_option maxRecDepth 20000 in
theorem bX13_hunt_0 {L : Nat} {xs : Nat → Int32} (d : Nat) (o : Nat) (i1 : Int32) (ph : PH) : RS (ZZ L xs) (d + 1) mX13_hunt 0 [some (.ref o), some (.int i1), none] [] ph = (iO ph (.ref o) 13).bind fun b2 => (cI (ZZ L xs) d mX13_isStranger [.ref b2, .int i1] ph).bind fun p2 => if (p2.2 : Int32) = 0 then RS (ZZ L xs) (d + 1) mX13_hunt 18 [some (.ref o), some (.int i1), none] [] p2.1 else (fR p2.1 (.ref o) 13 7).bind fun x9 => (eI p2.1 x9 i1).bind fun x13 => if ¬ (x13 : Int32) = (-1) then (iO p2.1 (.ref o) 13).bind fun b21 => (cV (ZZ L xs) d mX13_keepsAct [.ref b21] p2.1).bind fun p21 => (fR p21 (.ref o) 13 7).bind fun x25 => (eI p21 x25 i1).bind fun x29 => (fR p21 (.ref o) 13 7).bind fun x32 => (wI p21 x32 i1 ((-1))).bind fun h37 => some (h37, some (.int x29)) else RS (ZZ L xs) (d + 1) mX13_hunt 18 [some (.ref o), some (.int i1), none] [] p2.1 := by
  refine Eq.trans (q_aload_n dX13_hunt_0 (mk0 rfl) rfl rfl) ?_
  refine Eq.trans (q_iload_n dX13_hunt_1 (mk0 rfl) rfl) ?_
  refine Eq.trans (q_callV (as := [.int i1]) dX13_hunt_2 (mk0 rfl) rfl rfl rfl (Nat.le_of_ble_eq_true rfl) (Nat.le_of_ble_eq_true rfl)) (bind_cg fun b2 => ?_)
  refine Eq.trans (cI_bind (Or.inr rfl)) (bind_cg fun p2 => ?_)
  show RS (ZZ L xs) (d + 1) mX13_hunt 5 [some (.ref o), some (.int i1), none] [.int p2.2] p2.1 = _
  refine Eq.trans (q_if_eq (t := 18) dX13_hunt_5 (mk0 rfl) rfl) (ite_cg ?_ ?_)
  · rfl
  · refine Eq.trans (q_aload_n dX13_hunt_8 (mk0 rfl) rfl rfl) ?_
    refine Eq.trans (q_getR (ci := 13) (k := 7) dX13_hunt_9 (mk0 rfl) rfl) (bind_cg2 fun x9 hx9 => ?_)
    have hx9 := fR_isR hx9
    refine Eq.trans (q_iload_n dX13_hunt_12 (mk0 rfl) rfl) ?_
    refine Eq.trans (q_iaload dX13_hunt_13 (mk0 rfl) (no_ext hx9)) (bind_cg fun x13 => ?_)
    refine Eq.trans (q_iconst (v := (-1)) dX13_hunt_14 (mk0 rfl) rfl) ?_
    refine Eq.trans (q_icmp_ne (t := 20) dX13_hunt_15 (mk0 rfl) rfl) (ite_cg ?_ ?_)
    · refine Eq.trans (q_aload_n dX13_hunt_20 (mk0 rfl) rfl rfl) ?_
      refine Eq.trans (q_callV (as := []) dX13_hunt_21 (mk0 rfl) rfl rfl rfl (Nat.le_of_ble_eq_true rfl) (Nat.le_of_ble_eq_true rfl)) (bind_cg fun b21 => ?_)
      refine Eq.trans (cV_bind rfl) (bind_cg fun p21 => ?_)
      show RS (ZZ L xs) (d + 1) mX13_hunt 24 [some (.ref o), some (.int i1), none] [] p21 = _
      refine Eq.trans (q_aload_n dX13_hunt_24 (mk0 rfl) rfl rfl) ?_
      refine Eq.trans (q_getR (ci := 13) (k := 7) dX13_hunt_25 (mk0 rfl) rfl) (bind_cg2 fun x25 hx25 => ?_)
      have hx25 := fR_isR hx25
      refine Eq.trans (q_iload_n dX13_hunt_28 (mk0 rfl) rfl) ?_
      refine Eq.trans (q_iaload dX13_hunt_29 (mk0 rfl) (no_ext hx25)) (bind_cg fun x29 => ?_)
      refine Eq.trans (q_istore_n (lv2 := [some (.ref o), some (.int i1), some (.int x29)]) dX13_hunt_30 (mk0 rfl) (Nat.le_of_ble_eq_true rfl) rfl) ?_
      refine Eq.trans (q_aload_n dX13_hunt_31 (mk0 rfl) rfl rfl) ?_
      refine Eq.trans (q_getR (ci := 13) (k := 7) dX13_hunt_32 (mk0 rfl) rfl) (bind_cg2 fun x32 hx32 => ?_)
      have hx32 := fR_isR hx32
      refine Eq.trans (q_iload_n dX13_hunt_35 (mk0 rfl) rfl) ?_
      refine Eq.trans (q_iconst (v := (-1)) dX13_hunt_36 (mk0 rfl) rfl) ?_
      refine Eq.trans (q_iastore dX13_hunt_37 (mk0 rfl)) (bind_cg fun h37 => ?_)
      refine Eq.trans (q_iload_n dX13_hunt_38 (mk0 rfl) rfl) ?_
      exact q_ireturn dX13_hunt_39 (mk0 rfl) rfl
    · rfl
set_option maxRecDepth 20000 in
theorem bX13_hunt_18 {L : Nat} {xs : Nat → Int32} (d : Nat) (u0 : Option Value) (u1 : Option Value) (u2 : Option Value) (ph : PH) : RS (ZZ L xs) (d + 1) mX13_hunt 18 [u0, u1, u2] [] ph = some (ph, some (.int ((-1)))) := by
  refine Eq.trans (q_iconst (v := (-1)) dX13_hunt_18 (show mK mX13_hunt 18 [u0, u1, u2] = [none, none, none] from rfl) rfl) ?_
  exact q_ireturn dX13_hunt_19 (mk0 rfl) rfl
set_option maxRecDepth 20000 in
theorem bX13_keepsAll_0 {L : Nat} {xs : Nat → Int32} (d : Nat) (o : Nat) (ph : PH) : RS (ZZ L xs) (d + 1) mX13_keepsAll 0 [some (.ref o)] [] ph = (iO ph (.ref o) 13).bind fun b3 => (cV (ZZ L xs) d mX13_carriesAll [.ref b3, .int 4, .int 0] ph).bind fun p3 => some (p3, none) := by
  refine Eq.trans (q_aload_n dX13_keepsAll_0 (mk0 rfl) rfl rfl) ?_
  refine Eq.trans (q_iconst (v := 4) dX13_keepsAll_1 (mk0 rfl) rfl) ?_
  refine Eq.trans (q_iconst (v := 0) dX13_keepsAll_2 (mk0 rfl) rfl) ?_
  refine Eq.trans (q_callV (as := [.int 4, .int 0]) dX13_keepsAll_3 (mk0 rfl) rfl rfl rfl (Nat.le_of_ble_eq_true rfl) (Nat.le_of_ble_eq_true rfl)) (bind_cg fun b3 => ?_)
  refine Eq.trans (cV_bind rfl) (bind_cg fun p3 => ?_)
  show RS (ZZ L xs) (d + 1) mX13_keepsAll 6 [some (.ref o)] [] p3 = _
  exact q_return dX13_keepsAll_6 (mk0 rfl) rfl
set_option maxRecDepth 20000 in
theorem bX13_laysBack_0 {L : Nat} {xs : Nat → Int32} (d : Nat) (o : Nat) (ph : PH) : RS (ZZ L xs) (d + 1) mX13_laysBack 0 [some (.ref o)] [] ph = (iO ph (.ref o) 13).bind fun b3 => (cV (ZZ L xs) d mX13_carriesAll [.ref b3, .int 4, .int 1] ph).bind fun p3 => some (p3, none) := by
  refine Eq.trans (q_aload_n dX13_laysBack_0 (mk0 rfl) rfl rfl) ?_
  refine Eq.trans (q_iconst (v := 4) dX13_laysBack_1 (mk0 rfl) rfl) ?_
  refine Eq.trans (q_iconst (v := 1) dX13_laysBack_2 (mk0 rfl) rfl) ?_
  refine Eq.trans (q_callV (as := [.int 4, .int 1]) dX13_laysBack_3 (mk0 rfl) rfl rfl rfl (Nat.le_of_ble_eq_true rfl) (Nat.le_of_ble_eq_true rfl)) (bind_cg fun b3 => ?_)
  refine Eq.trans (cV_bind rfl) (bind_cg fun p3 => ?_)
  show RS (ZZ L xs) (d + 1) mX13_laysBack 6 [some (.ref o)] [] p3 = _
  exact q_return dX13_laysBack_6 (mk0 rfl) rfl
set_option maxRecDepth 20000 in
theorem bX13_ahead_0 {L : Nat} {xs : Nat → Int32} (d : Nat) (o : Nat) (i1 : Int32) (i2 : Int32) (i3 : Int32) (ph : PH) : RS (ZZ L xs) (d + 1) mX13_ahead 0 [some (.ref o), some (.int i1), some (.int i2), some (.int i3), none, none] [] ph = if ¬ (i3 : Int32) = 0 then RS (ZZ L xs) (d + 1) mX13_ahead 12 [some (.ref o), some (.int i1), some (.int i2), some (.int i3), none, none] [] ph else (iO ph (.ref o) 13).bind fun b6 => (cI (ZZ L xs) d mX13_isPerson [.ref b6, .int i1] ph).bind fun p6 => if ¬ (p6.2 : Int32) = 0 then RS (ZZ L xs) (d + 1) mX13_ahead 39 [some (.ref o), some (.int i1), some (.int i2), some (.int i3), none, none] [] p6.1 else RS (ZZ L xs) (d + 1) mX13_ahead 12 [some (.ref o), some (.int i1), some (.int i2), some (.int i3), none, none] [] p6.1 := by
  refine Eq.trans (q_iload_n dX13_ahead_0 (mk0 rfl) rfl) ?_
  refine Eq.trans (q_if_ne (t := 12) dX13_ahead_1 (mk0 rfl) rfl) (ite_cg ?_ ?_)
  · rfl
  · refine Eq.trans (q_aload_n dX13_ahead_4 (mk0 rfl) rfl rfl) ?_
    refine Eq.trans (q_iload_n dX13_ahead_5 (mk0 rfl) rfl) ?_
    refine Eq.trans (q_callV (as := [.int i1]) dX13_ahead_6 (mk0 rfl) rfl rfl rfl (Nat.le_of_ble_eq_true rfl) (Nat.le_of_ble_eq_true rfl)) (bind_cg fun b6 => ?_)
    refine Eq.trans (cI_bind (Or.inr rfl)) (bind_cg fun p6 => ?_)
    show RS (ZZ L xs) (d + 1) mX13_ahead 9 [some (.ref o), some (.int i1), some (.int i2), some (.int i3), none, none] [.int p6.2] p6.1 = _
    refine Eq.trans (q_if_ne (t := 39) dX13_ahead_9 (mk0 rfl) rfl) (ite_cg ?_ ?_)
    · rfl
    · rfl
set_option maxRecDepth 20000 in
theorem bX13_ahead_12 {L : Nat} {xs : Nat → Int32} (d : Nat) (o : Nat) (i1 : Int32) (i2 : Int32) (i3 : Int32) (u4 : Option Value) (u5 : Option Value) (ph : PH) : RS (ZZ L xs) (d + 1) mX13_ahead 12 [some (.ref o), some (.int i1), some (.int i2), some (.int i3), u4, u5] [] ph = if ¬ (i3 : Int32) = 1 then RS (ZZ L xs) (d + 1) mX13_ahead 25 [some (.ref o), some (.int i1), some (.int i2), some (.int i3), none, none] [] ph else (iO ph (.ref o) 13).bind fun b19 => (cI (ZZ L xs) d mX13_isStranger [.ref b19, .int i1] ph).bind fun p19 => if ¬ (p19.2 : Int32) = 0 then RS (ZZ L xs) (d + 1) mX13_ahead 39 [some (.ref o), some (.int i1), some (.int i2), some (.int i3), none, none] [] p19.1 else RS (ZZ L xs) (d + 1) mX13_ahead 25 [some (.ref o), some (.int i1), some (.int i2), some (.int i3), none, none] [] p19.1 := by
  refine Eq.trans (q_iload_n dX13_ahead_12 (show mK mX13_ahead 12 [some (.ref o), some (.int i1), some (.int i2), some (.int i3), u4, u5] = [some (.ref o), some (.int i1), some (.int i2), some (.int i3), none, none] from rfl) rfl) ?_
  refine Eq.trans (q_iconst (v := 1) dX13_ahead_13 (mk0 rfl) rfl) ?_
  refine Eq.trans (q_icmp_ne (t := 25) dX13_ahead_14 (mk0 rfl) rfl) (ite_cg ?_ ?_)
  · rfl
  · refine Eq.trans (q_aload_n dX13_ahead_17 (mk0 rfl) rfl rfl) ?_
    refine Eq.trans (q_iload_n dX13_ahead_18 (mk0 rfl) rfl) ?_
    refine Eq.trans (q_callV (as := [.int i1]) dX13_ahead_19 (mk0 rfl) rfl rfl rfl (Nat.le_of_ble_eq_true rfl) (Nat.le_of_ble_eq_true rfl)) (bind_cg fun b19 => ?_)
    refine Eq.trans (cI_bind (Or.inr rfl)) (bind_cg fun p19 => ?_)
    show RS (ZZ L xs) (d + 1) mX13_ahead 22 [some (.ref o), some (.int i1), some (.int i2), some (.int i3), none, none] [.int p19.2] p19.1 = _
    refine Eq.trans (q_if_ne (t := 39) dX13_ahead_22 (mk0 rfl) rfl) (ite_cg ?_ ?_)
    · rfl
    · rfl
set_option maxRecDepth 20000 in
theorem bX13_ahead_25 {L : Nat} {xs : Nat → Int32} (d : Nat) (o : Nat) (i1 : Int32) (i2 : Int32) (i3 : Int32) (u4 : Option Value) (u5 : Option Value) (ph : PH) : RS (ZZ L xs) (d + 1) mX13_ahead 25 [some (.ref o), some (.int i1), some (.int i2), some (.int i3), u4, u5] [] ph = (cI (ZZ L xs) d mX13_in [.long ((i3 : Int32).toInt64), .long 2, .long 3] ph).bind fun p33 => if (p33.2 : Int32) = 0 then RS (ZZ L xs) (d + 1) mX13_ahead 44 [some (.ref o), some (.int i1), some (.int i2), some (.int i3), none, none] [.int 0] p33.1 else RS (ZZ L xs) (d + 1) mX13_ahead 39 [some (.ref o), some (.int i1), some (.int i2), some (.int i3), none, none] [] p33.1 := by
  refine Eq.trans (q_iload_n dX13_ahead_25 (show mK mX13_ahead 25 [some (.ref o), some (.int i1), some (.int i2), some (.int i3), u4, u5] = [some (.ref o), some (.int i1), some (.int i2), some (.int i3), none, none] from rfl) rfl) ?_
  refine Eq.trans (q_i2l dX13_ahead_26 (mk0 rfl)) ?_
  refine Eq.trans (q_ldc2 (v := 2) dX13_ahead_27 (mk0 rfl) rfl) ?_
  refine Eq.trans (q_ldc2 (v := 3) dX13_ahead_30 (mk0 rfl) rfl) ?_
  refine Eq.trans (q_callS (as := [.long ((i3 : Int32).toInt64), .long 2, .long 3]) dX13_ahead_33 (mk0 rfl) rfl (Or.inl rfl) rfl rfl (Nat.le_of_ble_eq_true rfl) (Nat.le_of_ble_eq_true rfl)) ?_
  refine Eq.trans (cI_bind (Or.inr rfl)) (bind_cg fun p33 => ?_)
  show RS (ZZ L xs) (d + 1) mX13_ahead 36 [some (.ref o), some (.int i1), some (.int i2), some (.int i3), none, none] [.int p33.2] p33.1 = _
  refine Eq.trans (q_if_eq (t := 43) dX13_ahead_36 (mk0 rfl) rfl) (ite_cg ?_ ?_)
  · refine Eq.trans (q_iconst (v := 0) dX13_ahead_43 (mk0 rfl) rfl) ?_
    rfl
  · rfl
set_option maxRecDepth 20000 in
theorem bX13_ahead_39 {L : Nat} {xs : Nat → Int32} (d : Nat) (o : Nat) (i1 : Int32) (i2 : Int32) (i3 : Int32) (u4 : Option Value) (u5 : Option Value) (ph : PH) : RS (ZZ L xs) (d + 1) mX13_ahead 39 [some (.ref o), some (.int i1), some (.int i2), some (.int i3), u4, u5] [] ph = RS (ZZ L xs) (d + 1) mX13_ahead 44 [some (.ref o), some (.int i1), some (.int i2), some (.int i3), none, none] [.int 1] ph := by
  refine Eq.trans (q_iconst (v := 1) dX13_ahead_39 (show mK mX13_ahead 39 [some (.ref o), some (.int i1), some (.int i2), some (.int i3), u4, u5] = [some (.ref o), some (.int i1), some (.int i2), some (.int i3), none, none] from rfl) rfl) ?_
  refine Eq.trans (q_goto (t := 44) dX13_ahead_40 (mk0 rfl) rfl) ?_
  rfl
set_option maxRecDepth 20000 in
theorem bX13_ahead_44 {L : Nat} {xs : Nat → Int32} (d : Nat) (o : Nat) (i1 : Int32) (i2 : Int32) (i3 : Int32) (u4 : Option Value) (u5 : Option Value) (t0 : Int32) (ph : PH) : RS (ZZ L xs) (d + 1) mX13_ahead 44 [some (.ref o), some (.int i1), some (.int i2), some (.int i3), u4, u5] [.int t0] ph = (iO ph (.ref o) 13).bind fun b47 => (cI (ZZ L xs) d mX13_isTown [.ref b47] ph).bind fun p47 => if (p47.2 : Int32) = 0 then RS (ZZ L xs) (d + 1) mX13_ahead 70 [some (.ref o), some (.int i1), some (.int i2), some (.int i3), some (.int t0), none] [] p47.1 else if (t0 : Int32) = 0 then RS (ZZ L xs) (d + 1) mX13_ahead 70 [some (.ref o), some (.int i1), some (.int i2), some (.int i3), some (.int t0), none] [] p47.1 else (cI (ZZ L xs) d mX13_in [.long ((i2 : Int32).toInt64), .long 0, .long 100] p47.1).bind fun p64 => if ¬ (p64.2 : Int32) = 0 then (iO p64.1 (.ref o) 13).bind fun b74 => (cV (ZZ L xs) d mX13_keepsAll [.ref b74] p64.1).bind fun p74 => (iO p74 (.ref o) 13).bind fun b79 => (cV (ZZ L xs) d mX13_goFor [.ref b79, .int i2] p74).bind fun p79 => if ¬ (i3 : Int32) = 0 then if ¬ (i3 : Int32) = 1 then if ¬ (i3 : Int32) = 2 then (fR p79 (.ref o) 13 1).bind fun x125 => (eI p79 x125 5).bind fun x129 => RS (ZZ L xs) (d + 1) mX13_ahead 130 [some (.ref o), some (.int i1), some (.int i2), some (.int i3), some (.int t0), none] [.int x129] p79 else (fR p79 (.ref o) 13 1).bind fun x115 => (eI p79 x115 6).bind fun x120 => RS (ZZ L xs) (d + 1) mX13_ahead 130 [some (.ref o), some (.int i1), some (.int i2), some (.int i3), some (.int t0), none] [.int x120] p79 else (fR p79 (.ref o) 13 7).bind fun x101 => (eI p79 x101 i1).bind fun x105 => RS (ZZ L xs) (d + 1) mX13_ahead 130 [some (.ref o), some (.int i1), some (.int i2), some (.int i3), some (.int t0), none] [.int x105] p79 else (fR p79 (.ref o) 13 5).bind fun x87 => (eI p79 x87 i1).bind fun x91 => RS (ZZ L xs) (d + 1) mX13_ahead 130 [some (.ref o), some (.int i1), some (.int i2), some (.int i3), some (.int t0), none] [.int x91] p79 else RS (ZZ L xs) (d + 1) mX13_ahead 70 [some (.ref o), some (.int i1), some (.int i2), some (.int i3), some (.int t0), none] [] p64.1 := by
  refine Eq.trans (q_istore (lv2 := [some (.ref o), some (.int i1), some (.int i2), some (.int i3), some (.int t0), none]) dX13_ahead_44 (show mK mX13_ahead 44 [some (.ref o), some (.int i1), some (.int i2), some (.int i3), u4, u5] = [some (.ref o), some (.int i1), some (.int i2), some (.int i3), none, none] from rfl) (Nat.le_of_ble_eq_true rfl) rfl) ?_
  refine Eq.trans (q_aload_n dX13_ahead_46 (mk0 rfl) rfl rfl) ?_
  refine Eq.trans (q_callV (as := []) dX13_ahead_47 (mk0 rfl) rfl rfl rfl (Nat.le_of_ble_eq_true rfl) (Nat.le_of_ble_eq_true rfl)) (bind_cg fun b47 => ?_)
  refine Eq.trans (cI_bind (Or.inr rfl)) (bind_cg fun p47 => ?_)
  show RS (ZZ L xs) (d + 1) mX13_ahead 50 [some (.ref o), some (.int i1), some (.int i2), some (.int i3), some (.int t0), none] [.int p47.2] p47.1 = _
  refine Eq.trans (q_if_eq (t := 70) dX13_ahead_50 (mk0 rfl) rfl) (ite_cg ?_ ?_)
  · rfl
  · refine Eq.trans (q_iload dX13_ahead_53 (mk0 rfl) rfl) ?_
    refine Eq.trans (q_if_eq (t := 70) dX13_ahead_55 (mk0 rfl) rfl) (ite_cg ?_ ?_)
    · rfl
    · refine Eq.trans (q_iload_n dX13_ahead_58 (mk0 rfl) rfl) ?_
      refine Eq.trans (q_i2l dX13_ahead_59 (mk0 rfl)) ?_
      refine Eq.trans (q_lconst (v := 0) dX13_ahead_60 (mk0 rfl) rfl) ?_
      refine Eq.trans (q_ldc2 (v := 100) dX13_ahead_61 (mk0 rfl) rfl) ?_
      refine Eq.trans (q_callS (as := [.long ((i2 : Int32).toInt64), .long 0, .long 100]) dX13_ahead_64 (mk0 rfl) rfl (Or.inl rfl) rfl rfl (Nat.le_of_ble_eq_true rfl) (Nat.le_of_ble_eq_true rfl)) ?_
      refine Eq.trans (cI_bind (Or.inr rfl)) (bind_cg fun p64 => ?_)
      show RS (ZZ L xs) (d + 1) mX13_ahead 67 [some (.ref o), some (.int i1), some (.int i2), some (.int i3), some (.int t0), none] [.int p64.2] p64.1 = _
      refine Eq.trans (q_if_ne (t := 73) dX13_ahead_67 (mk0 rfl) rfl) (ite_cg ?_ ?_)
      · refine Eq.trans (q_aload_n dX13_ahead_73 (mk0 rfl) rfl rfl) ?_
        refine Eq.trans (q_callV (as := []) dX13_ahead_74 (mk0 rfl) rfl rfl rfl (Nat.le_of_ble_eq_true rfl) (Nat.le_of_ble_eq_true rfl)) (bind_cg fun b74 => ?_)
        refine Eq.trans (cV_bind rfl) (bind_cg fun p74 => ?_)
        show RS (ZZ L xs) (d + 1) mX13_ahead 77 [some (.ref o), some (.int i1), some (.int i2), some (.int i3), some (.int t0), none] [] p74 = _
        refine Eq.trans (q_aload_n dX13_ahead_77 (mk0 rfl) rfl rfl) ?_
        refine Eq.trans (q_iload_n dX13_ahead_78 (mk0 rfl) rfl) ?_
        refine Eq.trans (q_callV (as := [.int i2]) dX13_ahead_79 (mk0 rfl) rfl rfl rfl (Nat.le_of_ble_eq_true rfl) (Nat.le_of_ble_eq_true rfl)) (bind_cg fun b79 => ?_)
        refine Eq.trans (cV_bind rfl) (bind_cg fun p79 => ?_)
        show RS (ZZ L xs) (d + 1) mX13_ahead 82 [some (.ref o), some (.int i1), some (.int i2), some (.int i3), some (.int t0), none] [] p79 = _
        refine Eq.trans (q_iload_n dX13_ahead_82 (mk0 rfl) rfl) ?_
        refine Eq.trans (q_if_ne (t := 95) dX13_ahead_83 (mk0 rfl) rfl) (ite_cg ?_ ?_)
        · refine Eq.trans (q_iload_n dX13_ahead_95 (mk0 rfl) rfl) ?_
          refine Eq.trans (q_iconst (v := 1) dX13_ahead_96 (mk0 rfl) rfl) ?_
          refine Eq.trans (q_icmp_ne (t := 109) dX13_ahead_97 (mk0 rfl) rfl) (ite_cg ?_ ?_)
          · refine Eq.trans (q_iload_n dX13_ahead_109 (mk0 rfl) rfl) ?_
            refine Eq.trans (q_iconst (v := 2) dX13_ahead_110 (mk0 rfl) rfl) ?_
            refine Eq.trans (q_icmp_ne (t := 124) dX13_ahead_111 (mk0 rfl) rfl) (ite_cg ?_ ?_)
            · refine Eq.trans (q_aload_n dX13_ahead_124 (mk0 rfl) rfl rfl) ?_
              refine Eq.trans (q_getR (ci := 13) (k := 1) dX13_ahead_125 (mk0 rfl) rfl) (bind_cg2 fun x125 hx125 => ?_)
              have hx125 := fR_isR hx125
              refine Eq.trans (q_iconst (v := 5) dX13_ahead_128 (mk0 rfl) rfl) ?_
              refine Eq.trans (q_iaload dX13_ahead_129 (mk0 rfl) (no_ext hx125)) (bind_cg fun x129 => ?_)
              rfl
            · refine Eq.trans (q_aload_n dX13_ahead_114 (mk0 rfl) rfl rfl) ?_
              refine Eq.trans (q_getR (ci := 13) (k := 1) dX13_ahead_115 (mk0 rfl) rfl) (bind_cg2 fun x115 hx115 => ?_)
              have hx115 := fR_isR hx115
              refine Eq.trans (q_bipush (v := 6) dX13_ahead_118 (mk0 rfl) rfl) ?_
              refine Eq.trans (q_iaload dX13_ahead_120 (mk0 rfl) (no_ext hx115)) (bind_cg fun x120 => ?_)
              refine Eq.trans (q_goto (t := 130) dX13_ahead_121 (mk0 rfl) rfl) ?_
              rfl
          · refine Eq.trans (q_aload_n dX13_ahead_100 (mk0 rfl) rfl rfl) ?_
            refine Eq.trans (q_getR (ci := 13) (k := 7) dX13_ahead_101 (mk0 rfl) rfl) (bind_cg2 fun x101 hx101 => ?_)
            have hx101 := fR_isR hx101
            refine Eq.trans (q_iload_n dX13_ahead_104 (mk0 rfl) rfl) ?_
            refine Eq.trans (q_iaload dX13_ahead_105 (mk0 rfl) (no_ext hx101)) (bind_cg fun x105 => ?_)
            refine Eq.trans (q_goto (t := 130) dX13_ahead_106 (mk0 rfl) rfl) ?_
            rfl
        · refine Eq.trans (q_aload_n dX13_ahead_86 (mk0 rfl) rfl rfl) ?_
          refine Eq.trans (q_getR (ci := 13) (k := 5) dX13_ahead_87 (mk0 rfl) rfl) (bind_cg2 fun x87 hx87 => ?_)
          have hx87 := fR_isR hx87
          refine Eq.trans (q_iload_n dX13_ahead_90 (mk0 rfl) rfl) ?_
          refine Eq.trans (q_iaload dX13_ahead_91 (mk0 rfl) (no_ext hx87)) (bind_cg fun x91 => ?_)
          refine Eq.trans (q_goto (t := 130) dX13_ahead_92 (mk0 rfl) rfl) ?_
          rfl
      · rfl
set_option maxRecDepth 20000 in
theorem bX13_ahead_70 {L : Nat} {xs : Nat → Int32} (d : Nat) (u0 : Option Value) (u1 : Option Value) (u2 : Option Value) (u3 : Option Value) (u4 : Option Value) (u5 : Option Value) (ph : PH) : RS (ZZ L xs) (d + 1) mX13_ahead 70 [u0, u1, u2, u3, u4, u5] [] ph = some (ph, some (.int ((-2)))) := by
  refine Eq.trans (q_bipush (v := (-2)) dX13_ahead_70 (show mK mX13_ahead 70 [u0, u1, u2, u3, u4, u5] = [none, none, none, none, none, none] from rfl) rfl) ?_
  exact q_ireturn dX13_ahead_72 (mk0 rfl) rfl
set_option maxRecDepth 20000 in
theorem bX13_ahead_130 {L : Nat} {xs : Nat → Int32} (d : Nat) (o : Nat) (u1 : Option Value) (u2 : Option Value) (u3 : Option Value) (u4 : Option Value) (u5 : Option Value) (t0 : Int32) (ph : PH) : RS (ZZ L xs) (d + 1) mX13_ahead 130 [some (.ref o), u1, u2, u3, u4, u5] [.int t0] ph = (iO ph (.ref o) 13).bind fun b133 => (cV (ZZ L xs) d mX13_laysBack [.ref b133] ph).bind fun p133 => some (p133, some (.int t0)) := by
  refine Eq.trans (q_istore (lv2 := [some (.ref o), none, none, none, none, some (.int t0)]) dX13_ahead_130 (show mK mX13_ahead 130 [some (.ref o), u1, u2, u3, u4, u5] = [some (.ref o), none, none, none, none, none] from rfl) (Nat.le_of_ble_eq_true rfl) rfl) ?_
  refine Eq.trans (q_aload_n dX13_ahead_132 (mk0 rfl) rfl rfl) ?_
  refine Eq.trans (q_callV (as := []) dX13_ahead_133 (mk0 rfl) rfl rfl rfl (Nat.le_of_ble_eq_true rfl) (Nat.le_of_ble_eq_true rfl)) (bind_cg fun b133 => ?_)
  refine Eq.trans (cV_bind rfl) (bind_cg fun p133 => ?_)
  show RS (ZZ L xs) (d + 1) mX13_ahead 136 [some (.ref o), none, none, none, none, some (.int t0)] [] p133 = _
  refine Eq.trans (q_iload dX13_ahead_136 (mk0 rfl) rfl) ?_
  exact q_ireturn dX13_ahead_138 (mk0 rfl) rfl
set_option maxRecDepth 20000 in
theorem bX13_mayor_0 {L : Nat} {xs : Nat → Int32} (d : Nat) (o : Nat) (i1 : Int32) (ph : PH) : RS (ZZ L xs) (d + 1) mX13_mayor 0 [some (.ref o), some (.int i1), none, none] [] ph = (iO ph (.ref o) 13).bind fun b2 => (cI (ZZ L xs) d mX13_isPerson [.ref b2, .int i1] ph).bind fun p2 => if ¬ (p2.2 : Int32) = 0 then (iO p2.1 (.ref o) 13).bind fun b11 => (cV (ZZ L xs) d mX13_keepsAll [.ref b11] p2.1).bind fun p11 => RS (ZZ L xs) (d + 1) mX13_mayor 19 [some (.ref o), some (.int i1), some (.int ((-2))), some (.int 0)] [] p11 else some (p2.1, some (.int ((-1)))) := by
  refine Eq.trans (q_aload_n dX13_mayor_0 (mk0 rfl) rfl rfl) ?_
  refine Eq.trans (q_iload_n dX13_mayor_1 (mk0 rfl) rfl) ?_
  refine Eq.trans (q_callV (as := [.int i1]) dX13_mayor_2 (mk0 rfl) rfl rfl rfl (Nat.le_of_ble_eq_true rfl) (Nat.le_of_ble_eq_true rfl)) (bind_cg fun b2 => ?_)
  refine Eq.trans (cI_bind (Or.inr rfl)) (bind_cg fun p2 => ?_)
  show RS (ZZ L xs) (d + 1) mX13_mayor 5 [some (.ref o), some (.int i1), none, none] [.int p2.2] p2.1 = _
  refine Eq.trans (q_if_ne (t := 10) dX13_mayor_5 (mk0 rfl) rfl) (ite_cg ?_ ?_)
  · refine Eq.trans (q_aload_n dX13_mayor_10 (mk0 rfl) rfl rfl) ?_
    refine Eq.trans (q_callV (as := []) dX13_mayor_11 (mk0 rfl) rfl rfl rfl (Nat.le_of_ble_eq_true rfl) (Nat.le_of_ble_eq_true rfl)) (bind_cg fun b11 => ?_)
    refine Eq.trans (cV_bind rfl) (bind_cg fun p11 => ?_)
    show RS (ZZ L xs) (d + 1) mX13_mayor 14 [some (.ref o), some (.int i1), none, none] [] p11 = _
    refine Eq.trans (q_bipush (v := (-2)) dX13_mayor_14 (mk0 rfl) rfl) ?_
    refine Eq.trans (q_istore_n (lv2 := [some (.ref o), some (.int i1), some (.int ((-2))), none]) dX13_mayor_16 (mk0 rfl) (Nat.le_of_ble_eq_true rfl) rfl) ?_
    refine Eq.trans (q_iconst (v := 0) dX13_mayor_17 (mk0 rfl) rfl) ?_
    refine Eq.trans (q_istore_n (lv2 := [some (.ref o), some (.int i1), some (.int ((-2))), some (.int 0)]) dX13_mayor_18 (mk0 rfl) (Nat.le_of_ble_eq_true rfl) rfl) ?_
    rfl
  · refine Eq.trans (q_iconst (v := (-1)) dX13_mayor_8 (mk0 rfl) rfl) ?_
    exact q_ireturn dX13_mayor_9 (mk0 rfl) rfl
set_option maxRecDepth 20000 in
theorem bX13_mayor_19 {L : Nat} {xs : Nat → Int32} (d : Nat) (o : Nat) (i1 : Int32) (i2 : Int32) (i3 : Int32) (ph : PH) : RS (ZZ L xs) (d + 1) mX13_mayor 19 [some (.ref o), some (.int i1), some (.int i2), some (.int i3)] [] ph = if (100 : Int32) ≤ i3 then RS (ZZ L xs) (d + 1) mX13_mayor 64 [some (.ref o), some (.int i1), some (.int i2), some (.int i3)] [] ph else if ¬ (i2 : Int32) = (-2) then RS (ZZ L xs) (d + 1) mX13_mayor 64 [some (.ref o), some (.int i1), some (.int i2), some (.int i3)] [] ph else (fR ph (.ref o) 13 1).bind fun x32 => (eI ph x32 5).bind fun x36 => if ¬ (x36 : Int32) = i1 then RS (ZZ L xs) (d + 1) mX13_mayor 52 [some (.ref o), some (.int i1), some (.int i2), some (.int i3)] [.int ((-2))] ph else (fR ph (.ref o) 13 1).bind fun x42 => (eI ph x42 4).bind fun x46 => RS (ZZ L xs) (d + 1) mX13_mayor 52 [some (.ref o), some (.int i1), some (.int i2), some (.int i3)] [.int x46] ph := by
  refine Eq.trans (q_iload_n dX13_mayor_19 (mk0 rfl) rfl) ?_
  refine Eq.trans (q_bipush (v := 100) dX13_mayor_20 (mk0 rfl) rfl) ?_
  refine Eq.trans (q_icmp_ge (t := 64) dX13_mayor_22 (mk0 rfl) rfl) (ite_cg ?_ ?_)
  · rfl
  · refine Eq.trans (q_iload_n dX13_mayor_25 (mk0 rfl) rfl) ?_
    refine Eq.trans (q_bipush (v := (-2)) dX13_mayor_26 (mk0 rfl) rfl) ?_
    refine Eq.trans (q_icmp_ne (t := 64) dX13_mayor_28 (mk0 rfl) rfl) (ite_cg ?_ ?_)
    · rfl
    · refine Eq.trans (q_aload_n dX13_mayor_31 (mk0 rfl) rfl rfl) ?_
      refine Eq.trans (q_getR (ci := 13) (k := 1) dX13_mayor_32 (mk0 rfl) rfl) (bind_cg2 fun x32 hx32 => ?_)
      have hx32 := fR_isR hx32
      refine Eq.trans (q_iconst (v := 5) dX13_mayor_35 (mk0 rfl) rfl) ?_
      refine Eq.trans (q_iaload dX13_mayor_36 (mk0 rfl) (no_ext hx32)) (bind_cg fun x36 => ?_)
      refine Eq.trans (q_iload_n dX13_mayor_37 (mk0 rfl) rfl) ?_
      refine Eq.trans (q_icmp_ne (t := 50) dX13_mayor_38 (mk0 rfl) rfl) (ite_cg ?_ ?_)
      · refine Eq.trans (q_bipush (v := (-2)) dX13_mayor_50 (mk0 rfl) rfl) ?_
        rfl
      · refine Eq.trans (q_aload_n dX13_mayor_41 (mk0 rfl) rfl rfl) ?_
        refine Eq.trans (q_getR (ci := 13) (k := 1) dX13_mayor_42 (mk0 rfl) rfl) (bind_cg2 fun x42 hx42 => ?_)
        have hx42 := fR_isR hx42
        refine Eq.trans (q_iconst (v := 4) dX13_mayor_45 (mk0 rfl) rfl) ?_
        refine Eq.trans (q_iaload dX13_mayor_46 (mk0 rfl) (no_ext hx42)) (bind_cg fun x46 => ?_)
        refine Eq.trans (q_goto (t := 52) dX13_mayor_47 (mk0 rfl) rfl) ?_
        rfl
set_option maxRecDepth 20000 in
theorem bX13_mayor_52 {L : Nat} {xs : Nat → Int32} (d : Nat) (o : Nat) (i1 : Int32) (u2 : Option Value) (i3 : Int32) (t0 : Int32) (ph : PH) : RS (ZZ L xs) (d + 1) mX13_mayor 52 [some (.ref o), some (.int i1), u2, some (.int i3)] [.int t0] ph = (iO ph (.ref o) 13).bind fun b54 => (cI (ZZ L xs) d mX13_goes [.ref b54] ph).bind fun p54 => RS (ZZ L xs) (d + 1) mX13_mayor 19 [some (.ref o), some (.int i1), some (.int t0), some (.int (i3 + 1))] [] p54.1 := by
  refine Eq.trans (q_istore_n (lv2 := [some (.ref o), some (.int i1), some (.int t0), some (.int i3)]) dX13_mayor_52 (show mK mX13_mayor 52 [some (.ref o), some (.int i1), u2, some (.int i3)] = [some (.ref o), some (.int i1), none, some (.int i3)] from rfl) (Nat.le_of_ble_eq_true rfl) rfl) ?_
  refine Eq.trans (q_aload_n dX13_mayor_53 (mk0 rfl) rfl rfl) ?_
  refine Eq.trans (q_callV (as := []) dX13_mayor_54 (mk0 rfl) rfl rfl rfl (Nat.le_of_ble_eq_true rfl) (Nat.le_of_ble_eq_true rfl)) (bind_cg fun b54 => ?_)
  refine Eq.trans (cI_bind (Or.inl rfl)) (bind_cg fun p54 => ?_)
  show RS (ZZ L xs) (d + 1) mX13_mayor 57 [some (.ref o), some (.int i1), some (.int t0), some (.int i3)] [.int p54.2] p54.1 = _
  refine Eq.trans (q_pop dX13_mayor_57 (mk0 rfl) rfl) ?_
  refine Eq.trans (q_iinc (v := 1) (lv2 := [some (.ref o), some (.int i1), some (.int t0), some (.int (i3 + 1))]) dX13_mayor_58 (mk0 rfl) rfl rfl rfl) ?_
  refine Eq.trans (q_goto (t := 19) dX13_mayor_61 (mk0 rfl) rfl) ?_
  rfl
set_option maxRecDepth 20000 in
theorem bX13_mayor_64 {L : Nat} {xs : Nat → Int32} (d : Nat) (o : Nat) (u1 : Option Value) (i2 : Int32) (u3 : Option Value) (ph : PH) : RS (ZZ L xs) (d + 1) mX13_mayor 64 [some (.ref o), u1, some (.int i2), u3] [] ph = (iO ph (.ref o) 13).bind fun b65 => (cV (ZZ L xs) d mX13_laysBack [.ref b65] ph).bind fun p65 => some (p65, some (.int i2)) := by
  refine Eq.trans (q_aload_n dX13_mayor_64 (show mK mX13_mayor 64 [some (.ref o), u1, some (.int i2), u3] = [some (.ref o), none, some (.int i2), none] from rfl) rfl rfl) ?_
  refine Eq.trans (q_callV (as := []) dX13_mayor_65 (mk0 rfl) rfl rfl rfl (Nat.le_of_ble_eq_true rfl) (Nat.le_of_ble_eq_true rfl)) (bind_cg fun b65 => ?_)
  refine Eq.trans (cV_bind rfl) (bind_cg fun p65 => ?_)
  show RS (ZZ L xs) (d + 1) mX13_mayor 68 [some (.ref o), none, some (.int i2), none] [] p65 = _
  refine Eq.trans (q_iload_n dX13_mayor_68 (mk0 rfl) rfl) ?_
  exact q_ireturn dX13_mayor_69 (mk0 rfl) rfl
set_option maxRecDepth 20000 in
theorem bX13_askedIn_0 {L : Nat} {xs : Nat → Int32} (d : Nat) (o : Nat) (i1 : Int32) (i2 : Int32) (ph : PH) : RS (ZZ L xs) (d + 1) mX13_askedIn 0 [some (.ref o), some (.int i1), some (.int i2), none, none] [] ph = (fR ph (.ref o) 13 5).bind fun x1 => (eI ph x1 i1).bind fun x5 => (iO ph (.ref o) 13).bind fun b9 => (cV (ZZ L xs) d mX13_goFor [.ref b9, .int i2] ph).bind fun p9 => (fR p9 (.ref o) 13 5).bind fun x13 => (eI p9 x13 i1).bind fun x17 => (iO p9 (.ref o) 13).bind fun b23 => (cV (ZZ L xs) d mX13_laysBack [.ref b23] p9).bind fun p23 => some (p23, some (.int (x17 - x5))) := by
  refine Eq.trans (q_aload_n dX13_askedIn_0 (mk0 rfl) rfl rfl) ?_
  refine Eq.trans (q_getR (ci := 13) (k := 5) dX13_askedIn_1 (mk0 rfl) rfl) (bind_cg2 fun x1 hx1 => ?_)
  have hx1 := fR_isR hx1
  refine Eq.trans (q_iload_n dX13_askedIn_4 (mk0 rfl) rfl) ?_
  refine Eq.trans (q_iaload dX13_askedIn_5 (mk0 rfl) (no_ext hx1)) (bind_cg fun x5 => ?_)
  refine Eq.trans (q_istore_n (lv2 := [some (.ref o), some (.int i1), some (.int i2), some (.int x5), none]) dX13_askedIn_6 (mk0 rfl) (Nat.le_of_ble_eq_true rfl) rfl) ?_
  refine Eq.trans (q_aload_n dX13_askedIn_7 (mk0 rfl) rfl rfl) ?_
  refine Eq.trans (q_iload_n dX13_askedIn_8 (mk0 rfl) rfl) ?_
  refine Eq.trans (q_callV (as := [.int i2]) dX13_askedIn_9 (mk0 rfl) rfl rfl rfl (Nat.le_of_ble_eq_true rfl) (Nat.le_of_ble_eq_true rfl)) (bind_cg fun b9 => ?_)
  refine Eq.trans (cV_bind rfl) (bind_cg fun p9 => ?_)
  show RS (ZZ L xs) (d + 1) mX13_askedIn 12 [some (.ref o), some (.int i1), some (.int i2), some (.int x5), none] [] p9 = _
  refine Eq.trans (q_aload_n dX13_askedIn_12 (mk0 rfl) rfl rfl) ?_
  refine Eq.trans (q_getR (ci := 13) (k := 5) dX13_askedIn_13 (mk0 rfl) rfl) (bind_cg2 fun x13 hx13 => ?_)
  have hx13 := fR_isR hx13
  refine Eq.trans (q_iload_n dX13_askedIn_16 (mk0 rfl) rfl) ?_
  refine Eq.trans (q_iaload dX13_askedIn_17 (mk0 rfl) (no_ext hx13)) (bind_cg fun x17 => ?_)
  refine Eq.trans (q_iload_n dX13_askedIn_18 (mk0 rfl) rfl) ?_
  refine Eq.trans (q_isub dX13_askedIn_19 (mk0 rfl)) ?_
  refine Eq.trans (q_istore (lv2 := [some (.ref o), some (.int i1), some (.int i2), some (.int x5), some (.int (x17 - x5))]) dX13_askedIn_20 (mk0 rfl) (Nat.le_of_ble_eq_true rfl) rfl) ?_
  refine Eq.trans (q_aload_n dX13_askedIn_22 (mk0 rfl) rfl rfl) ?_
  refine Eq.trans (q_callV (as := []) dX13_askedIn_23 (mk0 rfl) rfl rfl rfl (Nat.le_of_ble_eq_true rfl) (Nat.le_of_ble_eq_true rfl)) (bind_cg fun b23 => ?_)
  refine Eq.trans (cV_bind rfl) (bind_cg fun p23 => ?_)
  show RS (ZZ L xs) (d + 1) mX13_askedIn 26 [some (.ref o), some (.int i1), some (.int i2), some (.int x5), some (.int (x17 - x5))] [] p23 = _
  refine Eq.trans (q_iload dX13_askedIn_26 (mk0 rfl) rfl) ?_
  exact q_ireturn dX13_askedIn_28 (mk0 rfl) rfl
set_option maxRecDepth 20000 in
theorem bX13_pitch_0 {L : Nat} {xs : Nat → Int32} (d : Nat) (o : Nat) (i1 : Int32) (i2 : Int32) (i3 : Int32) (ph : PH) : RS (ZZ L xs) (d + 1) mX13_pitch 0 [some (.ref o), some (.int i1), some (.int i2), some (.int i3), none, none, none, none] [] ph = (iO ph (.ref o) 13).bind fun b2 => (cI (ZZ L xs) d mX13_isPerson [.ref b2, .int i1] ph).bind fun p2 => if (p2.2 : Int32) = 0 then RS (ZZ L xs) (d + 1) mX13_pitch 30 [some (.ref o), some (.int i1), some (.int i2), some (.int i3), none, none, none, none] [] p2.1 else (cI (ZZ L xs) d mX13_in [.long ((i2 : Int32).toInt64), .long 1, .long 60] p2.1).bind fun p14 => if (p14.2 : Int32) = 0 then RS (ZZ L xs) (d + 1) mX13_pitch 30 [some (.ref o), some (.int i1), some (.int i2), some (.int i3), none, none, none, none] [] p14.1 else (cI (ZZ L xs) d mX13_in [.long ((i3 : Int32).toInt64), .long 0, .long 1] p14.1).bind fun p24 => if ¬ (p24.2 : Int32) = 0 then (iO p24.1 (.ref o) 13).bind fun b39 => (cV (ZZ L xs) d mX13_keepsAll [.ref b39] p24.1).bind fun p39 => RS (ZZ L xs) (d + 1) mX13_pitch 45 [some (.ref o), some (.int i1), some (.int i2), some (.int i3), some (.int ((-1))), some (.int ((-1))), some (.int 0), none] [] p39 else RS (ZZ L xs) (d + 1) mX13_pitch 30 [some (.ref o), some (.int i1), some (.int i2), some (.int i3), none, none, none, none] [] p24.1 := by
  refine Eq.trans (q_aload_n dX13_pitch_0 (mk0 rfl) rfl rfl) ?_
  refine Eq.trans (q_iload_n dX13_pitch_1 (mk0 rfl) rfl) ?_
  refine Eq.trans (q_callV (as := [.int i1]) dX13_pitch_2 (mk0 rfl) rfl rfl rfl (Nat.le_of_ble_eq_true rfl) (Nat.le_of_ble_eq_true rfl)) (bind_cg fun b2 => ?_)
  refine Eq.trans (cI_bind (Or.inr rfl)) (bind_cg fun p2 => ?_)
  show RS (ZZ L xs) (d + 1) mX13_pitch 5 [some (.ref o), some (.int i1), some (.int i2), some (.int i3), none, none, none, none] [.int p2.2] p2.1 = _
  refine Eq.trans (q_if_eq (t := 30) dX13_pitch_5 (mk0 rfl) rfl) (ite_cg ?_ ?_)
  · rfl
  · refine Eq.trans (q_iload_n dX13_pitch_8 (mk0 rfl) rfl) ?_
    refine Eq.trans (q_i2l dX13_pitch_9 (mk0 rfl)) ?_
    refine Eq.trans (q_lconst (v := 1) dX13_pitch_10 (mk0 rfl) rfl) ?_
    refine Eq.trans (q_ldc2 (v := 60) dX13_pitch_11 (mk0 rfl) rfl) ?_
    refine Eq.trans (q_callS (as := [.long ((i2 : Int32).toInt64), .long 1, .long 60]) dX13_pitch_14 (mk0 rfl) rfl (Or.inl rfl) rfl rfl (Nat.le_of_ble_eq_true rfl) (Nat.le_of_ble_eq_true rfl)) ?_
    refine Eq.trans (cI_bind (Or.inr rfl)) (bind_cg fun p14 => ?_)
    show RS (ZZ L xs) (d + 1) mX13_pitch 17 [some (.ref o), some (.int i1), some (.int i2), some (.int i3), none, none, none, none] [.int p14.2] p14.1 = _
    refine Eq.trans (q_if_eq (t := 30) dX13_pitch_17 (mk0 rfl) rfl) (ite_cg ?_ ?_)
    · rfl
    · refine Eq.trans (q_iload_n dX13_pitch_20 (mk0 rfl) rfl) ?_
      refine Eq.trans (q_i2l dX13_pitch_21 (mk0 rfl)) ?_
      refine Eq.trans (q_lconst (v := 0) dX13_pitch_22 (mk0 rfl) rfl) ?_
      refine Eq.trans (q_lconst (v := 1) dX13_pitch_23 (mk0 rfl) rfl) ?_
      refine Eq.trans (q_callS (as := [.long ((i3 : Int32).toInt64), .long 0, .long 1]) dX13_pitch_24 (mk0 rfl) rfl (Or.inl rfl) rfl rfl (Nat.le_of_ble_eq_true rfl) (Nat.le_of_ble_eq_true rfl)) ?_
      refine Eq.trans (cI_bind (Or.inr rfl)) (bind_cg fun p24 => ?_)
      show RS (ZZ L xs) (d + 1) mX13_pitch 27 [some (.ref o), some (.int i1), some (.int i2), some (.int i3), none, none, none, none] [.int p24.2] p24.1 = _
      refine Eq.trans (q_if_ne (t := 32) dX13_pitch_27 (mk0 rfl) rfl) (ite_cg ?_ ?_)
      · refine Eq.trans (q_iconst (v := (-1)) dX13_pitch_32 (mk0 rfl) rfl) ?_
        refine Eq.trans (q_istore (lv2 := [some (.ref o), some (.int i1), some (.int i2), some (.int i3), some (.int ((-1))), none, none, none]) dX13_pitch_33 (mk0 rfl) (Nat.le_of_ble_eq_true rfl) rfl) ?_
        refine Eq.trans (q_iconst (v := (-1)) dX13_pitch_35 (mk0 rfl) rfl) ?_
        refine Eq.trans (q_istore (lv2 := [some (.ref o), some (.int i1), some (.int i2), some (.int i3), some (.int ((-1))), some (.int ((-1))), none, none]) dX13_pitch_36 (mk0 rfl) (Nat.le_of_ble_eq_true rfl) rfl) ?_
        refine Eq.trans (q_aload_n dX13_pitch_38 (mk0 rfl) rfl rfl) ?_
        refine Eq.trans (q_callV (as := []) dX13_pitch_39 (mk0 rfl) rfl rfl rfl (Nat.le_of_ble_eq_true rfl) (Nat.le_of_ble_eq_true rfl)) (bind_cg fun b39 => ?_)
        refine Eq.trans (cV_bind rfl) (bind_cg fun p39 => ?_)
        show RS (ZZ L xs) (d + 1) mX13_pitch 42 [some (.ref o), some (.int i1), some (.int i2), some (.int i3), some (.int ((-1))), some (.int ((-1))), none, none] [] p39 = _
        refine Eq.trans (q_iconst (v := 0) dX13_pitch_42 (mk0 rfl) rfl) ?_
        refine Eq.trans (q_istore (lv2 := [some (.ref o), some (.int i1), some (.int i2), some (.int i3), some (.int ((-1))), some (.int ((-1))), some (.int 0), none]) dX13_pitch_43 (mk0 rfl) (Nat.le_of_ble_eq_true rfl) rfl) ?_
        rfl
      · rfl
set_option maxRecDepth 20000 in
theorem bX13_pitch_30 {L : Nat} {xs : Nat → Int32} (d : Nat) (u0 : Option Value) (u1 : Option Value) (u2 : Option Value) (u3 : Option Value) (u4 : Option Value) (u5 : Option Value) (u6 : Option Value) (u7 : Option Value) (ph : PH) : RS (ZZ L xs) (d + 1) mX13_pitch 30 [u0, u1, u2, u3, u4, u5, u6, u7] [] ph = some (ph, some (.int ((-1)))) := by
  refine Eq.trans (q_iconst (v := (-1)) dX13_pitch_30 (show mK mX13_pitch 30 [u0, u1, u2, u3, u4, u5, u6, u7] = [none, none, none, none, none, none, none, none] from rfl) rfl) ?_
  exact q_ireturn dX13_pitch_31 (mk0 rfl) rfl
set_option maxRecDepth 20000 in
theorem bX13_pitch_45 {L : Nat} {xs : Nat → Int32} (d : Nat) (o : Nat) (i1 : Int32) (i2 : Int32) (i3 : Int32) (i4 : Int32) (i5 : Int32) (i6 : Int32) (u7 : Option Value) (ph : PH) : RS (ZZ L xs) (d + 1) mX13_pitch 45 [some (.ref o), some (.int i1), some (.int i2), some (.int i3), some (.int i4), some (.int i5), some (.int i6), u7] [] ph = (fR ph (.ref o) 13 1).bind fun x48 => (eI ph x48 0).bind fun x52 => if (x52 : Int32) ≤ i6 then if ¬ (i3 : Int32) = 0 then RS (ZZ L xs) (d + 1) mX13_pitch 104 [some (.ref o), some (.int i1), some (.int i2), some (.int i3), some (.int i4), some (.int i5), some (.int i6), none] [.int i5] ph else RS (ZZ L xs) (d + 1) mX13_pitch 104 [some (.ref o), some (.int i1), some (.int i2), some (.int i3), some (.int i4), some (.int i5), some (.int i6), none] [.int i4] ph else (fR ph (.ref o) 13 2).bind fun x57 => (wI ph x57 i1 i6).bind fun h63 => (iO h63 (.ref o) 13).bind fun b67 => (cI (ZZ L xs) d mX13_askedIn [.ref b67, .int i1, .int i2] h63).bind fun p67 => if (p67.2 : Int32) ≤ i5 then RS (ZZ L xs) (d + 1) mX13_pitch 87 [some (.ref o), some (.int i1), some (.int i2), some (.int i3), some (.int i4), some (.int i5), some (.int i6), some (.int p67.2)] [] p67.1 else RS (ZZ L xs) (d + 1) mX13_pitch 87 [some (.ref o), some (.int i1), some (.int i2), some (.int i3), some (.int i6), some (.int p67.2), some (.int i6), some (.int p67.2)] [] p67.1 := by
  refine Eq.trans (q_iload dX13_pitch_45 (show mK mX13_pitch 45 [some (.ref o), some (.int i1), some (.int i2), some (.int i3), some (.int i4), some (.int i5), some (.int i6), u7] = [some (.ref o), some (.int i1), some (.int i2), some (.int i3), some (.int i4), some (.int i5), some (.int i6), none] from rfl) rfl) ?_
  refine Eq.trans (q_aload_n dX13_pitch_47 (mk0 rfl) rfl rfl) ?_
  refine Eq.trans (q_getR (ci := 13) (k := 1) dX13_pitch_48 (mk0 rfl) rfl) (bind_cg2 fun x48 hx48 => ?_)
  have hx48 := fR_isR hx48
  refine Eq.trans (q_iconst (v := 0) dX13_pitch_51 (mk0 rfl) rfl) ?_
  refine Eq.trans (q_iaload dX13_pitch_52 (mk0 rfl) (no_ext hx48)) (bind_cg fun x52 => ?_)
  refine Eq.trans (q_icmp_ge (t := 93) dX13_pitch_53 (mk0 rfl) rfl) (ite_cg ?_ ?_)
  · refine Eq.trans (q_iload_n dX13_pitch_93 (mk0 rfl) rfl) ?_
    refine Eq.trans (q_if_ne (t := 102) dX13_pitch_94 (mk0 rfl) rfl) (ite_cg ?_ ?_)
    · refine Eq.trans (q_iload dX13_pitch_102 (mk0 rfl) rfl) ?_
      rfl
    · refine Eq.trans (q_iload dX13_pitch_97 (mk0 rfl) rfl) ?_
      refine Eq.trans (q_goto (t := 104) dX13_pitch_99 (mk0 rfl) rfl) ?_
      rfl
  · refine Eq.trans (q_aload_n dX13_pitch_56 (mk0 rfl) rfl rfl) ?_
    refine Eq.trans (q_getR (ci := 13) (k := 2) dX13_pitch_57 (mk0 rfl) rfl) (bind_cg2 fun x57 hx57 => ?_)
    have hx57 := fR_isR hx57
    refine Eq.trans (q_iload_n dX13_pitch_60 (mk0 rfl) rfl) ?_
    refine Eq.trans (q_iload dX13_pitch_61 (mk0 rfl) rfl) ?_
    refine Eq.trans (q_iastore dX13_pitch_63 (mk0 rfl)) (bind_cg fun h63 => ?_)
    refine Eq.trans (q_aload_n dX13_pitch_64 (mk0 rfl) rfl rfl) ?_
    refine Eq.trans (q_iload_n dX13_pitch_65 (mk0 rfl) rfl) ?_
    refine Eq.trans (q_iload_n dX13_pitch_66 (mk0 rfl) rfl) ?_
    refine Eq.trans (q_callV (as := [.int i1, .int i2]) dX13_pitch_67 (mk0 rfl) rfl rfl rfl (Nat.le_of_ble_eq_true rfl) (Nat.le_of_ble_eq_true rfl)) (bind_cg fun b67 => ?_)
    refine Eq.trans (cI_bind (Or.inl rfl)) (bind_cg fun p67 => ?_)
    show RS (ZZ L xs) (d + 1) mX13_pitch 70 [some (.ref o), some (.int i1), some (.int i2), some (.int i3), some (.int i4), some (.int i5), some (.int i6), none] [.int p67.2] p67.1 = _
    refine Eq.trans (q_istore (lv2 := [some (.ref o), some (.int i1), some (.int i2), some (.int i3), some (.int i4), some (.int i5), some (.int i6), some (.int p67.2)]) dX13_pitch_70 (mk0 rfl) (Nat.le_of_ble_eq_true rfl) rfl) ?_
    refine Eq.trans (q_iload dX13_pitch_72 (mk0 rfl) rfl) ?_
    refine Eq.trans (q_iload dX13_pitch_74 (mk0 rfl) rfl) ?_
    refine Eq.trans (q_icmp_le (t := 87) dX13_pitch_76 (mk0 rfl) rfl) (ite_cg ?_ ?_)
    · rfl
    · refine Eq.trans (q_iload dX13_pitch_79 (mk0 rfl) rfl) ?_
      refine Eq.trans (q_istore (lv2 := [some (.ref o), some (.int i1), some (.int i2), some (.int i3), some (.int i6), some (.int i5), some (.int i6), some (.int p67.2)]) dX13_pitch_81 (mk0 rfl) (Nat.le_of_ble_eq_true rfl) rfl) ?_
      refine Eq.trans (q_iload dX13_pitch_83 (mk0 rfl) rfl) ?_
      refine Eq.trans (q_istore (lv2 := [some (.ref o), some (.int i1), some (.int i2), some (.int i3), some (.int i6), some (.int p67.2), some (.int i6), some (.int p67.2)]) dX13_pitch_85 (mk0 rfl) (Nat.le_of_ble_eq_true rfl) rfl) ?_
      rfl
set_option maxRecDepth 20000 in
theorem bX13_pitch_87 {L : Nat} {xs : Nat → Int32} (d : Nat) (o : Nat) (i1 : Int32) (i2 : Int32) (i3 : Int32) (i4 : Int32) (i5 : Int32) (i6 : Int32) (u7 : Option Value) (ph : PH) : RS (ZZ L xs) (d + 1) mX13_pitch 87 [some (.ref o), some (.int i1), some (.int i2), some (.int i3), some (.int i4), some (.int i5), some (.int i6), u7] [] ph = RS (ZZ L xs) (d + 1) mX13_pitch 45 [some (.ref o), some (.int i1), some (.int i2), some (.int i3), some (.int i4), some (.int i5), some (.int (i6 + 1)), none] [] ph := by
  refine Eq.trans (q_iinc (v := 1) (lv2 := [some (.ref o), some (.int i1), some (.int i2), some (.int i3), some (.int i4), some (.int i5), some (.int (i6 + 1)), none]) dX13_pitch_87 (show mK mX13_pitch 87 [some (.ref o), some (.int i1), some (.int i2), some (.int i3), some (.int i4), some (.int i5), some (.int i6), u7] = [some (.ref o), some (.int i1), some (.int i2), some (.int i3), some (.int i4), some (.int i5), some (.int i6), none] from rfl) rfl rfl rfl) ?_
  refine Eq.trans (q_goto (t := 45) dX13_pitch_90 (mk0 rfl) rfl) ?_
  rfl
set_option maxRecDepth 20000 in
theorem bX13_pitch_104 {L : Nat} {xs : Nat → Int32} (d : Nat) (u0 : Option Value) (u1 : Option Value) (u2 : Option Value) (u3 : Option Value) (u4 : Option Value) (u5 : Option Value) (u6 : Option Value) (u7 : Option Value) (t0 : Int32) (ph : PH) : RS (ZZ L xs) (d + 1) mX13_pitch 104 [u0, u1, u2, u3, u4, u5, u6, u7] [.int t0] ph = some (ph, some (.int t0)) := by
  exact q_ireturn dX13_pitch_104 (show mK mX13_pitch 104 [u0, u1, u2, u3, u4, u5, u6, u7] = [none, none, none, none, none, none, none, none] from rfl) rfl
set_option maxRecDepth 20000 in
theorem bX13_smile_0 {L : Nat} {xs : Nat → Int32} (d : Nat) (o : Nat) (i1 : Int32) (i2 : Int32) (ph : PH) : RS (ZZ L xs) (d + 1) mX13_smile 0 [some (.ref o), some (.int i1), some (.int i2), none, none] [] ph = (iO ph (.ref o) 13).bind fun b2 => (cI (ZZ L xs) d mX13_isPerson [.ref b2, .int i1] ph).bind fun p2 => if (p2.2 : Int32) = 0 then RS (ZZ L xs) (d + 1) mX13_smile 20 [some (.ref o), some (.int i1), some (.int i2), none, none] [] p2.1 else (cI (ZZ L xs) d mX13_in [.long ((i2 : Int32).toInt64), .long 1, .long 60] p2.1).bind fun p14 => if ¬ (p14.2 : Int32) = 0 then (iO p14.1 (.ref o) 13).bind fun b26 => (cV (ZZ L xs) d mX13_keepsAll [.ref b26] p14.1).bind fun p26 => RS (ZZ L xs) (d + 1) mX13_smile 32 [some (.ref o), some (.int i1), some (.int i2), some (.int ((-2))), some (.int 0)] [] p26 else RS (ZZ L xs) (d + 1) mX13_smile 20 [some (.ref o), some (.int i1), some (.int i2), none, none] [] p14.1 := by
  refine Eq.trans (q_aload_n dX13_smile_0 (mk0 rfl) rfl rfl) ?_
  refine Eq.trans (q_iload_n dX13_smile_1 (mk0 rfl) rfl) ?_
  refine Eq.trans (q_callV (as := [.int i1]) dX13_smile_2 (mk0 rfl) rfl rfl rfl (Nat.le_of_ble_eq_true rfl) (Nat.le_of_ble_eq_true rfl)) (bind_cg fun b2 => ?_)
  refine Eq.trans (cI_bind (Or.inr rfl)) (bind_cg fun p2 => ?_)
  show RS (ZZ L xs) (d + 1) mX13_smile 5 [some (.ref o), some (.int i1), some (.int i2), none, none] [.int p2.2] p2.1 = _
  refine Eq.trans (q_if_eq (t := 20) dX13_smile_5 (mk0 rfl) rfl) (ite_cg ?_ ?_)
  · rfl
  · refine Eq.trans (q_iload_n dX13_smile_8 (mk0 rfl) rfl) ?_
    refine Eq.trans (q_i2l dX13_smile_9 (mk0 rfl)) ?_
    refine Eq.trans (q_lconst (v := 1) dX13_smile_10 (mk0 rfl) rfl) ?_
    refine Eq.trans (q_ldc2 (v := 60) dX13_smile_11 (mk0 rfl) rfl) ?_
    refine Eq.trans (q_callS (as := [.long ((i2 : Int32).toInt64), .long 1, .long 60]) dX13_smile_14 (mk0 rfl) rfl (Or.inl rfl) rfl rfl (Nat.le_of_ble_eq_true rfl) (Nat.le_of_ble_eq_true rfl)) ?_
    refine Eq.trans (cI_bind (Or.inr rfl)) (bind_cg fun p14 => ?_)
    show RS (ZZ L xs) (d + 1) mX13_smile 17 [some (.ref o), some (.int i1), some (.int i2), none, none] [.int p14.2] p14.1 = _
    refine Eq.trans (q_if_ne (t := 22) dX13_smile_17 (mk0 rfl) rfl) (ite_cg ?_ ?_)
    · refine Eq.trans (q_bipush (v := (-2)) dX13_smile_22 (mk0 rfl) rfl) ?_
      refine Eq.trans (q_istore_n (lv2 := [some (.ref o), some (.int i1), some (.int i2), some (.int ((-2))), none]) dX13_smile_24 (mk0 rfl) (Nat.le_of_ble_eq_true rfl) rfl) ?_
      refine Eq.trans (q_aload_n dX13_smile_25 (mk0 rfl) rfl rfl) ?_
      refine Eq.trans (q_callV (as := []) dX13_smile_26 (mk0 rfl) rfl rfl rfl (Nat.le_of_ble_eq_true rfl) (Nat.le_of_ble_eq_true rfl)) (bind_cg fun b26 => ?_)
      refine Eq.trans (cV_bind rfl) (bind_cg fun p26 => ?_)
      show RS (ZZ L xs) (d + 1) mX13_smile 29 [some (.ref o), some (.int i1), some (.int i2), some (.int ((-2))), none] [] p26 = _
      refine Eq.trans (q_iconst (v := 0) dX13_smile_29 (mk0 rfl) rfl) ?_
      refine Eq.trans (q_istore (lv2 := [some (.ref o), some (.int i1), some (.int i2), some (.int ((-2))), some (.int 0)]) dX13_smile_30 (mk0 rfl) (Nat.le_of_ble_eq_true rfl) rfl) ?_
      rfl
    · rfl
set_option maxRecDepth 20000 in
theorem bX13_smile_20 {L : Nat} {xs : Nat → Int32} (d : Nat) (u0 : Option Value) (u1 : Option Value) (u2 : Option Value) (u3 : Option Value) (u4 : Option Value) (ph : PH) : RS (ZZ L xs) (d + 1) mX13_smile 20 [u0, u1, u2, u3, u4] [] ph = some (ph, some (.int ((-1)))) := by
  refine Eq.trans (q_iconst (v := (-1)) dX13_smile_20 (show mK mX13_smile 20 [u0, u1, u2, u3, u4] = [none, none, none, none, none] from rfl) rfl) ?_
  exact q_ireturn dX13_smile_21 (mk0 rfl) rfl
set_option maxRecDepth 20000 in
theorem bX13_smile_32 {L : Nat} {xs : Nat → Int32} (d : Nat) (o : Nat) (i1 : Int32) (i2 : Int32) (i3 : Int32) (i4 : Int32) (ph : PH) : RS (ZZ L xs) (d + 1) mX13_smile 32 [some (.ref o), some (.int i1), some (.int i2), some (.int i3), some (.int i4)] [] ph = if (9 : Int32) < i4 then RS (ZZ L xs) (d + 1) mX13_smile 86 [some (.ref o), some (.int i1), some (.int i2), some (.int i3), some (.int i4)] [] ph else if ¬ (i3 : Int32) = (-2) then RS (ZZ L xs) (d + 1) mX13_smile 86 [some (.ref o), some (.int i1), some (.int i2), some (.int i3), some (.int i4)] [] ph else (fR ph (.ref o) 13 3).bind fun x46 => (wI ph x46 i1 i4).bind fun h52 => (iO h52 (.ref o) 13).bind fun b55 => (cV (ZZ L xs) d mX13_goFor [.ref b55, .int i2] h52).bind fun p55 => (fR p55 (.ref o) 13 1).bind fun x59 => (eI p55 x59 5).bind fun x63 => if ¬ (x63 : Int32) = i1 then RS (ZZ L xs) (d + 1) mX13_smile 75 [some (.ref o), some (.int i1), some (.int i2), some (.int i3), some (.int i4)] [.int ((-2))] p55 else RS (ZZ L xs) (d + 1) mX13_smile 75 [some (.ref o), some (.int i1), some (.int i2), some (.int i3), some (.int i4)] [.int i4] p55 := by
  refine Eq.trans (q_iload dX13_smile_32 (mk0 rfl) rfl) ?_
  refine Eq.trans (q_bipush (v := 9) dX13_smile_34 (mk0 rfl) rfl) ?_
  refine Eq.trans (q_icmp_gt (t := 86) dX13_smile_36 (mk0 rfl) rfl) (ite_cg ?_ ?_)
  · rfl
  · refine Eq.trans (q_iload_n dX13_smile_39 (mk0 rfl) rfl) ?_
    refine Eq.trans (q_bipush (v := (-2)) dX13_smile_40 (mk0 rfl) rfl) ?_
    refine Eq.trans (q_icmp_ne (t := 86) dX13_smile_42 (mk0 rfl) rfl) (ite_cg ?_ ?_)
    · rfl
    · refine Eq.trans (q_aload_n dX13_smile_45 (mk0 rfl) rfl rfl) ?_
      refine Eq.trans (q_getR (ci := 13) (k := 3) dX13_smile_46 (mk0 rfl) rfl) (bind_cg2 fun x46 hx46 => ?_)
      have hx46 := fR_isR hx46
      refine Eq.trans (q_iload_n dX13_smile_49 (mk0 rfl) rfl) ?_
      refine Eq.trans (q_iload dX13_smile_50 (mk0 rfl) rfl) ?_
      refine Eq.trans (q_iastore dX13_smile_52 (mk0 rfl)) (bind_cg fun h52 => ?_)
      refine Eq.trans (q_aload_n dX13_smile_53 (mk0 rfl) rfl rfl) ?_
      refine Eq.trans (q_iload_n dX13_smile_54 (mk0 rfl) rfl) ?_
      refine Eq.trans (q_callV (as := [.int i2]) dX13_smile_55 (mk0 rfl) rfl rfl rfl (Nat.le_of_ble_eq_true rfl) (Nat.le_of_ble_eq_true rfl)) (bind_cg fun b55 => ?_)
      refine Eq.trans (cV_bind rfl) (bind_cg fun p55 => ?_)
      show RS (ZZ L xs) (d + 1) mX13_smile 58 [some (.ref o), some (.int i1), some (.int i2), some (.int i3), some (.int i4)] [] p55 = _
      refine Eq.trans (q_aload_n dX13_smile_58 (mk0 rfl) rfl rfl) ?_
      refine Eq.trans (q_getR (ci := 13) (k := 1) dX13_smile_59 (mk0 rfl) rfl) (bind_cg2 fun x59 hx59 => ?_)
      have hx59 := fR_isR hx59
      refine Eq.trans (q_iconst (v := 5) dX13_smile_62 (mk0 rfl) rfl) ?_
      refine Eq.trans (q_iaload dX13_smile_63 (mk0 rfl) (no_ext hx59)) (bind_cg fun x63 => ?_)
      refine Eq.trans (q_iload_n dX13_smile_64 (mk0 rfl) rfl) ?_
      refine Eq.trans (q_icmp_ne (t := 73) dX13_smile_65 (mk0 rfl) rfl) (ite_cg ?_ ?_)
      · refine Eq.trans (q_bipush (v := (-2)) dX13_smile_73 (mk0 rfl) rfl) ?_
        rfl
      · refine Eq.trans (q_iload dX13_smile_68 (mk0 rfl) rfl) ?_
        refine Eq.trans (q_goto (t := 75) dX13_smile_70 (mk0 rfl) rfl) ?_
        rfl
set_option maxRecDepth 20000 in
theorem bX13_smile_75 {L : Nat} {xs : Nat → Int32} (d : Nat) (o : Nat) (i1 : Int32) (i2 : Int32) (u3 : Option Value) (i4 : Int32) (t0 : Int32) (ph : PH) : RS (ZZ L xs) (d + 1) mX13_smile 75 [some (.ref o), some (.int i1), some (.int i2), u3, some (.int i4)] [.int t0] ph = (iO ph (.ref o) 13).bind fun b77 => (cV (ZZ L xs) d mX13_laysBack [.ref b77] ph).bind fun p77 => RS (ZZ L xs) (d + 1) mX13_smile 32 [some (.ref o), some (.int i1), some (.int i2), some (.int t0), some (.int (i4 + 1))] [] p77 := by
  refine Eq.trans (q_istore_n (lv2 := [some (.ref o), some (.int i1), some (.int i2), some (.int t0), some (.int i4)]) dX13_smile_75 (show mK mX13_smile 75 [some (.ref o), some (.int i1), some (.int i2), u3, some (.int i4)] = [some (.ref o), some (.int i1), some (.int i2), none, some (.int i4)] from rfl) (Nat.le_of_ble_eq_true rfl) rfl) ?_
  refine Eq.trans (q_aload_n dX13_smile_76 (mk0 rfl) rfl rfl) ?_
  refine Eq.trans (q_callV (as := []) dX13_smile_77 (mk0 rfl) rfl rfl rfl (Nat.le_of_ble_eq_true rfl) (Nat.le_of_ble_eq_true rfl)) (bind_cg fun b77 => ?_)
  refine Eq.trans (cV_bind rfl) (bind_cg fun p77 => ?_)
  show RS (ZZ L xs) (d + 1) mX13_smile 80 [some (.ref o), some (.int i1), some (.int i2), some (.int t0), some (.int i4)] [] p77 = _
  refine Eq.trans (q_iinc (v := 1) (lv2 := [some (.ref o), some (.int i1), some (.int i2), some (.int t0), some (.int (i4 + 1))]) dX13_smile_80 (mk0 rfl) rfl rfl rfl) ?_
  refine Eq.trans (q_goto (t := 32) dX13_smile_83 (mk0 rfl) rfl) ?_
  rfl
set_option maxRecDepth 20000 in
theorem bX13_smile_86 {L : Nat} {xs : Nat → Int32} (d : Nat) (u0 : Option Value) (u1 : Option Value) (u2 : Option Value) (i3 : Int32) (u4 : Option Value) (ph : PH) : RS (ZZ L xs) (d + 1) mX13_smile 86 [u0, u1, u2, some (.int i3), u4] [] ph = some (ph, some (.int i3)) := by
  refine Eq.trans (q_iload_n dX13_smile_86 (show mK mX13_smile 86 [u0, u1, u2, some (.int i3), u4] = [none, none, none, some (.int i3), none] from rfl) rfl) ?_
  exact q_ireturn dX13_smile_87 (mk0 rfl) rfl
set_option maxRecDepth 20000 in
theorem bX13_way_0 {L : Nat} {xs : Nat → Int32} (d : Nat) (o : Nat) (i1 : Int32) (i2 : Int32) (i3 : Int32) (ph : PH) : RS (ZZ L xs) (d + 1) mX13_way 0 [some (.ref o), some (.int i1), some (.int i2), some (.int i3), none] [] ph = (iO ph (.ref o) 13).bind fun b2 => (cI (ZZ L xs) d mX13_isPlace [.ref b2, .int i1] ph).bind fun p2 => if (p2.2 : Int32) = 0 then RS (ZZ L xs) (d + 1) mX13_way 26 [some (.ref o), some (.int i1), some (.int i2), some (.int i3), none] [] p2.1 else (iO p2.1 (.ref o) 13).bind fun b10 => (cI (ZZ L xs) d mX13_isPlace [.ref b10, .int i2] p2.1).bind fun p10 => if (p10.2 : Int32) = 0 then RS (ZZ L xs) (d + 1) mX13_way 26 [some (.ref o), some (.int i1), some (.int i2), some (.int i3), none] [] p10.1 else (cI (ZZ L xs) d mX13_in [.long ((i3 : Int32).toInt64), .long 0, .long 1] p10.1).bind fun p20 => if ¬ (p20.2 : Int32) = 0 then (iO p20.1 (.ref o) 13).bind fun b31 => (cI (ZZ L xs) d mX13_farFrom [.ref b31, .int i1, .int i2] p20.1).bind fun p31 => if ¬ (p31.2 : Int32) = 99 then if ¬ (i3 : Int32) = 0 then (iO p31.1 (.ref o) 13).bind fun b60 => (cI (ZZ L xs) d mX13_firstOn [.ref b60, .int i1, .int i2] p31.1).bind fun p60 => RS (ZZ L xs) (d + 1) mX13_way 63 [some (.ref o), some (.int i1), some (.int i2), some (.int i3), some (.int p31.2)] [.int p60.2] p60.1 else RS (ZZ L xs) (d + 1) mX13_way 63 [some (.ref o), some (.int i1), some (.int i2), some (.int i3), some (.int p31.2)] [.int p31.2] p31.1 else RS (ZZ L xs) (d + 1) mX13_way 63 [some (.ref o), some (.int i1), some (.int i2), some (.int i3), some (.int p31.2)] [.int ((-2))] p31.1 else RS (ZZ L xs) (d + 1) mX13_way 26 [some (.ref o), some (.int i1), some (.int i2), some (.int i3), none] [] p20.1 := by
  refine Eq.trans (q_aload_n dX13_way_0 (mk0 rfl) rfl rfl) ?_
  refine Eq.trans (q_iload_n dX13_way_1 (mk0 rfl) rfl) ?_
  refine Eq.trans (q_callV (as := [.int i1]) dX13_way_2 (mk0 rfl) rfl rfl rfl (Nat.le_of_ble_eq_true rfl) (Nat.le_of_ble_eq_true rfl)) (bind_cg fun b2 => ?_)
  refine Eq.trans (cI_bind (Or.inr rfl)) (bind_cg fun p2 => ?_)
  show RS (ZZ L xs) (d + 1) mX13_way 5 [some (.ref o), some (.int i1), some (.int i2), some (.int i3), none] [.int p2.2] p2.1 = _
  refine Eq.trans (q_if_eq (t := 26) dX13_way_5 (mk0 rfl) rfl) (ite_cg ?_ ?_)
  · rfl
  · refine Eq.trans (q_aload_n dX13_way_8 (mk0 rfl) rfl rfl) ?_
    refine Eq.trans (q_iload_n dX13_way_9 (mk0 rfl) rfl) ?_
    refine Eq.trans (q_callV (as := [.int i2]) dX13_way_10 (mk0 rfl) rfl rfl rfl (Nat.le_of_ble_eq_true rfl) (Nat.le_of_ble_eq_true rfl)) (bind_cg fun b10 => ?_)
    refine Eq.trans (cI_bind (Or.inr rfl)) (bind_cg fun p10 => ?_)
    show RS (ZZ L xs) (d + 1) mX13_way 13 [some (.ref o), some (.int i1), some (.int i2), some (.int i3), none] [.int p10.2] p10.1 = _
    refine Eq.trans (q_if_eq (t := 26) dX13_way_13 (mk0 rfl) rfl) (ite_cg ?_ ?_)
    · rfl
    · refine Eq.trans (q_iload_n dX13_way_16 (mk0 rfl) rfl) ?_
      refine Eq.trans (q_i2l dX13_way_17 (mk0 rfl)) ?_
      refine Eq.trans (q_lconst (v := 0) dX13_way_18 (mk0 rfl) rfl) ?_
      refine Eq.trans (q_lconst (v := 1) dX13_way_19 (mk0 rfl) rfl) ?_
      refine Eq.trans (q_callS (as := [.long ((i3 : Int32).toInt64), .long 0, .long 1]) dX13_way_20 (mk0 rfl) rfl (Or.inl rfl) rfl rfl (Nat.le_of_ble_eq_true rfl) (Nat.le_of_ble_eq_true rfl)) ?_
      refine Eq.trans (cI_bind (Or.inr rfl)) (bind_cg fun p20 => ?_)
      show RS (ZZ L xs) (d + 1) mX13_way 23 [some (.ref o), some (.int i1), some (.int i2), some (.int i3), none] [.int p20.2] p20.1 = _
      refine Eq.trans (q_if_ne (t := 28) dX13_way_23 (mk0 rfl) rfl) (ite_cg ?_ ?_)
      · refine Eq.trans (q_aload_n dX13_way_28 (mk0 rfl) rfl rfl) ?_
        refine Eq.trans (q_iload_n dX13_way_29 (mk0 rfl) rfl) ?_
        refine Eq.trans (q_iload_n dX13_way_30 (mk0 rfl) rfl) ?_
        refine Eq.trans (q_callV (as := [.int i1, .int i2]) dX13_way_31 (mk0 rfl) rfl rfl rfl (Nat.le_of_ble_eq_true rfl) (Nat.le_of_ble_eq_true rfl)) (bind_cg fun b31 => ?_)
        refine Eq.trans (cI_bind (Or.inl rfl)) (bind_cg fun p31 => ?_)
        show RS (ZZ L xs) (d + 1) mX13_way 34 [some (.ref o), some (.int i1), some (.int i2), some (.int i3), none] [.int p31.2] p31.1 = _
        refine Eq.trans (q_istore (lv2 := [some (.ref o), some (.int i1), some (.int i2), some (.int i3), some (.int p31.2)]) dX13_way_34 (mk0 rfl) (Nat.le_of_ble_eq_true rfl) rfl) ?_
        refine Eq.trans (q_iload dX13_way_36 (mk0 rfl) rfl) ?_
        refine Eq.trans (q_bipush (v := 99) dX13_way_38 (mk0 rfl) rfl) ?_
        refine Eq.trans (q_icmp_ne (t := 48) dX13_way_40 (mk0 rfl) rfl) (ite_cg ?_ ?_)
        · refine Eq.trans (q_iload_n dX13_way_48 (mk0 rfl) rfl) ?_
          refine Eq.trans (q_if_ne (t := 57) dX13_way_49 (mk0 rfl) rfl) (ite_cg ?_ ?_)
          · refine Eq.trans (q_aload_n dX13_way_57 (mk0 rfl) rfl rfl) ?_
            refine Eq.trans (q_iload_n dX13_way_58 (mk0 rfl) rfl) ?_
            refine Eq.trans (q_iload_n dX13_way_59 (mk0 rfl) rfl) ?_
            refine Eq.trans (q_callV (as := [.int i1, .int i2]) dX13_way_60 (mk0 rfl) rfl rfl rfl (Nat.le_of_ble_eq_true rfl) (Nat.le_of_ble_eq_true rfl)) (bind_cg fun b60 => ?_)
            refine Eq.trans (cI_bind (Or.inl rfl)) (bind_cg fun p60 => ?_)
            show RS (ZZ L xs) (d + 1) mX13_way 63 [some (.ref o), some (.int i1), some (.int i2), some (.int i3), some (.int p31.2)] [.int p60.2] p60.1 = _
            rfl
          · refine Eq.trans (q_iload dX13_way_52 (mk0 rfl) rfl) ?_
            refine Eq.trans (q_goto (t := 63) dX13_way_54 (mk0 rfl) rfl) ?_
            rfl
        · refine Eq.trans (q_bipush (v := (-2)) dX13_way_43 (mk0 rfl) rfl) ?_
          refine Eq.trans (q_goto (t := 63) dX13_way_45 (mk0 rfl) rfl) ?_
          rfl
      · rfl
set_option maxRecDepth 20000 in
theorem bX13_way_26 {L : Nat} {xs : Nat → Int32} (d : Nat) (u0 : Option Value) (u1 : Option Value) (u2 : Option Value) (u3 : Option Value) (u4 : Option Value) (ph : PH) : RS (ZZ L xs) (d + 1) mX13_way 26 [u0, u1, u2, u3, u4] [] ph = some (ph, some (.int ((-1)))) := by
  refine Eq.trans (q_iconst (v := (-1)) dX13_way_26 (show mK mX13_way 26 [u0, u1, u2, u3, u4] = [none, none, none, none, none] from rfl) rfl) ?_
  exact q_ireturn dX13_way_27 (mk0 rfl) rfl
set_option maxRecDepth 20000 in
theorem bX13_way_63 {L : Nat} {xs : Nat → Int32} (d : Nat) (u0 : Option Value) (u1 : Option Value) (u2 : Option Value) (u3 : Option Value) (u4 : Option Value) (t0 : Int32) (ph : PH) : RS (ZZ L xs) (d + 1) mX13_way 63 [u0, u1, u2, u3, u4] [.int t0] ph = some (ph, some (.int t0)) := by
  exact q_ireturn dX13_way_63 (show mK mX13_way 63 [u0, u1, u2, u3, u4] = [none, none, none, none, none] from rfl) rfl
set_option maxRecDepth 20000 in
theorem bX13_came_0 {L : Nat} {xs : Nat → Int32} (d : Nat) (o : Nat) (i1 : Int32) (i2 : Int32) (i3 : Int32) (i4 : Int32) (ph : PH) : RS (ZZ L xs) (d + 1) mX13_came 0 [some (.ref o), some (.int i1), some (.int i2), some (.int i3), some (.int i4), none, none, none, none] [] ph = (iO ph (.ref o) 13).bind fun b2 => (cI (ZZ L xs) d mX13_isStranger [.ref b2, .int i1] ph).bind fun p2 => if (p2.2 : Int32) = 0 then RS (ZZ L xs) (d + 1) mX13_came 39 [some (.ref o), some (.int i1), some (.int i2), some (.int i3), some (.int i4), none, none, none, none] [] p2.1 else (cI (ZZ L xs) d mX13_in [.long ((i2 : Int32).toInt64), .long 1, .long 30] p2.1).bind fun p14 => if (p14.2 : Int32) = 0 then RS (ZZ L xs) (d + 1) mX13_came 39 [some (.ref o), some (.int i1), some (.int i2), some (.int i3), some (.int i4), none, none, none, none] [] p14.1 else (iO p14.1 (.ref o) 13).bind fun b22 => (cI (ZZ L xs) d mX13_isPlace [.ref b22, .int i3] p14.1).bind fun p22 => if (p22.2 : Int32) = 0 then RS (ZZ L xs) (d + 1) mX13_came 39 [some (.ref o), some (.int i1), some (.int i2), some (.int i3), some (.int i4), none, none, none, none] [] p22.1 else (cI (ZZ L xs) d mX13_in [.long ((i4 : Int32).toInt64), .long 0, .long 1] p22.1).bind fun p33 => if ¬ (p33.2 : Int32) = 0 then (iO p33.1 (.ref o) 13).bind fun b49 => (cV (ZZ L xs) d mX13_keepsAll [.ref b49] p33.1).bind fun p49 => RS (ZZ L xs) (d + 1) mX13_came 55 [some (.ref o), some (.int i1), some (.int i2), some (.int i3), some (.int i4), some (.int 0), some (.int ((-2))), some (.int 0), none] [] p49 else RS (ZZ L xs) (d + 1) mX13_came 39 [some (.ref o), some (.int i1), some (.int i2), some (.int i3), some (.int i4), none, none, none, none] [] p33.1 := by
  refine Eq.trans (q_aload_n dX13_came_0 (mk0 rfl) rfl rfl) ?_
  refine Eq.trans (q_iload_n dX13_came_1 (mk0 rfl) rfl) ?_
  refine Eq.trans (q_callV (as := [.int i1]) dX13_came_2 (mk0 rfl) rfl rfl rfl (Nat.le_of_ble_eq_true rfl) (Nat.le_of_ble_eq_true rfl)) (bind_cg fun b2 => ?_)
  refine Eq.trans (cI_bind (Or.inr rfl)) (bind_cg fun p2 => ?_)
  show RS (ZZ L xs) (d + 1) mX13_came 5 [some (.ref o), some (.int i1), some (.int i2), some (.int i3), some (.int i4), none, none, none, none] [.int p2.2] p2.1 = _
  refine Eq.trans (q_if_eq (t := 39) dX13_came_5 (mk0 rfl) rfl) (ite_cg ?_ ?_)
  · rfl
  · refine Eq.trans (q_iload_n dX13_came_8 (mk0 rfl) rfl) ?_
    refine Eq.trans (q_i2l dX13_came_9 (mk0 rfl)) ?_
    refine Eq.trans (q_lconst (v := 1) dX13_came_10 (mk0 rfl) rfl) ?_
    refine Eq.trans (q_ldc2 (v := 30) dX13_came_11 (mk0 rfl) rfl) ?_
    refine Eq.trans (q_callS (as := [.long ((i2 : Int32).toInt64), .long 1, .long 30]) dX13_came_14 (mk0 rfl) rfl (Or.inl rfl) rfl rfl (Nat.le_of_ble_eq_true rfl) (Nat.le_of_ble_eq_true rfl)) ?_
    refine Eq.trans (cI_bind (Or.inr rfl)) (bind_cg fun p14 => ?_)
    show RS (ZZ L xs) (d + 1) mX13_came 17 [some (.ref o), some (.int i1), some (.int i2), some (.int i3), some (.int i4), none, none, none, none] [.int p14.2] p14.1 = _
    refine Eq.trans (q_if_eq (t := 39) dX13_came_17 (mk0 rfl) rfl) (ite_cg ?_ ?_)
    · rfl
    · refine Eq.trans (q_aload_n dX13_came_20 (mk0 rfl) rfl rfl) ?_
      refine Eq.trans (q_iload_n dX13_came_21 (mk0 rfl) rfl) ?_
      refine Eq.trans (q_callV (as := [.int i3]) dX13_came_22 (mk0 rfl) rfl rfl rfl (Nat.le_of_ble_eq_true rfl) (Nat.le_of_ble_eq_true rfl)) (bind_cg fun b22 => ?_)
      refine Eq.trans (cI_bind (Or.inr rfl)) (bind_cg fun p22 => ?_)
      show RS (ZZ L xs) (d + 1) mX13_came 25 [some (.ref o), some (.int i1), some (.int i2), some (.int i3), some (.int i4), none, none, none, none] [.int p22.2] p22.1 = _
      refine Eq.trans (q_if_eq (t := 39) dX13_came_25 (mk0 rfl) rfl) (ite_cg ?_ ?_)
      · rfl
      · refine Eq.trans (q_iload dX13_came_28 (mk0 rfl) rfl) ?_
        refine Eq.trans (q_i2l dX13_came_30 (mk0 rfl)) ?_
        refine Eq.trans (q_lconst (v := 0) dX13_came_31 (mk0 rfl) rfl) ?_
        refine Eq.trans (q_lconst (v := 1) dX13_came_32 (mk0 rfl) rfl) ?_
        refine Eq.trans (q_callS (as := [.long ((i4 : Int32).toInt64), .long 0, .long 1]) dX13_came_33 (mk0 rfl) rfl (Or.inl rfl) rfl rfl (Nat.le_of_ble_eq_true rfl) (Nat.le_of_ble_eq_true rfl)) ?_
        refine Eq.trans (cI_bind (Or.inr rfl)) (bind_cg fun p33 => ?_)
        show RS (ZZ L xs) (d + 1) mX13_came 36 [some (.ref o), some (.int i1), some (.int i2), some (.int i3), some (.int i4), none, none, none, none] [.int p33.2] p33.1 = _
        refine Eq.trans (q_if_ne (t := 41) dX13_came_36 (mk0 rfl) rfl) (ite_cg ?_ ?_)
        · refine Eq.trans (q_iconst (v := 0) dX13_came_41 (mk0 rfl) rfl) ?_
          refine Eq.trans (q_istore (lv2 := [some (.ref o), some (.int i1), some (.int i2), some (.int i3), some (.int i4), some (.int 0), none, none, none]) dX13_came_42 (mk0 rfl) (Nat.le_of_ble_eq_true rfl) rfl) ?_
          refine Eq.trans (q_bipush (v := (-2)) dX13_came_44 (mk0 rfl) rfl) ?_
          refine Eq.trans (q_istore (lv2 := [some (.ref o), some (.int i1), some (.int i2), some (.int i3), some (.int i4), some (.int 0), some (.int ((-2))), none, none]) dX13_came_46 (mk0 rfl) (Nat.le_of_ble_eq_true rfl) rfl) ?_
          refine Eq.trans (q_aload_n dX13_came_48 (mk0 rfl) rfl rfl) ?_
          refine Eq.trans (q_callV (as := []) dX13_came_49 (mk0 rfl) rfl rfl rfl (Nat.le_of_ble_eq_true rfl) (Nat.le_of_ble_eq_true rfl)) (bind_cg fun b49 => ?_)
          refine Eq.trans (cV_bind rfl) (bind_cg fun p49 => ?_)
          show RS (ZZ L xs) (d + 1) mX13_came 52 [some (.ref o), some (.int i1), some (.int i2), some (.int i3), some (.int i4), some (.int 0), some (.int ((-2))), none, none] [] p49 = _
          refine Eq.trans (q_iconst (v := 0) dX13_came_52 (mk0 rfl) rfl) ?_
          refine Eq.trans (q_istore (lv2 := [some (.ref o), some (.int i1), some (.int i2), some (.int i3), some (.int i4), some (.int 0), some (.int ((-2))), some (.int 0), none]) dX13_came_53 (mk0 rfl) (Nat.le_of_ble_eq_true rfl) rfl) ?_
          rfl
        · rfl
set_option maxRecDepth 20000 in
theorem bX13_came_39 {L : Nat} {xs : Nat → Int32} (d : Nat) (u0 : Option Value) (u1 : Option Value) (u2 : Option Value) (u3 : Option Value) (u4 : Option Value) (u5 : Option Value) (u6 : Option Value) (u7 : Option Value) (u8 : Option Value) (ph : PH) : RS (ZZ L xs) (d + 1) mX13_came 39 [u0, u1, u2, u3, u4, u5, u6, u7, u8] [] ph = some (ph, some (.int ((-1)))) := by
  refine Eq.trans (q_iconst (v := (-1)) dX13_came_39 (show mK mX13_came 39 [u0, u1, u2, u3, u4, u5, u6, u7, u8] = [none, none, none, none, none, none, none, none, none] from rfl) rfl) ?_
  exact q_ireturn dX13_came_40 (mk0 rfl) rfl
set_option maxRecDepth 20000 in
theorem bX13_came_55 {L : Nat} {xs : Nat → Int32} (d : Nat) (o : Nat) (i1 : Int32) (i2 : Int32) (i3 : Int32) (i4 : Int32) (i5 : Int32) (i6 : Int32) (i7 : Int32) (u8 : Option Value) (ph : PH) : RS (ZZ L xs) (d + 1) mX13_came 55 [some (.ref o), some (.int i1), some (.int i2), some (.int i3), some (.int i4), some (.int i5), some (.int i6), some (.int i7), u8] [] ph = (fR ph (.ref o) 13 1).bind fun x58 => (eI ph x58 0).bind fun x62 => if (x62 : Int32) ≤ i7 then if ¬ (i4 : Int32) = 0 then RS (ZZ L xs) (d + 1) mX13_came 152 [some (.ref o), some (.int i1), some (.int i2), some (.int i3), some (.int i4), some (.int i5), some (.int i6), some (.int i7), none] [.int i6] ph else RS (ZZ L xs) (d + 1) mX13_came 152 [some (.ref o), some (.int i1), some (.int i2), some (.int i3), some (.int i4), some (.int i5), some (.int i6), some (.int i7), none] [.int i5] ph else (fR ph (.ref o) 13 7).bind fun x67 => (wI ph x67 i1 i7).bind fun h73 => (iO h73 (.ref o) 13).bind fun b76 => (cV (ZZ L xs) d mX13_goFor [.ref b76, .int i2] h73).bind fun p76 => (fR p76 (.ref o) 13 7).bind fun x80 => (eI p76 x80 i1).bind fun x84 => if ¬ (x84 : Int32) = i3 then RS (ZZ L xs) (d + 1) mX13_came 94 [some (.ref o), some (.int i1), some (.int i2), some (.int i3), some (.int i4), some (.int i5), some (.int i6), some (.int i7), none] [.int 0] p76 else RS (ZZ L xs) (d + 1) mX13_came 94 [some (.ref o), some (.int i1), some (.int i2), some (.int i3), some (.int i4), some (.int i5), some (.int i6), some (.int i7), none] [.int 1] p76 := by
  refine Eq.trans (q_iload dX13_came_55 (show mK mX13_came 55 [some (.ref o), some (.int i1), some (.int i2), some (.int i3), some (.int i4), some (.int i5), some (.int i6), some (.int i7), u8] = [some (.ref o), some (.int i1), some (.int i2), some (.int i3), some (.int i4), some (.int i5), some (.int i6), some (.int i7), none] from rfl) rfl) ?_
  refine Eq.trans (q_aload_n dX13_came_57 (mk0 rfl) rfl rfl) ?_
  refine Eq.trans (q_getR (ci := 13) (k := 1) dX13_came_58 (mk0 rfl) rfl) (bind_cg2 fun x58 hx58 => ?_)
  have hx58 := fR_isR hx58
  refine Eq.trans (q_iconst (v := 0) dX13_came_61 (mk0 rfl) rfl) ?_
  refine Eq.trans (q_iaload dX13_came_62 (mk0 rfl) (no_ext hx58)) (bind_cg fun x62 => ?_)
  refine Eq.trans (q_icmp_ge (t := 140) dX13_came_63 (mk0 rfl) rfl) (ite_cg ?_ ?_)
  · refine Eq.trans (q_iload dX13_came_140 (mk0 rfl) rfl) ?_
    refine Eq.trans (q_if_ne (t := 150) dX13_came_142 (mk0 rfl) rfl) (ite_cg ?_ ?_)
    · refine Eq.trans (q_iload dX13_came_150 (mk0 rfl) rfl) ?_
      rfl
    · refine Eq.trans (q_iload dX13_came_145 (mk0 rfl) rfl) ?_
      refine Eq.trans (q_goto (t := 152) dX13_came_147 (mk0 rfl) rfl) ?_
      rfl
  · refine Eq.trans (q_aload_n dX13_came_66 (mk0 rfl) rfl rfl) ?_
    refine Eq.trans (q_getR (ci := 13) (k := 7) dX13_came_67 (mk0 rfl) rfl) (bind_cg2 fun x67 hx67 => ?_)
    have hx67 := fR_isR hx67
    refine Eq.trans (q_iload_n dX13_came_70 (mk0 rfl) rfl) ?_
    refine Eq.trans (q_iload dX13_came_71 (mk0 rfl) rfl) ?_
    refine Eq.trans (q_iastore dX13_came_73 (mk0 rfl)) (bind_cg fun h73 => ?_)
    refine Eq.trans (q_aload_n dX13_came_74 (mk0 rfl) rfl rfl) ?_
    refine Eq.trans (q_iload_n dX13_came_75 (mk0 rfl) rfl) ?_
    refine Eq.trans (q_callV (as := [.int i2]) dX13_came_76 (mk0 rfl) rfl rfl rfl (Nat.le_of_ble_eq_true rfl) (Nat.le_of_ble_eq_true rfl)) (bind_cg fun b76 => ?_)
    refine Eq.trans (cV_bind rfl) (bind_cg fun p76 => ?_)
    show RS (ZZ L xs) (d + 1) mX13_came 79 [some (.ref o), some (.int i1), some (.int i2), some (.int i3), some (.int i4), some (.int i5), some (.int i6), some (.int i7), none] [] p76 = _
    refine Eq.trans (q_aload_n dX13_came_79 (mk0 rfl) rfl rfl) ?_
    refine Eq.trans (q_getR (ci := 13) (k := 7) dX13_came_80 (mk0 rfl) rfl) (bind_cg2 fun x80 hx80 => ?_)
    have hx80 := fR_isR hx80
    refine Eq.trans (q_iload_n dX13_came_83 (mk0 rfl) rfl) ?_
    refine Eq.trans (q_iaload dX13_came_84 (mk0 rfl) (no_ext hx80)) (bind_cg fun x84 => ?_)
    refine Eq.trans (q_iload_n dX13_came_85 (mk0 rfl) rfl) ?_
    refine Eq.trans (q_icmp_ne (t := 93) dX13_came_86 (mk0 rfl) rfl) (ite_cg ?_ ?_)
    · refine Eq.trans (q_iconst (v := 0) dX13_came_93 (mk0 rfl) rfl) ?_
      rfl
    · refine Eq.trans (q_iconst (v := 1) dX13_came_89 (mk0 rfl) rfl) ?_
      refine Eq.trans (q_goto (t := 94) dX13_came_90 (mk0 rfl) rfl) ?_
      rfl
set_option maxRecDepth 20000 in
theorem bX13_came_94 {L : Nat} {xs : Nat → Int32} (d : Nat) (o : Nat) (i1 : Int32) (i2 : Int32) (i3 : Int32) (i4 : Int32) (i5 : Int32) (i6 : Int32) (i7 : Int32) (u8 : Option Value) (t0 : Int32) (ph : PH) : RS (ZZ L xs) (d + 1) mX13_came 94 [some (.ref o), some (.int i1), some (.int i2), some (.int i3), some (.int i4), some (.int i5), some (.int i6), some (.int i7), u8] [.int t0] ph = (iO ph (.ref o) 13).bind fun b97 => (cV (ZZ L xs) d mX13_laysBack [.ref b97] ph).bind fun p97 => if (t0 : Int32) = 0 then RS (ZZ L xs) (d + 1) mX13_came 115 [some (.ref o), some (.int i1), some (.int i2), some (.int i3), some (.int i4), some (.int i5), some (.int i6), some (.int i7), some (.int t0)] [] p97 else if ¬ (i5 : Int32) = 0 then RS (ZZ L xs) (d + 1) mX13_came 115 [some (.ref o), some (.int i1), some (.int i2), some (.int i3), some (.int i4), some (.int i5), some (.int i6), some (.int i7), some (.int t0)] [] p97 else RS (ZZ L xs) (d + 1) mX13_came 117 [some (.ref o), some (.int i1), some (.int i2), some (.int i3), some (.int i4), some (.int i5), some (.int i6), some (.int i7), some (.int t0)] [.int i7] p97 := by
  refine Eq.trans (q_istore (lv2 := [some (.ref o), some (.int i1), some (.int i2), some (.int i3), some (.int i4), some (.int i5), some (.int i6), some (.int i7), some (.int t0)]) dX13_came_94 (show mK mX13_came 94 [some (.ref o), some (.int i1), some (.int i2), some (.int i3), some (.int i4), some (.int i5), some (.int i6), some (.int i7), u8] = [some (.ref o), some (.int i1), some (.int i2), some (.int i3), some (.int i4), some (.int i5), some (.int i6), some (.int i7), none] from rfl) (Nat.le_of_ble_eq_true rfl) rfl) ?_
  refine Eq.trans (q_aload_n dX13_came_96 (mk0 rfl) rfl rfl) ?_
  refine Eq.trans (q_callV (as := []) dX13_came_97 (mk0 rfl) rfl rfl rfl (Nat.le_of_ble_eq_true rfl) (Nat.le_of_ble_eq_true rfl)) (bind_cg fun b97 => ?_)
  refine Eq.trans (cV_bind rfl) (bind_cg fun p97 => ?_)
  show RS (ZZ L xs) (d + 1) mX13_came 100 [some (.ref o), some (.int i1), some (.int i2), some (.int i3), some (.int i4), some (.int i5), some (.int i6), some (.int i7), some (.int t0)] [] p97 = _
  refine Eq.trans (q_iload dX13_came_100 (mk0 rfl) rfl) ?_
  refine Eq.trans (q_if_eq (t := 115) dX13_came_102 (mk0 rfl) rfl) (ite_cg ?_ ?_)
  · rfl
  · refine Eq.trans (q_iload dX13_came_105 (mk0 rfl) rfl) ?_
    refine Eq.trans (q_if_ne (t := 115) dX13_came_107 (mk0 rfl) rfl) (ite_cg ?_ ?_)
    · rfl
    · refine Eq.trans (q_iload dX13_came_110 (mk0 rfl) rfl) ?_
      refine Eq.trans (q_goto (t := 117) dX13_came_112 (mk0 rfl) rfl) ?_
      rfl
set_option maxRecDepth 20000 in
theorem bX13_came_115 {L : Nat} {xs : Nat → Int32} (d : Nat) (o : Nat) (i1 : Int32) (i2 : Int32) (i3 : Int32) (i4 : Int32) (i5 : Int32) (i6 : Int32) (i7 : Int32) (i8 : Int32) (ph : PH) : RS (ZZ L xs) (d + 1) mX13_came 115 [some (.ref o), some (.int i1), some (.int i2), some (.int i3), some (.int i4), some (.int i5), some (.int i6), some (.int i7), some (.int i8)] [] ph = RS (ZZ L xs) (d + 1) mX13_came 117 [some (.ref o), some (.int i1), some (.int i2), some (.int i3), some (.int i4), some (.int i5), some (.int i6), some (.int i7), some (.int i8)] [.int i6] ph := by
  refine Eq.trans (q_iload dX13_came_115 (mk0 rfl) rfl) ?_
  rfl
set_option maxRecDepth 20000 in
theorem bX13_came_117 {L : Nat} {xs : Nat → Int32} (d : Nat) (o : Nat) (i1 : Int32) (i2 : Int32) (i3 : Int32) (i4 : Int32) (i5 : Int32) (u6 : Option Value) (i7 : Int32) (i8 : Int32) (t0 : Int32) (ph : PH) : RS (ZZ L xs) (d + 1) mX13_came 117 [some (.ref o), some (.int i1), some (.int i2), some (.int i3), some (.int i4), some (.int i5), u6, some (.int i7), some (.int i8)] [.int t0] ph = if (i8 : Int32) = 0 then RS (ZZ L xs) (d + 1) mX13_came 131 [some (.ref o), some (.int i1), some (.int i2), some (.int i3), some (.int i4), some (.int i5), some (.int t0), some (.int i7), some (.int i8)] [.int 0, .int i5] ph else RS (ZZ L xs) (d + 1) mX13_came 131 [some (.ref o), some (.int i1), some (.int i2), some (.int i3), some (.int i4), some (.int i5), some (.int t0), some (.int i7), some (.int i8)] [.int 1, .int i5] ph := by
  refine Eq.trans (q_istore (lv2 := [some (.ref o), some (.int i1), some (.int i2), some (.int i3), some (.int i4), some (.int i5), some (.int t0), some (.int i7), some (.int i8)]) dX13_came_117 (show mK mX13_came 117 [some (.ref o), some (.int i1), some (.int i2), some (.int i3), some (.int i4), some (.int i5), u6, some (.int i7), some (.int i8)] = [some (.ref o), some (.int i1), some (.int i2), some (.int i3), some (.int i4), some (.int i5), none, some (.int i7), some (.int i8)] from rfl) (Nat.le_of_ble_eq_true rfl) rfl) ?_
  refine Eq.trans (q_iload dX13_came_119 (mk0 rfl) rfl) ?_
  refine Eq.trans (q_iload dX13_came_121 (mk0 rfl) rfl) ?_
  refine Eq.trans (q_if_eq (t := 130) dX13_came_123 (mk0 rfl) rfl) (ite_cg ?_ ?_)
  · refine Eq.trans (q_iconst (v := 0) dX13_came_130 (mk0 rfl) rfl) ?_
    rfl
  · refine Eq.trans (q_iconst (v := 1) dX13_came_126 (mk0 rfl) rfl) ?_
    refine Eq.trans (q_goto (t := 131) dX13_came_127 (mk0 rfl) rfl) ?_
    rfl
set_option maxRecDepth 20000 in
theorem bX13_came_131 {L : Nat} {xs : Nat → Int32} (d : Nat) (o : Nat) (i1 : Int32) (i2 : Int32) (i3 : Int32) (i4 : Int32) (u5 : Option Value) (i6 : Int32) (i7 : Int32) (u8 : Option Value) (t0 : Int32) (t1 : Int32) (ph : PH) : RS (ZZ L xs) (d + 1) mX13_came 131 [some (.ref o), some (.int i1), some (.int i2), some (.int i3), some (.int i4), u5, some (.int i6), some (.int i7), u8] [.int t0, .int t1] ph = RS (ZZ L xs) (d + 1) mX13_came 55 [some (.ref o), some (.int i1), some (.int i2), some (.int i3), some (.int i4), some (.int (t1 + t0)), some (.int i6), some (.int (i7 + 1)), none] [] ph := by
  refine Eq.trans (q_iadd dX13_came_131 (show mK mX13_came 131 [some (.ref o), some (.int i1), some (.int i2), some (.int i3), some (.int i4), u5, some (.int i6), some (.int i7), u8] = [some (.ref o), some (.int i1), some (.int i2), some (.int i3), some (.int i4), none, some (.int i6), some (.int i7), none] from rfl)) ?_
  refine Eq.trans (q_istore (lv2 := [some (.ref o), some (.int i1), some (.int i2), some (.int i3), some (.int i4), some (.int (t1 + t0)), some (.int i6), some (.int i7), none]) dX13_came_132 (mk0 rfl) (Nat.le_of_ble_eq_true rfl) rfl) ?_
  refine Eq.trans (q_iinc (v := 1) (lv2 := [some (.ref o), some (.int i1), some (.int i2), some (.int i3), some (.int i4), some (.int (t1 + t0)), some (.int i6), some (.int (i7 + 1)), none]) dX13_came_134 (mk0 rfl) rfl rfl rfl) ?_
  refine Eq.trans (q_goto (t := 55) dX13_came_137 (mk0 rfl) rfl) ?_
  rfl
set_option maxRecDepth 20000 in
theorem bX13_came_152 {L : Nat} {xs : Nat → Int32} (d : Nat) (u0 : Option Value) (u1 : Option Value) (u2 : Option Value) (u3 : Option Value) (u4 : Option Value) (u5 : Option Value) (u6 : Option Value) (u7 : Option Value) (u8 : Option Value) (t0 : Int32) (ph : PH) : RS (ZZ L xs) (d + 1) mX13_came 152 [u0, u1, u2, u3, u4, u5, u6, u7, u8] [.int t0] ph = some (ph, some (.int t0)) := by
  exact q_ireturn dX13_came_152 (show mK mX13_came 152 [u0, u1, u2, u3, u4, u5, u6, u7, u8] = [none, none, none, none, none, none, none, none, none] from rfl) rfl
set_option maxRecDepth 20000 in
theorem bX13_post_0 {L : Nat} {xs : Nat → Int32} (d : Nat) (o : Nat) (i1 : Int32) (i2 : Int32) (ph : PH) : RS (ZZ L xs) (d + 1) mX13_post 0 [some (.ref o), some (.int i1), some (.int i2), none, none, none, none, none, none, none] [] ph = (iO ph (.ref o) 13).bind fun b1 => (cI (ZZ L xs) d mX13_isTown [.ref b1] ph).bind fun p1 => if (p1.2 : Int32) = 0 then RS (ZZ L xs) (d + 1) mX13_post 31 [some (.ref o), some (.int i1), some (.int i2), none, none, none, none, none, none, none] [] p1.1 else (cI (ZZ L xs) d mX13_in [.long ((i1 : Int32).toInt64), .long 1, .long 60] p1.1).bind fun p13 => if (p13.2 : Int32) = 0 then RS (ZZ L xs) (d + 1) mX13_post 31 [some (.ref o), some (.int i1), some (.int i2), none, none, none, none, none, none, none] [] p13.1 else (cI (ZZ L xs) d mX13_in [.long ((i2 : Int32).toInt64), .long 0, .long 2] p13.1).bind fun p25 => if ¬ (p25.2 : Int32) = 0 then (fR p25.1 (.ref o) 13 1).bind fun x35 => (eI p25.1 x35 6).bind fun x40 => (iO p25.1 (.ref o) 13).bind fun b43 => (cV (ZZ L xs) d mX13_keepsAll [.ref b43] p25.1).bind fun p43 => (iO p43 (.ref o) 13).bind fun b48 => (cI (ZZ L xs) d mX13_comeIn [.ref b48, .int i1] p43).bind fun p48 => RS (ZZ L xs) (d + 1) mX13_post 62 [some (.ref o), some (.int i1), some (.int i2), some (.int x40), some (.int p48.2), some (.int ((-1))), some (.int ((-1))), some (.int 0), none, none] [] p48.1 else RS (ZZ L xs) (d + 1) mX13_post 31 [some (.ref o), some (.int i1), some (.int i2), none, none, none, none, none, none, none] [] p25.1 := by
  refine Eq.trans (q_aload_n dX13_post_0 (mk0 rfl) rfl rfl) ?_
  refine Eq.trans (q_callV (as := []) dX13_post_1 (mk0 rfl) rfl rfl rfl (Nat.le_of_ble_eq_true rfl) (Nat.le_of_ble_eq_true rfl)) (bind_cg fun b1 => ?_)
  refine Eq.trans (cI_bind (Or.inr rfl)) (bind_cg fun p1 => ?_)
  show RS (ZZ L xs) (d + 1) mX13_post 4 [some (.ref o), some (.int i1), some (.int i2), none, none, none, none, none, none, none] [.int p1.2] p1.1 = _
  refine Eq.trans (q_if_eq (t := 31) dX13_post_4 (mk0 rfl) rfl) (ite_cg ?_ ?_)
  · rfl
  · refine Eq.trans (q_iload_n dX13_post_7 (mk0 rfl) rfl) ?_
    refine Eq.trans (q_i2l dX13_post_8 (mk0 rfl)) ?_
    refine Eq.trans (q_lconst (v := 1) dX13_post_9 (mk0 rfl) rfl) ?_
    refine Eq.trans (q_ldc2 (v := 60) dX13_post_10 (mk0 rfl) rfl) ?_
    refine Eq.trans (q_callS (as := [.long ((i1 : Int32).toInt64), .long 1, .long 60]) dX13_post_13 (mk0 rfl) rfl (Or.inl rfl) rfl rfl (Nat.le_of_ble_eq_true rfl) (Nat.le_of_ble_eq_true rfl)) ?_
    refine Eq.trans (cI_bind (Or.inr rfl)) (bind_cg fun p13 => ?_)
    show RS (ZZ L xs) (d + 1) mX13_post 16 [some (.ref o), some (.int i1), some (.int i2), none, none, none, none, none, none, none] [.int p13.2] p13.1 = _
    refine Eq.trans (q_if_eq (t := 31) dX13_post_16 (mk0 rfl) rfl) (ite_cg ?_ ?_)
    · rfl
    · refine Eq.trans (q_iload_n dX13_post_19 (mk0 rfl) rfl) ?_
      refine Eq.trans (q_i2l dX13_post_20 (mk0 rfl)) ?_
      refine Eq.trans (q_lconst (v := 0) dX13_post_21 (mk0 rfl) rfl) ?_
      refine Eq.trans (q_ldc2 (v := 2) dX13_post_22 (mk0 rfl) rfl) ?_
      refine Eq.trans (q_callS (as := [.long ((i2 : Int32).toInt64), .long 0, .long 2]) dX13_post_25 (mk0 rfl) rfl (Or.inl rfl) rfl rfl (Nat.le_of_ble_eq_true rfl) (Nat.le_of_ble_eq_true rfl)) ?_
      refine Eq.trans (cI_bind (Or.inr rfl)) (bind_cg fun p25 => ?_)
      show RS (ZZ L xs) (d + 1) mX13_post 28 [some (.ref o), some (.int i1), some (.int i2), none, none, none, none, none, none, none] [.int p25.2] p25.1 = _
      refine Eq.trans (q_if_ne (t := 34) dX13_post_28 (mk0 rfl) rfl) (ite_cg ?_ ?_)
      · refine Eq.trans (q_aload_n dX13_post_34 (mk0 rfl) rfl rfl) ?_
        refine Eq.trans (q_getR (ci := 13) (k := 1) dX13_post_35 (mk0 rfl) rfl) (bind_cg2 fun x35 hx35 => ?_)
        have hx35 := fR_isR hx35
        refine Eq.trans (q_bipush (v := 6) dX13_post_38 (mk0 rfl) rfl) ?_
        refine Eq.trans (q_iaload dX13_post_40 (mk0 rfl) (no_ext hx35)) (bind_cg fun x40 => ?_)
        refine Eq.trans (q_istore_n (lv2 := [some (.ref o), some (.int i1), some (.int i2), some (.int x40), none, none, none, none, none, none]) dX13_post_41 (mk0 rfl) (Nat.le_of_ble_eq_true rfl) rfl) ?_
        refine Eq.trans (q_aload_n dX13_post_42 (mk0 rfl) rfl rfl) ?_
        refine Eq.trans (q_callV (as := []) dX13_post_43 (mk0 rfl) rfl rfl rfl (Nat.le_of_ble_eq_true rfl) (Nat.le_of_ble_eq_true rfl)) (bind_cg fun b43 => ?_)
        refine Eq.trans (cV_bind rfl) (bind_cg fun p43 => ?_)
        show RS (ZZ L xs) (d + 1) mX13_post 46 [some (.ref o), some (.int i1), some (.int i2), some (.int x40), none, none, none, none, none, none] [] p43 = _
        refine Eq.trans (q_aload_n dX13_post_46 (mk0 rfl) rfl rfl) ?_
        refine Eq.trans (q_iload_n dX13_post_47 (mk0 rfl) rfl) ?_
        refine Eq.trans (q_callV (as := [.int i1]) dX13_post_48 (mk0 rfl) rfl rfl rfl (Nat.le_of_ble_eq_true rfl) (Nat.le_of_ble_eq_true rfl)) (bind_cg fun b48 => ?_)
        refine Eq.trans (cI_bind (Or.inl rfl)) (bind_cg fun p48 => ?_)
        show RS (ZZ L xs) (d + 1) mX13_post 51 [some (.ref o), some (.int i1), some (.int i2), some (.int x40), none, none, none, none, none, none] [.int p48.2] p48.1 = _
        refine Eq.trans (q_istore (lv2 := [some (.ref o), some (.int i1), some (.int i2), some (.int x40), some (.int p48.2), none, none, none, none, none]) dX13_post_51 (mk0 rfl) (Nat.le_of_ble_eq_true rfl) rfl) ?_
        refine Eq.trans (q_iconst (v := (-1)) dX13_post_53 (mk0 rfl) rfl) ?_
        refine Eq.trans (q_istore (lv2 := [some (.ref o), some (.int i1), some (.int i2), some (.int x40), some (.int p48.2), some (.int ((-1))), none, none, none, none]) dX13_post_54 (mk0 rfl) (Nat.le_of_ble_eq_true rfl) rfl) ?_
        refine Eq.trans (q_iconst (v := (-1)) dX13_post_56 (mk0 rfl) rfl) ?_
        refine Eq.trans (q_istore (lv2 := [some (.ref o), some (.int i1), some (.int i2), some (.int x40), some (.int p48.2), some (.int ((-1))), some (.int ((-1))), none, none, none]) dX13_post_57 (mk0 rfl) (Nat.le_of_ble_eq_true rfl) rfl) ?_
        refine Eq.trans (q_iconst (v := 0) dX13_post_59 (mk0 rfl) rfl) ?_
        refine Eq.trans (q_istore (lv2 := [some (.ref o), some (.int i1), some (.int i2), some (.int x40), some (.int p48.2), some (.int ((-1))), some (.int ((-1))), some (.int 0), none, none]) dX13_post_60 (mk0 rfl) (Nat.le_of_ble_eq_true rfl) rfl) ?_
        rfl
      · rfl
set_option maxRecDepth 20000 in
theorem bX13_post_31 {L : Nat} {xs : Nat → Int32} (d : Nat) (u0 : Option Value) (u1 : Option Value) (u2 : Option Value) (u3 : Option Value) (u4 : Option Value) (u5 : Option Value) (u6 : Option Value) (u7 : Option Value) (u8 : Option Value) (u9 : Option Value) (ph : PH) : RS (ZZ L xs) (d + 1) mX13_post 31 [u0, u1, u2, u3, u4, u5, u6, u7, u8, u9] [] ph = some (ph, some (.int ((-2)))) := by
  refine Eq.trans (q_bipush (v := (-2)) dX13_post_31 (show mK mX13_post 31 [u0, u1, u2, u3, u4, u5, u6, u7, u8, u9] = [none, none, none, none, none, none, none, none, none, none] from rfl) rfl) ?_
  exact q_ireturn dX13_post_33 (mk0 rfl) rfl
set_option maxRecDepth 20000 in
theorem bX13_post_62 {L : Nat} {xs : Nat → Int32} (d : Nat) (o : Nat) (i1 : Int32) (i2 : Int32) (i3 : Int32) (i4 : Int32) (i5 : Int32) (i6 : Int32) (i7 : Int32) (u8 : Option Value) (u9 : Option Value) (ph : PH) : RS (ZZ L xs) (d + 1) mX13_post 62 [some (.ref o), some (.int i1), some (.int i2), some (.int i3), some (.int i4), some (.int i5), some (.int i6), some (.int i7), u8, u9] [] ph = (fR ph (.ref o) 13 1).bind fun x65 => (eI ph x65 0).bind fun x69 => if (x69 : Int32) ≤ i7 then if ¬ (i2 : Int32) = 0 then if ¬ (i2 : Int32) = 1 then RS (ZZ L xs) (d + 1) mX13_post 174 [some (.ref o), some (.int i1), some (.int i2), some (.int i3), some (.int i4), some (.int i5), some (.int i6), some (.int i7), none, none] [.int i6] ph else RS (ZZ L xs) (d + 1) mX13_post 174 [some (.ref o), some (.int i1), some (.int i2), some (.int i3), some (.int i4), some (.int i5), some (.int i6), some (.int i7), none, none] [.int i5] ph else RS (ZZ L xs) (d + 1) mX13_post 174 [some (.ref o), some (.int i1), some (.int i2), some (.int i3), some (.int i4), some (.int i5), some (.int i6), some (.int i7), none, none] [.int (i4 - i3)] ph else RS (ZZ L xs) (d + 1) mX13_post 79 [some (.ref o), some (.int i1), some (.int i2), some (.int i3), some (.int i4), some (.int i5), some (.int i6), some (.int i7), some (.int (i7 + 1)), none] [] ph := by
  refine Eq.trans (q_iload dX13_post_62 (show mK mX13_post 62 [some (.ref o), some (.int i1), some (.int i2), some (.int i3), some (.int i4), some (.int i5), some (.int i6), some (.int i7), u8, u9] = [some (.ref o), some (.int i1), some (.int i2), some (.int i3), some (.int i4), some (.int i5), some (.int i6), some (.int i7), none, none] from rfl) rfl) ?_
  refine Eq.trans (q_aload_n dX13_post_64 (mk0 rfl) rfl rfl) ?_
  refine Eq.trans (q_getR (ci := 13) (k := 1) dX13_post_65 (mk0 rfl) rfl) (bind_cg2 fun x65 hx65 => ?_)
  have hx65 := fR_isR hx65
  refine Eq.trans (q_iconst (v := 0) dX13_post_68 (mk0 rfl) rfl) ?_
  refine Eq.trans (q_iaload dX13_post_69 (mk0 rfl) (no_ext hx65)) (bind_cg fun x69 => ?_)
  refine Eq.trans (q_icmp_ge (t := 151) dX13_post_70 (mk0 rfl) rfl) (ite_cg ?_ ?_)
  · refine Eq.trans (q_iload_n dX13_post_151 (mk0 rfl) rfl) ?_
    refine Eq.trans (q_if_ne (t := 162) dX13_post_152 (mk0 rfl) rfl) (ite_cg ?_ ?_)
    · refine Eq.trans (q_iload_n dX13_post_162 (mk0 rfl) rfl) ?_
      refine Eq.trans (q_iconst (v := 1) dX13_post_163 (mk0 rfl) rfl) ?_
      refine Eq.trans (q_icmp_ne (t := 172) dX13_post_164 (mk0 rfl) rfl) (ite_cg ?_ ?_)
      · refine Eq.trans (q_iload dX13_post_172 (mk0 rfl) rfl) ?_
        rfl
      · refine Eq.trans (q_iload dX13_post_167 (mk0 rfl) rfl) ?_
        refine Eq.trans (q_goto (t := 174) dX13_post_169 (mk0 rfl) rfl) ?_
        rfl
    · refine Eq.trans (q_iload dX13_post_155 (mk0 rfl) rfl) ?_
      refine Eq.trans (q_iload_n dX13_post_157 (mk0 rfl) rfl) ?_
      refine Eq.trans (q_isub dX13_post_158 (mk0 rfl)) ?_
      refine Eq.trans (q_goto (t := 174) dX13_post_159 (mk0 rfl) rfl) ?_
      rfl
  · refine Eq.trans (q_iload dX13_post_73 (mk0 rfl) rfl) ?_
    refine Eq.trans (q_iconst (v := 1) dX13_post_75 (mk0 rfl) rfl) ?_
    refine Eq.trans (q_iadd dX13_post_76 (mk0 rfl)) ?_
    refine Eq.trans (q_istore (lv2 := [some (.ref o), some (.int i1), some (.int i2), some (.int i3), some (.int i4), some (.int i5), some (.int i6), some (.int i7), some (.int (i7 + 1)), none]) dX13_post_77 (mk0 rfl) (Nat.le_of_ble_eq_true rfl) rfl) ?_
    rfl
set_option maxRecDepth 20000 in
theorem bX13_post_79 {L : Nat} {xs : Nat → Int32} (d : Nat) (o : Nat) (i1 : Int32) (i2 : Int32) (i3 : Int32) (i4 : Int32) (i5 : Int32) (i6 : Int32) (i7 : Int32) (i8 : Int32) (u9 : Option Value) (ph : PH) : RS (ZZ L xs) (d + 1) mX13_post 79 [some (.ref o), some (.int i1), some (.int i2), some (.int i3), some (.int i4), some (.int i5), some (.int i6), some (.int i7), some (.int i8), u9] [] ph = (fR ph (.ref o) 13 1).bind fun x82 => (eI ph x82 0).bind fun x86 => if (x86 : Int32) ≤ i8 then RS (ZZ L xs) (d + 1) mX13_post 62 [some (.ref o), some (.int i1), some (.int i2), some (.int i3), some (.int i4), some (.int i5), some (.int i6), some (.int (i7 + 1)), some (.int i8), none] [] ph else (fR ph (.ref o) 13 9).bind fun x91 => (eI ph x91 i7).bind fun x96 => (cI (ZZ L xs) d mX13_has [.int x96, .int i8] ph).bind fun p99 => if (p99.2 : Int32) = 0 then RS (ZZ L xs) (d + 1) mX13_post 139 [some (.ref o), some (.int i1), some (.int i2), some (.int i3), some (.int i4), some (.int i5), some (.int i6), some (.int i7), some (.int i8), none] [] p99.1 else (iO p99.1 (.ref o) 13).bind fun b110 => (cV (ZZ L xs) d mX13_shuts [.ref b110, .int i7, .int i8] p99.1).bind fun p110 => (iO p110 (.ref o) 13).bind fun b115 => (cI (ZZ L xs) d mX13_comeIn [.ref b115, .int i1] p110).bind fun p115 => if (p115.2 : Int32) ≤ i4 then RS (ZZ L xs) (d + 1) mX13_post 139 [some (.ref o), some (.int i1), some (.int i2), some (.int i3), some (.int i4), some (.int i5), some (.int i6), some (.int i7), some (.int i8), some (.int p115.2)] [] p115.1 else RS (ZZ L xs) (d + 1) mX13_post 139 [some (.ref o), some (.int i1), some (.int i2), some (.int i3), some (.int p115.2), some (.int i7), some (.int i8), some (.int i7), some (.int i8), some (.int p115.2)] [] p115.1 := by
  refine Eq.trans (q_iload dX13_post_79 (show mK mX13_post 79 [some (.ref o), some (.int i1), some (.int i2), some (.int i3), some (.int i4), some (.int i5), some (.int i6), some (.int i7), some (.int i8), u9] = [some (.ref o), some (.int i1), some (.int i2), some (.int i3), some (.int i4), some (.int i5), some (.int i6), some (.int i7), some (.int i8), none] from rfl) rfl) ?_
  refine Eq.trans (q_aload_n dX13_post_81 (mk0 rfl) rfl rfl) ?_
  refine Eq.trans (q_getR (ci := 13) (k := 1) dX13_post_82 (mk0 rfl) rfl) (bind_cg2 fun x82 hx82 => ?_)
  have hx82 := fR_isR hx82
  refine Eq.trans (q_iconst (v := 0) dX13_post_85 (mk0 rfl) rfl) ?_
  refine Eq.trans (q_iaload dX13_post_86 (mk0 rfl) (no_ext hx82)) (bind_cg fun x86 => ?_)
  refine Eq.trans (q_icmp_ge (t := 145) dX13_post_87 (mk0 rfl) rfl) (ite_cg ?_ ?_)
  · refine Eq.trans (q_iinc (v := 1) (lv2 := [some (.ref o), some (.int i1), some (.int i2), some (.int i3), some (.int i4), some (.int i5), some (.int i6), some (.int (i7 + 1)), some (.int i8), none]) dX13_post_145 (mk0 rfl) rfl rfl rfl) ?_
    refine Eq.trans (q_goto (t := 62) dX13_post_148 (mk0 rfl) rfl) ?_
    rfl
  · refine Eq.trans (q_aload_n dX13_post_90 (mk0 rfl) rfl rfl) ?_
    refine Eq.trans (q_getR (ci := 13) (k := 9) dX13_post_91 (mk0 rfl) rfl) (bind_cg2 fun x91 hx91 => ?_)
    have hx91 := fR_isR hx91
    refine Eq.trans (q_iload dX13_post_94 (mk0 rfl) rfl) ?_
    refine Eq.trans (q_iaload dX13_post_96 (mk0 rfl) (no_ext hx91)) (bind_cg fun x96 => ?_)
    refine Eq.trans (q_iload dX13_post_97 (mk0 rfl) rfl) ?_
    refine Eq.trans (q_callS (as := [.int x96, .int i8]) dX13_post_99 (mk0 rfl) rfl (Or.inl rfl) rfl rfl (Nat.le_of_ble_eq_true rfl) (Nat.le_of_ble_eq_true rfl)) ?_
    refine Eq.trans (cI_bind (Or.inr rfl)) (bind_cg fun p99 => ?_)
    show RS (ZZ L xs) (d + 1) mX13_post 102 [some (.ref o), some (.int i1), some (.int i2), some (.int i3), some (.int i4), some (.int i5), some (.int i6), some (.int i7), some (.int i8), none] [.int p99.2] p99.1 = _
    refine Eq.trans (q_if_eq (t := 139) dX13_post_102 (mk0 rfl) rfl) (ite_cg ?_ ?_)
    · rfl
    · refine Eq.trans (q_aload_n dX13_post_105 (mk0 rfl) rfl rfl) ?_
      refine Eq.trans (q_iload dX13_post_106 (mk0 rfl) rfl) ?_
      refine Eq.trans (q_iload dX13_post_108 (mk0 rfl) rfl) ?_
      refine Eq.trans (q_callV (as := [.int i7, .int i8]) dX13_post_110 (mk0 rfl) rfl rfl rfl (Nat.le_of_ble_eq_true rfl) (Nat.le_of_ble_eq_true rfl)) (bind_cg fun b110 => ?_)
      refine Eq.trans (cV_bind rfl) (bind_cg fun p110 => ?_)
      show RS (ZZ L xs) (d + 1) mX13_post 113 [some (.ref o), some (.int i1), some (.int i2), some (.int i3), some (.int i4), some (.int i5), some (.int i6), some (.int i7), some (.int i8), none] [] p110 = _
      refine Eq.trans (q_aload_n dX13_post_113 (mk0 rfl) rfl rfl) ?_
      refine Eq.trans (q_iload_n dX13_post_114 (mk0 rfl) rfl) ?_
      refine Eq.trans (q_callV (as := [.int i1]) dX13_post_115 (mk0 rfl) rfl rfl rfl (Nat.le_of_ble_eq_true rfl) (Nat.le_of_ble_eq_true rfl)) (bind_cg fun b115 => ?_)
      refine Eq.trans (cI_bind (Or.inl rfl)) (bind_cg fun p115 => ?_)
      show RS (ZZ L xs) (d + 1) mX13_post 118 [some (.ref o), some (.int i1), some (.int i2), some (.int i3), some (.int i4), some (.int i5), some (.int i6), some (.int i7), some (.int i8), none] [.int p115.2] p115.1 = _
      refine Eq.trans (q_istore (lv2 := [some (.ref o), some (.int i1), some (.int i2), some (.int i3), some (.int i4), some (.int i5), some (.int i6), some (.int i7), some (.int i8), some (.int p115.2)]) dX13_post_118 (mk0 rfl) (Nat.le_of_ble_eq_true rfl) rfl) ?_
      refine Eq.trans (q_iload dX13_post_120 (mk0 rfl) rfl) ?_
      refine Eq.trans (q_iload dX13_post_122 (mk0 rfl) rfl) ?_
      refine Eq.trans (q_icmp_le (t := 139) dX13_post_124 (mk0 rfl) rfl) (ite_cg ?_ ?_)
      · rfl
      · refine Eq.trans (q_iload dX13_post_127 (mk0 rfl) rfl) ?_
        refine Eq.trans (q_istore (lv2 := [some (.ref o), some (.int i1), some (.int i2), some (.int i3), some (.int p115.2), some (.int i5), some (.int i6), some (.int i7), some (.int i8), some (.int p115.2)]) dX13_post_129 (mk0 rfl) (Nat.le_of_ble_eq_true rfl) rfl) ?_
        refine Eq.trans (q_iload dX13_post_131 (mk0 rfl) rfl) ?_
        refine Eq.trans (q_istore (lv2 := [some (.ref o), some (.int i1), some (.int i2), some (.int i3), some (.int p115.2), some (.int i7), some (.int i6), some (.int i7), some (.int i8), some (.int p115.2)]) dX13_post_133 (mk0 rfl) (Nat.le_of_ble_eq_true rfl) rfl) ?_
        refine Eq.trans (q_iload dX13_post_135 (mk0 rfl) rfl) ?_
        refine Eq.trans (q_istore (lv2 := [some (.ref o), some (.int i1), some (.int i2), some (.int i3), some (.int p115.2), some (.int i7), some (.int i8), some (.int i7), some (.int i8), some (.int p115.2)]) dX13_post_137 (mk0 rfl) (Nat.le_of_ble_eq_true rfl) rfl) ?_
        rfl
set_option maxRecDepth 20000 in
theorem bX13_post_139 {L : Nat} {xs : Nat → Int32} (d : Nat) (o : Nat) (i1 : Int32) (i2 : Int32) (i3 : Int32) (i4 : Int32) (i5 : Int32) (i6 : Int32) (i7 : Int32) (i8 : Int32) (u9 : Option Value) (ph : PH) : RS (ZZ L xs) (d + 1) mX13_post 139 [some (.ref o), some (.int i1), some (.int i2), some (.int i3), some (.int i4), some (.int i5), some (.int i6), some (.int i7), some (.int i8), u9] [] ph = RS (ZZ L xs) (d + 1) mX13_post 79 [some (.ref o), some (.int i1), some (.int i2), some (.int i3), some (.int i4), some (.int i5), some (.int i6), some (.int i7), some (.int (i8 + 1)), none] [] ph := by
  refine Eq.trans (q_iinc (v := 1) (lv2 := [some (.ref o), some (.int i1), some (.int i2), some (.int i3), some (.int i4), some (.int i5), some (.int i6), some (.int i7), some (.int (i8 + 1)), none]) dX13_post_139 (show mK mX13_post 139 [some (.ref o), some (.int i1), some (.int i2), some (.int i3), some (.int i4), some (.int i5), some (.int i6), some (.int i7), some (.int i8), u9] = [some (.ref o), some (.int i1), some (.int i2), some (.int i3), some (.int i4), some (.int i5), some (.int i6), some (.int i7), some (.int i8), none] from rfl) rfl rfl rfl) ?_
  refine Eq.trans (q_goto (t := 79) dX13_post_142 (mk0 rfl) rfl) ?_
  rfl
set_option maxRecDepth 20000 in
theorem bX13_post_174 {L : Nat} {xs : Nat → Int32} (d : Nat) (u0 : Option Value) (u1 : Option Value) (u2 : Option Value) (u3 : Option Value) (u4 : Option Value) (u5 : Option Value) (u6 : Option Value) (u7 : Option Value) (u8 : Option Value) (u9 : Option Value) (t0 : Int32) (ph : PH) : RS (ZZ L xs) (d + 1) mX13_post 174 [u0, u1, u2, u3, u4, u5, u6, u7, u8, u9] [.int t0] ph = some (ph, some (.int t0)) := by
  exact q_ireturn dX13_post_174 (show mK mX13_post 174 [u0, u1, u2, u3, u4, u5, u6, u7, u8, u9] = [none, none, none, none, none, none, none, none, none, none] from rfl) rfl
set_option maxRecDepth 20000 in
theorem bX13_comeIn_0 {L : Nat} {xs : Nat → Int32} (d : Nat) (o : Nat) (i1 : Int32) (ph : PH) : RS (ZZ L xs) (d + 1) mX13_comeIn 0 [some (.ref o), some (.int i1), none] [] ph = (iO ph (.ref o) 13).bind fun b2 => (cV (ZZ L xs) d mX13_goFor [.ref b2, .int i1] ph).bind fun p2 => (fR p2 (.ref o) 13 1).bind fun x6 => (eI p2 x6 6).bind fun x11 => (iO p2 (.ref o) 13).bind fun b14 => (cV (ZZ L xs) d mX13_laysBack [.ref b14] p2).bind fun p14 => some (p14, some (.int x11)) := by
  refine Eq.trans (q_aload_n dX13_comeIn_0 (mk0 rfl) rfl rfl) ?_
  refine Eq.trans (q_iload_n dX13_comeIn_1 (mk0 rfl) rfl) ?_
  refine Eq.trans (q_callV (as := [.int i1]) dX13_comeIn_2 (mk0 rfl) rfl rfl rfl (Nat.le_of_ble_eq_true rfl) (Nat.le_of_ble_eq_true rfl)) (bind_cg fun b2 => ?_)
  refine Eq.trans (cV_bind rfl) (bind_cg fun p2 => ?_)
  show RS (ZZ L xs) (d + 1) mX13_comeIn 5 [some (.ref o), some (.int i1), none] [] p2 = _
  refine Eq.trans (q_aload_n dX13_comeIn_5 (mk0 rfl) rfl rfl) ?_
  refine Eq.trans (q_getR (ci := 13) (k := 1) dX13_comeIn_6 (mk0 rfl) rfl) (bind_cg2 fun x6 hx6 => ?_)
  have hx6 := fR_isR hx6
  refine Eq.trans (q_bipush (v := 6) dX13_comeIn_9 (mk0 rfl) rfl) ?_
  refine Eq.trans (q_iaload dX13_comeIn_11 (mk0 rfl) (no_ext hx6)) (bind_cg fun x11 => ?_)
  refine Eq.trans (q_istore_n (lv2 := [some (.ref o), some (.int i1), some (.int x11)]) dX13_comeIn_12 (mk0 rfl) (Nat.le_of_ble_eq_true rfl) rfl) ?_
  refine Eq.trans (q_aload_n dX13_comeIn_13 (mk0 rfl) rfl rfl) ?_
  refine Eq.trans (q_callV (as := []) dX13_comeIn_14 (mk0 rfl) rfl rfl rfl (Nat.le_of_ble_eq_true rfl) (Nat.le_of_ble_eq_true rfl)) (bind_cg fun b14 => ?_)
  refine Eq.trans (cV_bind rfl) (bind_cg fun p14 => ?_)
  show RS (ZZ L xs) (d + 1) mX13_comeIn 17 [some (.ref o), some (.int i1), some (.int x11)] [] p14 = _
  refine Eq.trans (q_iload_n dX13_comeIn_17 (mk0 rfl) rfl) ?_
  exact q_ireturn dX13_comeIn_18 (mk0 rfl) rfl
set_option maxRecDepth 20000 in
theorem bX13_playOf_0 {L : Nat} {xs : Nat → Int32} (d : Nat) (o : Nat) (i1 : Int32) (i2 : Int32) (i3 : Int32) (i4 : Int32) (i5 : Int32) (ph : PH) : RS (ZZ L xs) (d + 1) mX13_playOf 0 [some (.ref o), some (.int i1), some (.int i2), some (.int i3), some (.int i4), some (.int i5), none, none, none, none, none, none] [] ph = (fR ph (.ref o) 13 5).bind fun x5 => (eI ph x5 i1).bind fun x9 => (fR ph (.ref o) 13 5).bind fun x11 => (eI ph x11 i2).bind fun x15 => RS (ZZ L xs) (d + 1) mX13_playOf 25 [some (.ref o), some (.int i1), some (.int i2), some (.int i3), some (.int i4), some (.int i5), some (.int i5), some (.int (x9 - x15)), some (.int 1), some (.int 0), none, none] [] ph := by
  refine Eq.trans (q_iload dX13_playOf_0 (mk0 rfl) rfl) ?_
  refine Eq.trans (q_istore (lv2 := [some (.ref o), some (.int i1), some (.int i2), some (.int i3), some (.int i4), some (.int i5), some (.int i5), none, none, none, none, none]) dX13_playOf_2 (mk0 rfl) (Nat.le_of_ble_eq_true rfl) rfl) ?_
  refine Eq.trans (q_aload_n dX13_playOf_4 (mk0 rfl) rfl rfl) ?_
  refine Eq.trans (q_getR (ci := 13) (k := 5) dX13_playOf_5 (mk0 rfl) rfl) (bind_cg2 fun x5 hx5 => ?_)
  have hx5 := fR_isR hx5
  refine Eq.trans (q_iload_n dX13_playOf_8 (mk0 rfl) rfl) ?_
  refine Eq.trans (q_iaload dX13_playOf_9 (mk0 rfl) (no_ext hx5)) (bind_cg fun x9 => ?_)
  refine Eq.trans (q_aload_n dX13_playOf_10 (mk0 rfl) rfl rfl) ?_
  refine Eq.trans (q_getR (ci := 13) (k := 5) dX13_playOf_11 (mk0 rfl) rfl) (bind_cg2 fun x11 hx11 => ?_)
  have hx11 := fR_isR hx11
  refine Eq.trans (q_iload_n dX13_playOf_14 (mk0 rfl) rfl) ?_
  refine Eq.trans (q_iaload dX13_playOf_15 (mk0 rfl) (no_ext hx11)) (bind_cg fun x15 => ?_)
  refine Eq.trans (q_isub dX13_playOf_16 (mk0 rfl)) ?_
  refine Eq.trans (q_istore (lv2 := [some (.ref o), some (.int i1), some (.int i2), some (.int i3), some (.int i4), some (.int i5), some (.int i5), some (.int (x9 - x15)), none, none, none, none]) dX13_playOf_17 (mk0 rfl) (Nat.le_of_ble_eq_true rfl) rfl) ?_
  refine Eq.trans (q_iconst (v := 1) dX13_playOf_19 (mk0 rfl) rfl) ?_
  refine Eq.trans (q_istore (lv2 := [some (.ref o), some (.int i1), some (.int i2), some (.int i3), some (.int i4), some (.int i5), some (.int i5), some (.int (x9 - x15)), some (.int 1), none, none, none]) dX13_playOf_20 (mk0 rfl) (Nat.le_of_ble_eq_true rfl) rfl) ?_
  refine Eq.trans (q_iconst (v := 0) dX13_playOf_22 (mk0 rfl) rfl) ?_
  refine Eq.trans (q_istore (lv2 := [some (.ref o), some (.int i1), some (.int i2), some (.int i3), some (.int i4), some (.int i5), some (.int i5), some (.int (x9 - x15)), some (.int 1), some (.int 0), none, none]) dX13_playOf_23 (mk0 rfl) (Nat.le_of_ble_eq_true rfl) rfl) ?_
  rfl
set_option maxRecDepth 20000 in
theorem bX13_playOf_25 {L : Nat} {xs : Nat → Int32} (d : Nat) (o : Nat) (i1 : Int32) (i2 : Int32) (i3 : Int32) (i4 : Int32) (u5 : Option Value) (i6 : Int32) (i7 : Int32) (i8 : Int32) (i9 : Int32) (u10 : Option Value) (u11 : Option Value) (ph : PH) : RS (ZZ L xs) (d + 1) mX13_playOf 25 [some (.ref o), some (.int i1), some (.int i2), some (.int i3), some (.int i4), u5, some (.int i6), some (.int i7), some (.int i8), some (.int i9), u10, u11] [] ph = if (i3 : Int32) ≤ i9 then RS (ZZ L xs) (d + 1) mX13_playOf 139 [some (.ref o), some (.int i1), some (.int i2), some (.int i3), some (.int i4), none, some (.int i6), some (.int i7), some (.int i8), some (.int i9), none, none] [] ph else if (i8 : Int32) = 0 then RS (ZZ L xs) (d + 1) mX13_playOf 139 [some (.ref o), some (.int i1), some (.int i2), some (.int i3), some (.int i4), none, some (.int i6), some (.int i7), some (.int i8), some (.int i9), none, none] [] ph else if (2 : Int32) = 0 then none else if ¬ (iRem i9 2 : Int32) = 0 then RS (ZZ L xs) (d + 1) mX13_playOf 48 [some (.ref o), some (.int i1), some (.int i2), some (.int i3), some (.int i4), none, some (.int i6), some (.int i7), some (.int i8), some (.int i9), none, none] [.int i2] ph else RS (ZZ L xs) (d + 1) mX13_playOf 48 [some (.ref o), some (.int i1), some (.int i2), some (.int i3), some (.int i4), none, some (.int i6), some (.int i7), some (.int i8), some (.int i9), none, none] [.int i1] ph := by
  refine Eq.trans (q_iload dX13_playOf_25 (show mK mX13_playOf 25 [some (.ref o), some (.int i1), some (.int i2), some (.int i3), some (.int i4), u5, some (.int i6), some (.int i7), some (.int i8), some (.int i9), u10, u11] = [some (.ref o), some (.int i1), some (.int i2), some (.int i3), some (.int i4), none, some (.int i6), some (.int i7), some (.int i8), some (.int i9), none, none] from rfl) rfl) ?_
  refine Eq.trans (q_iload_n dX13_playOf_27 (mk0 rfl) rfl) ?_
  refine Eq.trans (q_icmp_ge (t := 139) dX13_playOf_28 (mk0 rfl) rfl) (ite_cg ?_ ?_)
  · rfl
  · refine Eq.trans (q_iload dX13_playOf_31 (mk0 rfl) rfl) ?_
    refine Eq.trans (q_if_eq (t := 139) dX13_playOf_33 (mk0 rfl) rfl) (ite_cg ?_ ?_)
    · rfl
    · refine Eq.trans (q_iload dX13_playOf_36 (mk0 rfl) rfl) ?_
      refine Eq.trans (q_iconst (v := 2) dX13_playOf_38 (mk0 rfl) rfl) ?_
      refine Eq.trans (q_irem dX13_playOf_39 (mk0 rfl)) (ite_cg rfl ?_)
      refine Eq.trans (q_if_ne (t := 47) dX13_playOf_40 (mk0 rfl) rfl) (ite_cg ?_ ?_)
      · refine Eq.trans (q_iload_n dX13_playOf_47 (mk0 rfl) rfl) ?_
        rfl
      · refine Eq.trans (q_iload_n dX13_playOf_43 (mk0 rfl) rfl) ?_
        refine Eq.trans (q_goto (t := 48) dX13_playOf_44 (mk0 rfl) rfl) ?_
        rfl
set_option maxRecDepth 20000 in
theorem bX13_playOf_48 {L : Nat} {xs : Nat → Int32} (d : Nat) (o : Nat) (i1 : Int32) (i2 : Int32) (i3 : Int32) (i4 : Int32) (u5 : Option Value) (i6 : Int32) (i7 : Int32) (u8 : Option Value) (i9 : Int32) (u10 : Option Value) (u11 : Option Value) (t0 : Int32) (ph : PH) : RS (ZZ L xs) (d + 1) mX13_playOf 48 [some (.ref o), some (.int i1), some (.int i2), some (.int i3), some (.int i4), u5, some (.int i6), some (.int i7), u8, some (.int i9), u10, u11] [.int t0] ph = (fR ph (.ref o) 13 1).bind fun x53 => (eI ph x53 0).bind fun x57 => if (x57 : Int32) = 0 then none else if (i6 / x57 : Int32) = 0 then none else (fR ph (.ref o) 13 1).bind fun x67 => (eI ph x67 0).bind fun x71 => if (x71 : Int32) = 0 then none else (fR ph (.ref o) 13 2).bind fun x78 => (eI ph x78 t0).bind fun x83 => if (iRem (i4 / (i6 / x57)) x71 : Int32) = x83 then RS (ZZ L xs) (d + 1) mX13_playOf 107 [some (.ref o), some (.int i1), some (.int i2), some (.int i3), some (.int i4), none, some (.int (i6 / x57)), some (.int i7), none, some (.int i9), some (.int t0), some (.int (iRem (i4 / (i6 / x57)) x71))] [] ph else (fR ph (.ref o) 13 9).bind fun x88 => (fR ph (.ref o) 13 2).bind fun x92 => (eI ph x92 t0).bind fun x97 => (eI ph x88 x97).bind fun x98 => (cI (ZZ L xs) d mX13_has [.int x98, .int (iRem (i4 / (i6 / x57)) x71)] ph).bind fun p101 => if (p101.2 : Int32) = 0 then RS (ZZ L xs) (d + 1) mX13_playOf 112 [some (.ref o), some (.int i1), some (.int i2), some (.int i3), some (.int i4), none, some (.int (i6 / x57)), some (.int i7), none, some (.int i9), some (.int t0), some (.int (iRem (i4 / (i6 / x57)) x71))] [.int 0] p101.1 else RS (ZZ L xs) (d + 1) mX13_playOf 107 [some (.ref o), some (.int i1), some (.int i2), some (.int i3), some (.int i4), none, some (.int (i6 / x57)), some (.int i7), none, some (.int i9), some (.int t0), some (.int (iRem (i4 / (i6 / x57)) x71))] [] p101.1 := by
  refine Eq.trans (q_istore (lv2 := [some (.ref o), some (.int i1), some (.int i2), some (.int i3), some (.int i4), none, some (.int i6), some (.int i7), none, some (.int i9), some (.int t0), none]) dX13_playOf_48 (show mK mX13_playOf 48 [some (.ref o), some (.int i1), some (.int i2), some (.int i3), some (.int i4), u5, some (.int i6), some (.int i7), u8, some (.int i9), u10, u11] = [some (.ref o), some (.int i1), some (.int i2), some (.int i3), some (.int i4), none, some (.int i6), some (.int i7), none, some (.int i9), none, none] from rfl) (Nat.le_of_ble_eq_true rfl) rfl) ?_
  refine Eq.trans (q_iload dX13_playOf_50 (mk0 rfl) rfl) ?_
  refine Eq.trans (q_aload_n dX13_playOf_52 (mk0 rfl) rfl rfl) ?_
  refine Eq.trans (q_getR (ci := 13) (k := 1) dX13_playOf_53 (mk0 rfl) rfl) (bind_cg2 fun x53 hx53 => ?_)
  have hx53 := fR_isR hx53
  refine Eq.trans (q_iconst (v := 0) dX13_playOf_56 (mk0 rfl) rfl) ?_
  refine Eq.trans (q_iaload dX13_playOf_57 (mk0 rfl) (no_ext hx53)) (bind_cg fun x57 => ?_)
  refine Eq.trans (q_idiv dX13_playOf_58 (mk0 rfl)) (ite_cg rfl ?_)
  refine Eq.trans (q_istore (lv2 := [some (.ref o), some (.int i1), some (.int i2), some (.int i3), some (.int i4), none, some (.int (i6 / x57)), some (.int i7), none, some (.int i9), some (.int t0), none]) dX13_playOf_59 (mk0 rfl) (Nat.le_of_ble_eq_true rfl) rfl) ?_
  refine Eq.trans (q_iload dX13_playOf_61 (mk0 rfl) rfl) ?_
  refine Eq.trans (q_iload dX13_playOf_63 (mk0 rfl) rfl) ?_
  refine Eq.trans (q_idiv dX13_playOf_65 (mk0 rfl)) (ite_cg rfl ?_)
  refine Eq.trans (q_aload_n dX13_playOf_66 (mk0 rfl) rfl rfl) ?_
  refine Eq.trans (q_getR (ci := 13) (k := 1) dX13_playOf_67 (mk0 rfl) rfl) (bind_cg2 fun x67 hx67 => ?_)
  have hx67 := fR_isR hx67
  refine Eq.trans (q_iconst (v := 0) dX13_playOf_70 (mk0 rfl) rfl) ?_
  refine Eq.trans (q_iaload dX13_playOf_71 (mk0 rfl) (no_ext hx67)) (bind_cg fun x71 => ?_)
  refine Eq.trans (q_irem dX13_playOf_72 (mk0 rfl)) (ite_cg rfl ?_)
  refine Eq.trans (q_istore (lv2 := [some (.ref o), some (.int i1), some (.int i2), some (.int i3), some (.int i4), none, some (.int (i6 / x57)), some (.int i7), none, some (.int i9), some (.int t0), some (.int (iRem (i4 / (i6 / x57)) x71))]) dX13_playOf_73 (mk0 rfl) (Nat.le_of_ble_eq_true rfl) rfl) ?_
  refine Eq.trans (q_iload dX13_playOf_75 (mk0 rfl) rfl) ?_
  refine Eq.trans (q_aload_n dX13_playOf_77 (mk0 rfl) rfl rfl) ?_
  refine Eq.trans (q_getR (ci := 13) (k := 2) dX13_playOf_78 (mk0 rfl) rfl) (bind_cg2 fun x78 hx78 => ?_)
  have hx78 := fR_isR hx78
  refine Eq.trans (q_iload dX13_playOf_81 (mk0 rfl) rfl) ?_
  refine Eq.trans (q_iaload dX13_playOf_83 (mk0 rfl) (no_ext hx78)) (bind_cg fun x83 => ?_)
  refine Eq.trans (q_icmp_eq (t := 107) dX13_playOf_84 (mk0 rfl) rfl) (ite_cg ?_ ?_)
  · rfl
  · refine Eq.trans (q_aload_n dX13_playOf_87 (mk0 rfl) rfl rfl) ?_
    refine Eq.trans (q_getR (ci := 13) (k := 9) dX13_playOf_88 (mk0 rfl) rfl) (bind_cg2 fun x88 hx88 => ?_)
    have hx88 := fR_isR hx88
    refine Eq.trans (q_aload_n dX13_playOf_91 (mk0 rfl) rfl rfl) ?_
    refine Eq.trans (q_getR (ci := 13) (k := 2) dX13_playOf_92 (mk0 rfl) rfl) (bind_cg2 fun x92 hx92 => ?_)
    have hx92 := fR_isR hx92
    refine Eq.trans (q_iload dX13_playOf_95 (mk0 rfl) rfl) ?_
    refine Eq.trans (q_iaload dX13_playOf_97 (mk0 rfl) (no_ext hx92)) (bind_cg fun x97 => ?_)
    refine Eq.trans (q_iaload dX13_playOf_98 (mk0 rfl) (no_ext hx88)) (bind_cg fun x98 => ?_)
    refine Eq.trans (q_iload dX13_playOf_99 (mk0 rfl) rfl) ?_
    refine Eq.trans (q_callS (as := [.int x98, .int (iRem (i4 / (i6 / x57)) x71)]) dX13_playOf_101 (mk0 rfl) rfl (Or.inl rfl) rfl rfl (Nat.le_of_ble_eq_true rfl) (Nat.le_of_ble_eq_true rfl)) ?_
    refine Eq.trans (cI_bind (Or.inr rfl)) (bind_cg fun p101 => ?_)
    show RS (ZZ L xs) (d + 1) mX13_playOf 104 [some (.ref o), some (.int i1), some (.int i2), some (.int i3), some (.int i4), none, some (.int (i6 / x57)), some (.int i7), none, some (.int i9), some (.int t0), some (.int (iRem (i4 / (i6 / x57)) x71))] [.int p101.2] p101.1 = _
    refine Eq.trans (q_if_eq (t := 111) dX13_playOf_104 (mk0 rfl) rfl) (ite_cg ?_ ?_)
    · refine Eq.trans (q_iconst (v := 0) dX13_playOf_111 (mk0 rfl) rfl) ?_
      rfl
    · rfl
set_option maxRecDepth 20000 in
theorem bX13_playOf_107 {L : Nat} {xs : Nat → Int32} (d : Nat) (o : Nat) (i1 : Int32) (i2 : Int32) (i3 : Int32) (i4 : Int32) (u5 : Option Value) (i6 : Int32) (i7 : Int32) (u8 : Option Value) (i9 : Int32) (i10 : Int32) (i11 : Int32) (ph : PH) : RS (ZZ L xs) (d + 1) mX13_playOf 107 [some (.ref o), some (.int i1), some (.int i2), some (.int i3), some (.int i4), u5, some (.int i6), some (.int i7), u8, some (.int i9), some (.int i10), some (.int i11)] [] ph = RS (ZZ L xs) (d + 1) mX13_playOf 112 [some (.ref o), some (.int i1), some (.int i2), some (.int i3), some (.int i4), none, some (.int i6), some (.int i7), none, some (.int i9), some (.int i10), some (.int i11)] [.int 1] ph := by
  refine Eq.trans (q_iconst (v := 1) dX13_playOf_107 (show mK mX13_playOf 107 [some (.ref o), some (.int i1), some (.int i2), some (.int i3), some (.int i4), u5, some (.int i6), some (.int i7), u8, some (.int i9), some (.int i10), some (.int i11)] = [some (.ref o), some (.int i1), some (.int i2), some (.int i3), some (.int i4), none, some (.int i6), some (.int i7), none, some (.int i9), some (.int i10), some (.int i11)] from rfl) rfl) ?_
  refine Eq.trans (q_goto (t := 112) dX13_playOf_108 (mk0 rfl) rfl) ?_
  rfl
set_option maxRecDepth 20000 in
theorem bX13_playOf_112 {L : Nat} {xs : Nat → Int32} (d : Nat) (o : Nat) (i1 : Int32) (i2 : Int32) (i3 : Int32) (i4 : Int32) (u5 : Option Value) (i6 : Int32) (i7 : Int32) (u8 : Option Value) (i9 : Int32) (i10 : Int32) (i11 : Int32) (t0 : Int32) (ph : PH) : RS (ZZ L xs) (d + 1) mX13_playOf 112 [some (.ref o), some (.int i1), some (.int i2), some (.int i3), some (.int i4), u5, some (.int i6), some (.int i7), u8, some (.int i9), some (.int i10), some (.int i11)] [.int t0] ph = if (t0 : Int32) = 0 then RS (ZZ L xs) (d + 1) mX13_playOf 133 [some (.ref o), some (.int i1), some (.int i2), some (.int i3), some (.int i4), none, some (.int i6), some (.int i7), some (.int t0), some (.int i9), some (.int i10), some (.int i11)] [] ph else (fR ph (.ref o) 13 2).bind fun x120 => (wI ph x120 i10 i11).bind fun h127 => (iO h127 (.ref o) 13).bind fun b129 => (cI (ZZ L xs) d mX13_goes [.ref b129] h127).bind fun p129 => RS (ZZ L xs) (d + 1) mX13_playOf 133 [some (.ref o), some (.int i1), some (.int i2), some (.int i3), some (.int i4), none, some (.int i6), some (.int i7), some (.int t0), some (.int i9), some (.int i10), some (.int i11)] [] p129.1 := by
  refine Eq.trans (q_istore (lv2 := [some (.ref o), some (.int i1), some (.int i2), some (.int i3), some (.int i4), none, some (.int i6), some (.int i7), some (.int t0), some (.int i9), some (.int i10), some (.int i11)]) dX13_playOf_112 (show mK mX13_playOf 112 [some (.ref o), some (.int i1), some (.int i2), some (.int i3), some (.int i4), u5, some (.int i6), some (.int i7), u8, some (.int i9), some (.int i10), some (.int i11)] = [some (.ref o), some (.int i1), some (.int i2), some (.int i3), some (.int i4), none, some (.int i6), some (.int i7), none, some (.int i9), some (.int i10), some (.int i11)] from rfl) (Nat.le_of_ble_eq_true rfl) rfl) ?_
  refine Eq.trans (q_iload dX13_playOf_114 (mk0 rfl) rfl) ?_
  refine Eq.trans (q_if_eq (t := 133) dX13_playOf_116 (mk0 rfl) rfl) (ite_cg ?_ ?_)
  · rfl
  · refine Eq.trans (q_aload_n dX13_playOf_119 (mk0 rfl) rfl rfl) ?_
    refine Eq.trans (q_getR (ci := 13) (k := 2) dX13_playOf_120 (mk0 rfl) rfl) (bind_cg2 fun x120 hx120 => ?_)
    have hx120 := fR_isR hx120
    refine Eq.trans (q_iload dX13_playOf_123 (mk0 rfl) rfl) ?_
    refine Eq.trans (q_iload dX13_playOf_125 (mk0 rfl) rfl) ?_
    refine Eq.trans (q_iastore dX13_playOf_127 (mk0 rfl)) (bind_cg fun h127 => ?_)
    refine Eq.trans (q_aload_n dX13_playOf_128 (mk0 rfl) rfl rfl) ?_
    refine Eq.trans (q_callV (as := []) dX13_playOf_129 (mk0 rfl) rfl rfl rfl (Nat.le_of_ble_eq_true rfl) (Nat.le_of_ble_eq_true rfl)) (bind_cg fun b129 => ?_)
    refine Eq.trans (cI_bind (Or.inl rfl)) (bind_cg fun p129 => ?_)
    show RS (ZZ L xs) (d + 1) mX13_playOf 132 [some (.ref o), some (.int i1), some (.int i2), some (.int i3), some (.int i4), none, some (.int i6), some (.int i7), some (.int t0), some (.int i9), some (.int i10), some (.int i11)] [.int p129.2] p129.1 = _
    refine Eq.trans (q_pop dX13_playOf_132 (mk0 rfl) rfl) ?_
    rfl
set_option maxRecDepth 20000 in
theorem bX13_playOf_133 {L : Nat} {xs : Nat → Int32} (d : Nat) (o : Nat) (i1 : Int32) (i2 : Int32) (i3 : Int32) (i4 : Int32) (u5 : Option Value) (i6 : Int32) (i7 : Int32) (i8 : Int32) (i9 : Int32) (u10 : Option Value) (u11 : Option Value) (ph : PH) : RS (ZZ L xs) (d + 1) mX13_playOf 133 [some (.ref o), some (.int i1), some (.int i2), some (.int i3), some (.int i4), u5, some (.int i6), some (.int i7), some (.int i8), some (.int i9), u10, u11] [] ph = RS (ZZ L xs) (d + 1) mX13_playOf 25 [some (.ref o), some (.int i1), some (.int i2), some (.int i3), some (.int i4), none, some (.int i6), some (.int i7), some (.int i8), some (.int (i9 + 1)), none, none] [] ph := by
  refine Eq.trans (q_iinc (v := 1) (lv2 := [some (.ref o), some (.int i1), some (.int i2), some (.int i3), some (.int i4), none, some (.int i6), some (.int i7), some (.int i8), some (.int (i9 + 1)), none, none]) dX13_playOf_133 (show mK mX13_playOf 133 [some (.ref o), some (.int i1), some (.int i2), some (.int i3), some (.int i4), u5, some (.int i6), some (.int i7), some (.int i8), some (.int i9), u10, u11] = [some (.ref o), some (.int i1), some (.int i2), some (.int i3), some (.int i4), none, some (.int i6), some (.int i7), some (.int i8), some (.int i9), none, none] from rfl) rfl rfl rfl) ?_
  refine Eq.trans (q_goto (t := 25) dX13_playOf_136 (mk0 rfl) rfl) ?_
  rfl
set_option maxRecDepth 20000 in
theorem bX13_playOf_139 {L : Nat} {xs : Nat → Int32} (d : Nat) (o : Nat) (i1 : Int32) (i2 : Int32) (u3 : Option Value) (u4 : Option Value) (u5 : Option Value) (u6 : Option Value) (i7 : Int32) (i8 : Int32) (u9 : Option Value) (u10 : Option Value) (u11 : Option Value) (ph : PH) : RS (ZZ L xs) (d + 1) mX13_playOf 139 [some (.ref o), some (.int i1), some (.int i2), u3, u4, u5, u6, some (.int i7), some (.int i8), u9, u10, u11] [] ph = if (i8 : Int32) = 0 then RS (ZZ L xs) (d + 1) mX13_playOf 166 [some (.ref o), some (.int i1), some (.int i2), none, none, none, none, some (.int i7), some (.int i8), none, none, none] [.int ((-100000))] ph else (fR ph (.ref o) 13 5).bind fun x145 => (eI ph x145 i1).bind fun x149 => (fR ph (.ref o) 13 5).bind fun x151 => (eI ph x151 i2).bind fun x155 => RS (ZZ L xs) (d + 1) mX13_playOf 166 [some (.ref o), some (.int i1), some (.int i2), none, none, none, none, some (.int i7), some (.int i8), none, none, none] [.int ((x149 - x155) - i7)] ph := by
  refine Eq.trans (q_iload dX13_playOf_139 (show mK mX13_playOf 139 [some (.ref o), some (.int i1), some (.int i2), u3, u4, u5, u6, some (.int i7), some (.int i8), u9, u10, u11] = [some (.ref o), some (.int i1), some (.int i2), none, none, none, none, some (.int i7), some (.int i8), none, none, none] from rfl) rfl) ?_
  refine Eq.trans (q_if_eq (t := 163) dX13_playOf_141 (mk0 rfl) rfl) (ite_cg ?_ ?_)
  · refine Eq.trans (q_ldcwI (v := (-100000)) dX13_playOf_163 (mk0 rfl) rfl) ?_
    rfl
  · refine Eq.trans (q_aload_n dX13_playOf_144 (mk0 rfl) rfl rfl) ?_
    refine Eq.trans (q_getR (ci := 13) (k := 5) dX13_playOf_145 (mk0 rfl) rfl) (bind_cg2 fun x145 hx145 => ?_)
    have hx145 := fR_isR hx145
    refine Eq.trans (q_iload_n dX13_playOf_148 (mk0 rfl) rfl) ?_
    refine Eq.trans (q_iaload dX13_playOf_149 (mk0 rfl) (no_ext hx145)) (bind_cg fun x149 => ?_)
    refine Eq.trans (q_aload_n dX13_playOf_150 (mk0 rfl) rfl rfl) ?_
    refine Eq.trans (q_getR (ci := 13) (k := 5) dX13_playOf_151 (mk0 rfl) rfl) (bind_cg2 fun x151 hx151 => ?_)
    have hx151 := fR_isR hx151
    refine Eq.trans (q_iload_n dX13_playOf_154 (mk0 rfl) rfl) ?_
    refine Eq.trans (q_iaload dX13_playOf_155 (mk0 rfl) (no_ext hx151)) (bind_cg fun x155 => ?_)
    refine Eq.trans (q_isub dX13_playOf_156 (mk0 rfl)) ?_
    refine Eq.trans (q_iload dX13_playOf_157 (mk0 rfl) rfl) ?_
    refine Eq.trans (q_isub dX13_playOf_159 (mk0 rfl)) ?_
    refine Eq.trans (q_goto (t := 166) dX13_playOf_160 (mk0 rfl) rfl) ?_
    rfl
set_option maxRecDepth 20000 in
theorem bX13_playOf_166 {L : Nat} {xs : Nat → Int32} (d : Nat) (o : Nat) (u1 : Option Value) (u2 : Option Value) (u3 : Option Value) (u4 : Option Value) (u5 : Option Value) (u6 : Option Value) (u7 : Option Value) (u8 : Option Value) (u9 : Option Value) (u10 : Option Value) (u11 : Option Value) (t0 : Int32) (ph : PH) : RS (ZZ L xs) (d + 1) mX13_playOf 166 [some (.ref o), u1, u2, u3, u4, u5, u6, u7, u8, u9, u10, u11] [.int t0] ph = (iO ph (.ref o) 13).bind fun b169 => (cV (ZZ L xs) d mX13_laysBack [.ref b169] ph).bind fun p169 => some (p169, some (.int t0)) := by
  refine Eq.trans (q_istore (lv2 := [some (.ref o), none, none, none, none, none, none, none, none, some (.int t0), none, none]) dX13_playOf_166 (show mK mX13_playOf 166 [some (.ref o), u1, u2, u3, u4, u5, u6, u7, u8, u9, u10, u11] = [some (.ref o), none, none, none, none, none, none, none, none, none, none, none] from rfl) (Nat.le_of_ble_eq_true rfl) rfl) ?_
  refine Eq.trans (q_aload_n dX13_playOf_168 (mk0 rfl) rfl rfl) ?_
  refine Eq.trans (q_callV (as := []) dX13_playOf_169 (mk0 rfl) rfl rfl rfl (Nat.le_of_ble_eq_true rfl) (Nat.le_of_ble_eq_true rfl)) (bind_cg fun b169 => ?_)
  refine Eq.trans (cV_bind rfl) (bind_cg fun p169 => ?_)
  show RS (ZZ L xs) (d + 1) mX13_playOf 172 [some (.ref o), none, none, none, none, none, none, none, none, some (.int t0), none, none] [] p169 = _
  refine Eq.trans (q_iload dX13_playOf_172 (mk0 rfl) rfl) ?_
  exact q_ireturn dX13_playOf_174 (mk0 rfl) rfl
set_option maxRecDepth 20000 in
theorem bX13_bestAt_0 {L : Nat} {xs : Nat → Int32} (d : Nat) (o : Nat) (i1 : Int32) (i2 : Int32) (i3 : Int32) (ph : PH) : RS (ZZ L xs) (d + 1) mX13_bestAt 0 [some (.ref o), some (.int i1), some (.int i2), some (.int i3), none, none, none] [] ph = RS (ZZ L xs) (d + 1) mX13_bestAt 8 [some (.ref o), some (.int i1), some (.int i2), some (.int i3), some (.int i1), some (.int (i1 + 1)), none] [] ph := by
  refine Eq.trans (q_iload_n dX13_bestAt_0 (mk0 rfl) rfl) ?_
  refine Eq.trans (q_istore (lv2 := [some (.ref o), some (.int i1), some (.int i2), some (.int i3), some (.int i1), none, none]) dX13_bestAt_1 (mk0 rfl) (Nat.le_of_ble_eq_true rfl) rfl) ?_
  refine Eq.trans (q_iload_n dX13_bestAt_3 (mk0 rfl) rfl) ?_
  refine Eq.trans (q_iconst (v := 1) dX13_bestAt_4 (mk0 rfl) rfl) ?_
  refine Eq.trans (q_iadd dX13_bestAt_5 (mk0 rfl)) ?_
  refine Eq.trans (q_istore (lv2 := [some (.ref o), some (.int i1), some (.int i2), some (.int i3), some (.int i1), some (.int (i1 + 1)), none]) dX13_bestAt_6 (mk0 rfl) (Nat.le_of_ble_eq_true rfl) rfl) ?_
  rfl
set_option maxRecDepth 20000 in
theorem bX13_bestAt_8 {L : Nat} {xs : Nat → Int32} (d : Nat) (o : Nat) (i1 : Int32) (i2 : Int32) (i3 : Int32) (i4 : Int32) (i5 : Int32) (u6 : Option Value) (ph : PH) : RS (ZZ L xs) (d + 1) mX13_bestAt 8 [some (.ref o), some (.int i1), some (.int i2), some (.int i3), some (.int i4), some (.int i5), u6] [] ph = if (i1 + i2 : Int32) ≤ i5 then some (ph, some (.int i4)) else if (i3 : Int32) = 0 then (fR ph (.ref o) 13 54).bind fun x46 => (eI ph x46 i5).bind fun x51 => (fR ph (.ref o) 13 54).bind fun x53 => (eI ph x53 i4).bind fun x58 => if (x58 : Int32) ≤ x51 then RS (ZZ L xs) (d + 1) mX13_bestAt 67 [some (.ref o), some (.int i1), some (.int i2), some (.int i3), some (.int i4), some (.int i5), none] [.int 0] ph else RS (ZZ L xs) (d + 1) mX13_bestAt 67 [some (.ref o), some (.int i1), some (.int i2), some (.int i3), some (.int i4), some (.int i5), none] [.int 1] ph else (fR ph (.ref o) 13 54).bind fun x21 => (eI ph x21 i5).bind fun x26 => (fR ph (.ref o) 13 54).bind fun x28 => (eI ph x28 i4).bind fun x33 => if (x26 : Int32) ≤ x33 then RS (ZZ L xs) (d + 1) mX13_bestAt 67 [some (.ref o), some (.int i1), some (.int i2), some (.int i3), some (.int i4), some (.int i5), none] [.int 0] ph else RS (ZZ L xs) (d + 1) mX13_bestAt 67 [some (.ref o), some (.int i1), some (.int i2), some (.int i3), some (.int i4), some (.int i5), none] [.int 1] ph := by
  refine Eq.trans (q_iload dX13_bestAt_8 (show mK mX13_bestAt 8 [some (.ref o), some (.int i1), some (.int i2), some (.int i3), some (.int i4), some (.int i5), u6] = [some (.ref o), some (.int i1), some (.int i2), some (.int i3), some (.int i4), some (.int i5), none] from rfl) rfl) ?_
  refine Eq.trans (q_iload_n dX13_bestAt_10 (mk0 rfl) rfl) ?_
  refine Eq.trans (q_iload_n dX13_bestAt_11 (mk0 rfl) rfl) ?_
  refine Eq.trans (q_iadd dX13_bestAt_12 (mk0 rfl)) ?_
  refine Eq.trans (q_icmp_ge (t := 110) dX13_bestAt_13 (mk0 rfl) rfl) (ite_cg ?_ ?_)
  · refine Eq.trans (q_iload dX13_bestAt_110 (mk0 rfl) rfl) ?_
    exact q_ireturn dX13_bestAt_112 (mk0 rfl) rfl
  · refine Eq.trans (q_iload_n dX13_bestAt_16 (mk0 rfl) rfl) ?_
    refine Eq.trans (q_if_eq (t := 45) dX13_bestAt_17 (mk0 rfl) rfl) (ite_cg ?_ ?_)
    · refine Eq.trans (q_aload_n dX13_bestAt_45 (mk0 rfl) rfl rfl) ?_
      refine Eq.trans (q_getR (ci := 13) (k := 54) dX13_bestAt_46 (mk0 rfl) rfl) (bind_cg2 fun x46 hx46 => ?_)
      have hx46 := fR_isR hx46
      refine Eq.trans (q_iload dX13_bestAt_49 (mk0 rfl) rfl) ?_
      refine Eq.trans (q_iaload dX13_bestAt_51 (mk0 rfl) (no_ext hx46)) (bind_cg fun x51 => ?_)
      refine Eq.trans (q_aload_n dX13_bestAt_52 (mk0 rfl) rfl rfl) ?_
      refine Eq.trans (q_getR (ci := 13) (k := 54) dX13_bestAt_53 (mk0 rfl) rfl) (bind_cg2 fun x53 hx53 => ?_)
      have hx53 := fR_isR hx53
      refine Eq.trans (q_iload dX13_bestAt_56 (mk0 rfl) rfl) ?_
      refine Eq.trans (q_iaload dX13_bestAt_58 (mk0 rfl) (no_ext hx53)) (bind_cg fun x58 => ?_)
      refine Eq.trans (q_icmp_ge (t := 66) dX13_bestAt_59 (mk0 rfl) rfl) (ite_cg ?_ ?_)
      · refine Eq.trans (q_iconst (v := 0) dX13_bestAt_66 (mk0 rfl) rfl) ?_
        rfl
      · refine Eq.trans (q_iconst (v := 1) dX13_bestAt_62 (mk0 rfl) rfl) ?_
        refine Eq.trans (q_goto (t := 67) dX13_bestAt_63 (mk0 rfl) rfl) ?_
        rfl
    · refine Eq.trans (q_aload_n dX13_bestAt_20 (mk0 rfl) rfl rfl) ?_
      refine Eq.trans (q_getR (ci := 13) (k := 54) dX13_bestAt_21 (mk0 rfl) rfl) (bind_cg2 fun x21 hx21 => ?_)
      have hx21 := fR_isR hx21
      refine Eq.trans (q_iload dX13_bestAt_24 (mk0 rfl) rfl) ?_
      refine Eq.trans (q_iaload dX13_bestAt_26 (mk0 rfl) (no_ext hx21)) (bind_cg fun x26 => ?_)
      refine Eq.trans (q_aload_n dX13_bestAt_27 (mk0 rfl) rfl rfl) ?_
      refine Eq.trans (q_getR (ci := 13) (k := 54) dX13_bestAt_28 (mk0 rfl) rfl) (bind_cg2 fun x28 hx28 => ?_)
      have hx28 := fR_isR hx28
      refine Eq.trans (q_iload dX13_bestAt_31 (mk0 rfl) rfl) ?_
      refine Eq.trans (q_iaload dX13_bestAt_33 (mk0 rfl) (no_ext hx28)) (bind_cg fun x33 => ?_)
      refine Eq.trans (q_icmp_le (t := 41) dX13_bestAt_34 (mk0 rfl) rfl) (ite_cg ?_ ?_)
      · refine Eq.trans (q_iconst (v := 0) dX13_bestAt_41 (mk0 rfl) rfl) ?_
        refine Eq.trans (q_goto (t := 67) dX13_bestAt_42 (mk0 rfl) rfl) ?_
        rfl
      · refine Eq.trans (q_iconst (v := 1) dX13_bestAt_37 (mk0 rfl) rfl) ?_
        refine Eq.trans (q_goto (t := 67) dX13_bestAt_38 (mk0 rfl) rfl) ?_
        rfl
set_option maxRecDepth 20000 in
theorem bX13_bestAt_67 {L : Nat} {xs : Nat → Int32} (d : Nat) (o : Nat) (i1 : Int32) (i2 : Int32) (i3 : Int32) (i4 : Int32) (i5 : Int32) (u6 : Option Value) (t0 : Int32) (ph : PH) : RS (ZZ L xs) (d + 1) mX13_bestAt 67 [some (.ref o), some (.int i1), some (.int i2), some (.int i3), some (.int i4), some (.int i5), u6] [.int t0] ph = (fR ph (.ref o) 13 54).bind fun x70 => (eI ph x70 i5).bind fun x75 => if (x75 : Int32) = (-100000) then RS (ZZ L xs) (d + 1) mX13_bestAt 104 [some (.ref o), some (.int i1), some (.int i2), some (.int i3), some (.int i4), some (.int i5), some (.int t0)] [] ph else (fR ph (.ref o) 13 54).bind fun x83 => (eI ph x83 i4).bind fun x88 => if (x88 : Int32) = (-100000) then RS (ZZ L xs) (d + 1) mX13_bestAt 100 [some (.ref o), some (.int i1), some (.int i2), some (.int i3), some (.int i4), some (.int i5), some (.int t0)] [] ph else if (t0 : Int32) = 0 then RS (ZZ L xs) (d + 1) mX13_bestAt 104 [some (.ref o), some (.int i1), some (.int i2), some (.int i3), some (.int i4), some (.int i5), some (.int t0)] [] ph else RS (ZZ L xs) (d + 1) mX13_bestAt 100 [some (.ref o), some (.int i1), some (.int i2), some (.int i3), some (.int i4), some (.int i5), some (.int t0)] [] ph := by
  refine Eq.trans (q_istore (lv2 := [some (.ref o), some (.int i1), some (.int i2), some (.int i3), some (.int i4), some (.int i5), some (.int t0)]) dX13_bestAt_67 (show mK mX13_bestAt 67 [some (.ref o), some (.int i1), some (.int i2), some (.int i3), some (.int i4), some (.int i5), u6] = [some (.ref o), some (.int i1), some (.int i2), some (.int i3), some (.int i4), some (.int i5), none] from rfl) (Nat.le_of_ble_eq_true rfl) rfl) ?_
  refine Eq.trans (q_aload_n dX13_bestAt_69 (mk0 rfl) rfl rfl) ?_
  refine Eq.trans (q_getR (ci := 13) (k := 54) dX13_bestAt_70 (mk0 rfl) rfl) (bind_cg2 fun x70 hx70 => ?_)
  have hx70 := fR_isR hx70
  refine Eq.trans (q_iload dX13_bestAt_73 (mk0 rfl) rfl) ?_
  refine Eq.trans (q_iaload dX13_bestAt_75 (mk0 rfl) (no_ext hx70)) (bind_cg fun x75 => ?_)
  refine Eq.trans (q_ldcwI (v := (-100000)) dX13_bestAt_76 (mk0 rfl) rfl) ?_
  refine Eq.trans (q_icmp_eq (t := 104) dX13_bestAt_79 (mk0 rfl) rfl) (ite_cg ?_ ?_)
  · rfl
  · refine Eq.trans (q_aload_n dX13_bestAt_82 (mk0 rfl) rfl rfl) ?_
    refine Eq.trans (q_getR (ci := 13) (k := 54) dX13_bestAt_83 (mk0 rfl) rfl) (bind_cg2 fun x83 hx83 => ?_)
    have hx83 := fR_isR hx83
    refine Eq.trans (q_iload dX13_bestAt_86 (mk0 rfl) rfl) ?_
    refine Eq.trans (q_iaload dX13_bestAt_88 (mk0 rfl) (no_ext hx83)) (bind_cg fun x88 => ?_)
    refine Eq.trans (q_ldcwI (v := (-100000)) dX13_bestAt_89 (mk0 rfl) rfl) ?_
    refine Eq.trans (q_icmp_eq (t := 100) dX13_bestAt_92 (mk0 rfl) rfl) (ite_cg ?_ ?_)
    · rfl
    · refine Eq.trans (q_iload dX13_bestAt_95 (mk0 rfl) rfl) ?_
      refine Eq.trans (q_if_eq (t := 104) dX13_bestAt_97 (mk0 rfl) rfl) (ite_cg ?_ ?_)
      · rfl
      · rfl
set_option maxRecDepth 20000 in
theorem bX13_bestAt_100 {L : Nat} {xs : Nat → Int32} (d : Nat) (o : Nat) (i1 : Int32) (i2 : Int32) (i3 : Int32) (u4 : Option Value) (i5 : Int32) (u6 : Option Value) (ph : PH) : RS (ZZ L xs) (d + 1) mX13_bestAt 100 [some (.ref o), some (.int i1), some (.int i2), some (.int i3), u4, some (.int i5), u6] [] ph = RS (ZZ L xs) (d + 1) mX13_bestAt 104 [some (.ref o), some (.int i1), some (.int i2), some (.int i3), some (.int i5), some (.int i5), none] [] ph := by
  refine Eq.trans (q_iload dX13_bestAt_100 (show mK mX13_bestAt 100 [some (.ref o), some (.int i1), some (.int i2), some (.int i3), u4, some (.int i5), u6] = [some (.ref o), some (.int i1), some (.int i2), some (.int i3), none, some (.int i5), none] from rfl) rfl) ?_
  refine Eq.trans (q_istore (lv2 := [some (.ref o), some (.int i1), some (.int i2), some (.int i3), some (.int i5), some (.int i5), none]) dX13_bestAt_102 (mk0 rfl) (Nat.le_of_ble_eq_true rfl) rfl) ?_
  rfl
set_option maxRecDepth 20000 in
theorem bX13_bestAt_104 {L : Nat} {xs : Nat → Int32} (d : Nat) (o : Nat) (i1 : Int32) (i2 : Int32) (i3 : Int32) (i4 : Int32) (i5 : Int32) (u6 : Option Value) (ph : PH) : RS (ZZ L xs) (d + 1) mX13_bestAt 104 [some (.ref o), some (.int i1), some (.int i2), some (.int i3), some (.int i4), some (.int i5), u6] [] ph = RS (ZZ L xs) (d + 1) mX13_bestAt 8 [some (.ref o), some (.int i1), some (.int i2), some (.int i3), some (.int i4), some (.int (i5 + 1)), none] [] ph := by
  refine Eq.trans (q_iinc (v := 1) (lv2 := [some (.ref o), some (.int i1), some (.int i2), some (.int i3), some (.int i4), some (.int (i5 + 1)), none]) dX13_bestAt_104 (show mK mX13_bestAt 104 [some (.ref o), some (.int i1), some (.int i2), some (.int i3), some (.int i4), some (.int i5), u6] = [some (.ref o), some (.int i1), some (.int i2), some (.int i3), some (.int i4), some (.int i5), none] from rfl) rfl rfl rfl) ?_
  refine Eq.trans (q_goto (t := 8) dX13_bestAt_107 (mk0 rfl) rfl) ?_
  rfl
set_option maxRecDepth 20000 in
theorem bX13_game_0 {L : Nat} {xs : Nat → Int32} (d : Nat) (o : Nat) (i1 : Int32) (i2 : Int32) (i3 : Int32) (i4 : Int32) (ph : PH) : RS (ZZ L xs) (d + 1) mX13_game 0 [some (.ref o), some (.int i1), some (.int i2), some (.int i3), some (.int i4), none, none, none, none] [] ph = (iO ph (.ref o) 13).bind fun b2 => (cI (ZZ L xs) d mX13_isPerson [.ref b2, .int i1] ph).bind fun p2 => if (p2.2 : Int32) = 0 then RS (ZZ L xs) (d + 1) mX13_game 44 [some (.ref o), some (.int i1), some (.int i2), some (.int i3), some (.int i4), none, none, none, none] [] p2.1 else (iO p2.1 (.ref o) 13).bind fun b10 => (cI (ZZ L xs) d mX13_isPerson [.ref b10, .int i2] p2.1).bind fun p10 => if (p10.2 : Int32) = 0 then RS (ZZ L xs) (d + 1) mX13_game 44 [some (.ref o), some (.int i1), some (.int i2), some (.int i3), some (.int i4), none, none, none, none] [] p10.1 else if (i1 : Int32) = i2 then RS (ZZ L xs) (d + 1) mX13_game 44 [some (.ref o), some (.int i1), some (.int i2), some (.int i3), some (.int i4), none, none, none, none] [] p10.1 else (cI (ZZ L xs) d mX13_in [.long ((i3 : Int32).toInt64), .long 1, .long 3] p10.1).bind fun p27 => if (p27.2 : Int32) = 0 then RS (ZZ L xs) (d + 1) mX13_game 44 [some (.ref o), some (.int i1), some (.int i2), some (.int i3), some (.int i4), none, none, none, none] [] p27.1 else (cI (ZZ L xs) d mX13_in [.long ((i4 : Int32).toInt64), .long 0, .long 1] p27.1).bind fun p38 => if ¬ (p38.2 : Int32) = 0 then (fR p38.1 (.ref o) 13 1).bind fun x49 => (eI p38.1 x49 0).bind fun x53 => RS (ZZ L xs) (d + 1) mX13_game 62 [some (.ref o), some (.int i1), some (.int i2), some (.int i3), some (.int i4), some (.int x53), some (.int 1), some (.int 0), none] [] p38.1 else RS (ZZ L xs) (d + 1) mX13_game 44 [some (.ref o), some (.int i1), some (.int i2), some (.int i3), some (.int i4), none, none, none, none] [] p38.1 := by
  refine Eq.trans (q_aload_n dX13_game_0 (mk0 rfl) rfl rfl) ?_
  refine Eq.trans (q_iload_n dX13_game_1 (mk0 rfl) rfl) ?_
  refine Eq.trans (q_callV (as := [.int i1]) dX13_game_2 (mk0 rfl) rfl rfl rfl (Nat.le_of_ble_eq_true rfl) (Nat.le_of_ble_eq_true rfl)) (bind_cg fun b2 => ?_)
  refine Eq.trans (cI_bind (Or.inr rfl)) (bind_cg fun p2 => ?_)
  show RS (ZZ L xs) (d + 1) mX13_game 5 [some (.ref o), some (.int i1), some (.int i2), some (.int i3), some (.int i4), none, none, none, none] [.int p2.2] p2.1 = _
  refine Eq.trans (q_if_eq (t := 44) dX13_game_5 (mk0 rfl) rfl) (ite_cg ?_ ?_)
  · rfl
  · refine Eq.trans (q_aload_n dX13_game_8 (mk0 rfl) rfl rfl) ?_
    refine Eq.trans (q_iload_n dX13_game_9 (mk0 rfl) rfl) ?_
    refine Eq.trans (q_callV (as := [.int i2]) dX13_game_10 (mk0 rfl) rfl rfl rfl (Nat.le_of_ble_eq_true rfl) (Nat.le_of_ble_eq_true rfl)) (bind_cg fun b10 => ?_)
    refine Eq.trans (cI_bind (Or.inr rfl)) (bind_cg fun p10 => ?_)
    show RS (ZZ L xs) (d + 1) mX13_game 13 [some (.ref o), some (.int i1), some (.int i2), some (.int i3), some (.int i4), none, none, none, none] [.int p10.2] p10.1 = _
    refine Eq.trans (q_if_eq (t := 44) dX13_game_13 (mk0 rfl) rfl) (ite_cg ?_ ?_)
    · rfl
    · refine Eq.trans (q_iload_n dX13_game_16 (mk0 rfl) rfl) ?_
      refine Eq.trans (q_iload_n dX13_game_17 (mk0 rfl) rfl) ?_
      refine Eq.trans (q_icmp_eq (t := 44) dX13_game_18 (mk0 rfl) rfl) (ite_cg ?_ ?_)
      · rfl
      · refine Eq.trans (q_iload_n dX13_game_21 (mk0 rfl) rfl) ?_
        refine Eq.trans (q_i2l dX13_game_22 (mk0 rfl)) ?_
        refine Eq.trans (q_lconst (v := 1) dX13_game_23 (mk0 rfl) rfl) ?_
        refine Eq.trans (q_ldc2 (v := 3) dX13_game_24 (mk0 rfl) rfl) ?_
        refine Eq.trans (q_callS (as := [.long ((i3 : Int32).toInt64), .long 1, .long 3]) dX13_game_27 (mk0 rfl) rfl (Or.inl rfl) rfl rfl (Nat.le_of_ble_eq_true rfl) (Nat.le_of_ble_eq_true rfl)) ?_
        refine Eq.trans (cI_bind (Or.inr rfl)) (bind_cg fun p27 => ?_)
        show RS (ZZ L xs) (d + 1) mX13_game 30 [some (.ref o), some (.int i1), some (.int i2), some (.int i3), some (.int i4), none, none, none, none] [.int p27.2] p27.1 = _
        refine Eq.trans (q_if_eq (t := 44) dX13_game_30 (mk0 rfl) rfl) (ite_cg ?_ ?_)
        · rfl
        · refine Eq.trans (q_iload dX13_game_33 (mk0 rfl) rfl) ?_
          refine Eq.trans (q_i2l dX13_game_35 (mk0 rfl)) ?_
          refine Eq.trans (q_lconst (v := 0) dX13_game_36 (mk0 rfl) rfl) ?_
          refine Eq.trans (q_lconst (v := 1) dX13_game_37 (mk0 rfl) rfl) ?_
          refine Eq.trans (q_callS (as := [.long ((i4 : Int32).toInt64), .long 0, .long 1]) dX13_game_38 (mk0 rfl) rfl (Or.inl rfl) rfl rfl (Nat.le_of_ble_eq_true rfl) (Nat.le_of_ble_eq_true rfl)) ?_
          refine Eq.trans (cI_bind (Or.inr rfl)) (bind_cg fun p38 => ?_)
          show RS (ZZ L xs) (d + 1) mX13_game 41 [some (.ref o), some (.int i1), some (.int i2), some (.int i3), some (.int i4), none, none, none, none] [.int p38.2] p38.1 = _
          refine Eq.trans (q_if_ne (t := 48) dX13_game_41 (mk0 rfl) rfl) (ite_cg ?_ ?_)
          · refine Eq.trans (q_aload_n dX13_game_48 (mk0 rfl) rfl rfl) ?_
            refine Eq.trans (q_getR (ci := 13) (k := 1) dX13_game_49 (mk0 rfl) rfl) (bind_cg2 fun x49 hx49 => ?_)
            have hx49 := fR_isR hx49
            refine Eq.trans (q_iconst (v := 0) dX13_game_52 (mk0 rfl) rfl) ?_
            refine Eq.trans (q_iaload dX13_game_53 (mk0 rfl) (no_ext hx49)) (bind_cg fun x53 => ?_)
            refine Eq.trans (q_istore (lv2 := [some (.ref o), some (.int i1), some (.int i2), some (.int i3), some (.int i4), some (.int x53), none, none, none]) dX13_game_54 (mk0 rfl) (Nat.le_of_ble_eq_true rfl) rfl) ?_
            refine Eq.trans (q_iconst (v := 1) dX13_game_56 (mk0 rfl) rfl) ?_
            refine Eq.trans (q_istore (lv2 := [some (.ref o), some (.int i1), some (.int i2), some (.int i3), some (.int i4), some (.int x53), some (.int 1), none, none]) dX13_game_57 (mk0 rfl) (Nat.le_of_ble_eq_true rfl) rfl) ?_
            refine Eq.trans (q_iconst (v := 0) dX13_game_59 (mk0 rfl) rfl) ?_
            refine Eq.trans (q_istore (lv2 := [some (.ref o), some (.int i1), some (.int i2), some (.int i3), some (.int i4), some (.int x53), some (.int 1), some (.int 0), none]) dX13_game_60 (mk0 rfl) (Nat.le_of_ble_eq_true rfl) rfl) ?_
            rfl
          · rfl
set_option maxRecDepth 20000 in
theorem bX13_game_44 {L : Nat} {xs : Nat → Int32} (d : Nat) (u0 : Option Value) (u1 : Option Value) (u2 : Option Value) (u3 : Option Value) (u4 : Option Value) (u5 : Option Value) (u6 : Option Value) (u7 : Option Value) (u8 : Option Value) (ph : PH) : RS (ZZ L xs) (d + 1) mX13_game 44 [u0, u1, u2, u3, u4, u5, u6, u7, u8] [] ph = some (ph, some (.int ((-1000)))) := by
  refine Eq.trans (q_sipush (v := (-1000)) dX13_game_44 (show mK mX13_game 44 [u0, u1, u2, u3, u4, u5, u6, u7, u8] = [none, none, none, none, none, none, none, none, none] from rfl) rfl) ?_
  exact q_ireturn dX13_game_47 (mk0 rfl) rfl
set_option maxRecDepth 20000 in
theorem bX13_game_62 {L : Nat} {xs : Nat → Int32} (d : Nat) (o : Nat) (i1 : Int32) (i2 : Int32) (i3 : Int32) (i4 : Int32) (i5 : Int32) (i6 : Int32) (i7 : Int32) (u8 : Option Value) (ph : PH) : RS (ZZ L xs) (d + 1) mX13_game 62 [some (.ref o), some (.int i1), some (.int i2), some (.int i3), some (.int i4), some (.int i5), some (.int i6), some (.int i7), u8] [] ph = if (i3 : Int32) ≤ i7 then (iO ph (.ref o) 13).bind fun b82 => (cV (ZZ L xs) d mX13_keepsAll [.ref b82] ph).bind fun p82 => RS (ZZ L xs) (d + 1) mX13_game 88 [some (.ref o), some (.int i1), some (.int i2), some (.int i3), some (.int i4), some (.int i5), some (.int i6), some (.int 0), none] [] p82 else RS (ZZ L xs) (d + 1) mX13_game 62 [some (.ref o), some (.int i1), some (.int i2), some (.int i3), some (.int i4), some (.int i5), some (.int (i6 * i5)), some (.int (i7 + 1)), none] [] ph := by
  refine Eq.trans (q_iload dX13_game_62 (show mK mX13_game 62 [some (.ref o), some (.int i1), some (.int i2), some (.int i3), some (.int i4), some (.int i5), some (.int i6), some (.int i7), u8] = [some (.ref o), some (.int i1), some (.int i2), some (.int i3), some (.int i4), some (.int i5), some (.int i6), some (.int i7), none] from rfl) rfl) ?_
  refine Eq.trans (q_iload_n dX13_game_64 (mk0 rfl) rfl) ?_
  refine Eq.trans (q_icmp_ge (t := 81) dX13_game_65 (mk0 rfl) rfl) (ite_cg ?_ ?_)
  · refine Eq.trans (q_aload_n dX13_game_81 (mk0 rfl) rfl rfl) ?_
    refine Eq.trans (q_callV (as := []) dX13_game_82 (mk0 rfl) rfl rfl rfl (Nat.le_of_ble_eq_true rfl) (Nat.le_of_ble_eq_true rfl)) (bind_cg fun b82 => ?_)
    refine Eq.trans (cV_bind rfl) (bind_cg fun p82 => ?_)
    show RS (ZZ L xs) (d + 1) mX13_game 85 [some (.ref o), some (.int i1), some (.int i2), some (.int i3), some (.int i4), some (.int i5), some (.int i6), some (.int i7), none] [] p82 = _
    refine Eq.trans (q_iconst (v := 0) dX13_game_85 (mk0 rfl) rfl) ?_
    refine Eq.trans (q_istore (lv2 := [some (.ref o), some (.int i1), some (.int i2), some (.int i3), some (.int i4), some (.int i5), some (.int i6), some (.int 0), none]) dX13_game_86 (mk0 rfl) (Nat.le_of_ble_eq_true rfl) rfl) ?_
    rfl
  · refine Eq.trans (q_iload dX13_game_68 (mk0 rfl) rfl) ?_
    refine Eq.trans (q_iload dX13_game_70 (mk0 rfl) rfl) ?_
    refine Eq.trans (q_imul dX13_game_72 (mk0 rfl)) ?_
    refine Eq.trans (q_istore (lv2 := [some (.ref o), some (.int i1), some (.int i2), some (.int i3), some (.int i4), some (.int i5), some (.int (i6 * i5)), some (.int i7), none]) dX13_game_73 (mk0 rfl) (Nat.le_of_ble_eq_true rfl) rfl) ?_
    refine Eq.trans (q_iinc (v := 1) (lv2 := [some (.ref o), some (.int i1), some (.int i2), some (.int i3), some (.int i4), some (.int i5), some (.int (i6 * i5)), some (.int (i7 + 1)), none]) dX13_game_75 (mk0 rfl) rfl rfl rfl) ?_
    refine Eq.trans (q_goto (t := 62) dX13_game_78 (mk0 rfl) rfl) ?_
    rfl
set_option maxRecDepth 20000 in
theorem bX13_game_88 {L : Nat} {xs : Nat → Int32} (d : Nat) (o : Nat) (i1 : Int32) (i2 : Int32) (i3 : Int32) (i4 : Int32) (i5 : Int32) (i6 : Int32) (i7 : Int32) (u8 : Option Value) (ph : PH) : RS (ZZ L xs) (d + 1) mX13_game 88 [some (.ref o), some (.int i1), some (.int i2), some (.int i3), some (.int i4), some (.int i5), some (.int i6), some (.int i7), u8] [] ph = if (i6 : Int32) ≤ i7 then RS (ZZ L xs) (d + 1) mX13_game 124 [some (.ref o), some (.int i1), some (.int i2), some (.int i3), some (.int i4), some (.int i5), some (.int i6), some (.int (i3 - 1)), none] [] ph else (fR ph (.ref o) 13 54).bind fun x96 => (iO ph (.ref o) 13).bind fun b109 => (cI (ZZ L xs) d mX13_playOf [.ref b109, .int i1, .int i2, .int i3, .int i7, .int i6] ph).bind fun p109 => (wI p109.1 x96 i7 p109.2).bind fun h112 => RS (ZZ L xs) (d + 1) mX13_game 88 [some (.ref o), some (.int i1), some (.int i2), some (.int i3), some (.int i4), some (.int i5), some (.int i6), some (.int (i7 + 1)), none] [] h112 := by
  refine Eq.trans (q_iload dX13_game_88 (show mK mX13_game 88 [some (.ref o), some (.int i1), some (.int i2), some (.int i3), some (.int i4), some (.int i5), some (.int i6), some (.int i7), u8] = [some (.ref o), some (.int i1), some (.int i2), some (.int i3), some (.int i4), some (.int i5), some (.int i6), some (.int i7), none] from rfl) rfl) ?_
  refine Eq.trans (q_iload dX13_game_90 (mk0 rfl) rfl) ?_
  refine Eq.trans (q_icmp_ge (t := 119) dX13_game_92 (mk0 rfl) rfl) (ite_cg ?_ ?_)
  · refine Eq.trans (q_iload_n dX13_game_119 (mk0 rfl) rfl) ?_
    refine Eq.trans (q_iconst (v := 1) dX13_game_120 (mk0 rfl) rfl) ?_
    refine Eq.trans (q_isub dX13_game_121 (mk0 rfl)) ?_
    refine Eq.trans (q_istore (lv2 := [some (.ref o), some (.int i1), some (.int i2), some (.int i3), some (.int i4), some (.int i5), some (.int i6), some (.int (i3 - 1)), none]) dX13_game_122 (mk0 rfl) (Nat.le_of_ble_eq_true rfl) rfl) ?_
    rfl
  · refine Eq.trans (q_aload_n dX13_game_95 (mk0 rfl) rfl rfl) ?_
    refine Eq.trans (q_getR (ci := 13) (k := 54) dX13_game_96 (mk0 rfl) rfl) (bind_cg2 fun x96 hx96 => ?_)
    have hx96 := fR_isR hx96
    refine Eq.trans (q_iload dX13_game_99 (mk0 rfl) rfl) ?_
    refine Eq.trans (q_aload_n dX13_game_101 (mk0 rfl) rfl rfl) ?_
    refine Eq.trans (q_iload_n dX13_game_102 (mk0 rfl) rfl) ?_
    refine Eq.trans (q_iload_n dX13_game_103 (mk0 rfl) rfl) ?_
    refine Eq.trans (q_iload_n dX13_game_104 (mk0 rfl) rfl) ?_
    refine Eq.trans (q_iload dX13_game_105 (mk0 rfl) rfl) ?_
    refine Eq.trans (q_iload dX13_game_107 (mk0 rfl) rfl) ?_
    refine Eq.trans (q_callV (as := [.int i1, .int i2, .int i3, .int i7, .int i6]) dX13_game_109 (mk0 rfl) rfl rfl rfl (by simp [catS, ct_i, ct_l, ct_r, ct_n, ct_x, (cat_R hx96)]) (Nat.le_of_ble_eq_true rfl)) (bind_cg fun b109 => ?_)
    refine Eq.trans (cI_bind (Or.inl rfl)) (bind_cg fun p109 => ?_)
    show RS (ZZ L xs) (d + 1) mX13_game 112 [some (.ref o), some (.int i1), some (.int i2), some (.int i3), some (.int i4), some (.int i5), some (.int i6), some (.int i7), none] [.int p109.2, .int i7, x96] p109.1 = _
    refine Eq.trans (q_iastore dX13_game_112 (mk0 rfl)) (bind_cg fun h112 => ?_)
    refine Eq.trans (q_iinc (v := 1) (lv2 := [some (.ref o), some (.int i1), some (.int i2), some (.int i3), some (.int i4), some (.int i5), some (.int i6), some (.int (i7 + 1)), none]) dX13_game_113 (mk0 rfl) rfl rfl rfl) ?_
    refine Eq.trans (q_goto (t := 88) dX13_game_116 (mk0 rfl) rfl) ?_
    rfl
set_option maxRecDepth 20000 in
theorem bX13_game_124 {L : Nat} {xs : Nat → Int32} (d : Nat) (o : Nat) (u1 : Option Value) (u2 : Option Value) (u3 : Option Value) (i4 : Int32) (i5 : Int32) (i6 : Int32) (i7 : Int32) (u8 : Option Value) (ph : PH) : RS (ZZ L xs) (d + 1) mX13_game 124 [some (.ref o), u1, u2, u3, some (.int i4), some (.int i5), some (.int i6), some (.int i7), u8] [] ph = if (i7 : Int32) ≤ 0 then (iO ph (.ref o) 13).bind fun b198 => (cI (ZZ L xs) d mX13_bestAt [.ref b198, .int 0, .int i5, .int 1] ph).bind fun p198 => if ¬ (i4 : Int32) = 0 then RS (ZZ L xs) (d + 1) mX13_game 220 [some (.ref o), none, none, none, some (.int i4), some (.int i5), some (.int i6), some (.int p198.2), none] [.int p198.2] p198.1 else (fR p198.1 (.ref o) 13 54).bind fun x209 => (eI p198.1 x209 p198.2).bind fun x214 => RS (ZZ L xs) (d + 1) mX13_game 220 [some (.ref o), none, none, none, some (.int i4), some (.int i5), some (.int i6), some (.int p198.2), none] [.int x214] p198.1 else if (i5 : Int32) = 0 then none else RS (ZZ L xs) (d + 1) mX13_game 139 [some (.ref o), none, none, none, some (.int i4), some (.int i5), some (.int (i6 / i5)), some (.int i7), some (.int 0)] [] ph := by
  refine Eq.trans (q_iload dX13_game_124 (show mK mX13_game 124 [some (.ref o), u1, u2, u3, some (.int i4), some (.int i5), some (.int i6), some (.int i7), u8] = [some (.ref o), none, none, none, some (.int i4), some (.int i5), some (.int i6), some (.int i7), none] from rfl) rfl) ?_
  refine Eq.trans (q_if_le (t := 193) dX13_game_126 (mk0 rfl) rfl) (ite_cg ?_ ?_)
  · refine Eq.trans (q_aload_n dX13_game_193 (mk0 rfl) rfl rfl) ?_
    refine Eq.trans (q_iconst (v := 0) dX13_game_194 (mk0 rfl) rfl) ?_
    refine Eq.trans (q_iload dX13_game_195 (mk0 rfl) rfl) ?_
    refine Eq.trans (q_iconst (v := 1) dX13_game_197 (mk0 rfl) rfl) ?_
    refine Eq.trans (q_callV (as := [.int 0, .int i5, .int 1]) dX13_game_198 (mk0 rfl) rfl rfl rfl (Nat.le_of_ble_eq_true rfl) (Nat.le_of_ble_eq_true rfl)) (bind_cg fun b198 => ?_)
    refine Eq.trans (cI_bind (Or.inl rfl)) (bind_cg fun p198 => ?_)
    show RS (ZZ L xs) (d + 1) mX13_game 201 [some (.ref o), none, none, none, some (.int i4), some (.int i5), some (.int i6), some (.int i7), none] [.int p198.2] p198.1 = _
    refine Eq.trans (q_istore (lv2 := [some (.ref o), none, none, none, some (.int i4), some (.int i5), some (.int i6), some (.int p198.2), none]) dX13_game_201 (mk0 rfl) (Nat.le_of_ble_eq_true rfl) rfl) ?_
    refine Eq.trans (q_iload dX13_game_203 (mk0 rfl) rfl) ?_
    refine Eq.trans (q_if_ne (t := 218) dX13_game_205 (mk0 rfl) rfl) (ite_cg ?_ ?_)
    · refine Eq.trans (q_iload dX13_game_218 (mk0 rfl) rfl) ?_
      rfl
    · refine Eq.trans (q_aload_n dX13_game_208 (mk0 rfl) rfl rfl) ?_
      refine Eq.trans (q_getR (ci := 13) (k := 54) dX13_game_209 (mk0 rfl) rfl) (bind_cg2 fun x209 hx209 => ?_)
      have hx209 := fR_isR hx209
      refine Eq.trans (q_iload dX13_game_212 (mk0 rfl) rfl) ?_
      refine Eq.trans (q_iaload dX13_game_214 (mk0 rfl) (no_ext hx209)) (bind_cg fun x214 => ?_)
      refine Eq.trans (q_goto (t := 220) dX13_game_215 (mk0 rfl) rfl) ?_
      rfl
  · refine Eq.trans (q_iload dX13_game_129 (mk0 rfl) rfl) ?_
    refine Eq.trans (q_iload dX13_game_131 (mk0 rfl) rfl) ?_
    refine Eq.trans (q_idiv dX13_game_133 (mk0 rfl)) (ite_cg rfl ?_)
    refine Eq.trans (q_istore (lv2 := [some (.ref o), none, none, none, some (.int i4), some (.int i5), some (.int (i6 / i5)), some (.int i7), none]) dX13_game_134 (mk0 rfl) (Nat.le_of_ble_eq_true rfl) rfl) ?_
    refine Eq.trans (q_iconst (v := 0) dX13_game_136 (mk0 rfl) rfl) ?_
    refine Eq.trans (q_istore (lv2 := [some (.ref o), none, none, none, some (.int i4), some (.int i5), some (.int (i6 / i5)), some (.int i7), some (.int 0)]) dX13_game_137 (mk0 rfl) (Nat.le_of_ble_eq_true rfl) rfl) ?_
    rfl
set_option maxRecDepth 20000 in
theorem bX13_game_139 {L : Nat} {xs : Nat → Int32} (d : Nat) (o : Nat) (u1 : Option Value) (u2 : Option Value) (u3 : Option Value) (i4 : Int32) (i5 : Int32) (i6 : Int32) (i7 : Int32) (i8 : Int32) (ph : PH) : RS (ZZ L xs) (d + 1) mX13_game 139 [some (.ref o), u1, u2, u3, some (.int i4), some (.int i5), some (.int i6), some (.int i7), some (.int i8)] [] ph = if (i6 : Int32) ≤ i8 then RS (ZZ L xs) (d + 1) mX13_game 124 [some (.ref o), none, none, none, some (.int i4), some (.int i5), some (.int i6), some (.int (i7 + (-1))), some (.int i8)] [] ph else (fR ph (.ref o) 13 54).bind fun x147 => (fR ph (.ref o) 13 54).bind fun x153 => if (2 : Int32) = 0 then none else if ¬ (iRem i7 2 : Int32) = 0 then RS (ZZ L xs) (d + 1) mX13_game 176 [some (.ref o), none, none, none, some (.int i4), some (.int i5), some (.int i6), some (.int i7), some (.int i8)] [.int 0, .int i5, .int (i5 * i8), .ref o, x153, .int i8, x147] ph else RS (ZZ L xs) (d + 1) mX13_game 176 [some (.ref o), none, none, none, some (.int i4), some (.int i5), some (.int i6), some (.int i7), some (.int i8)] [.int 1, .int i5, .int (i5 * i8), .ref o, x153, .int i8, x147] ph := by
  refine Eq.trans (q_iload dX13_game_139 (show mK mX13_game 139 [some (.ref o), u1, u2, u3, some (.int i4), some (.int i5), some (.int i6), some (.int i7), some (.int i8)] = [some (.ref o), none, none, none, some (.int i4), some (.int i5), some (.int i6), some (.int i7), some (.int i8)] from rfl) rfl) ?_
  refine Eq.trans (q_iload dX13_game_141 (mk0 rfl) rfl) ?_
  refine Eq.trans (q_icmp_ge (t := 187) dX13_game_143 (mk0 rfl) rfl) (ite_cg ?_ ?_)
  · refine Eq.trans (q_iinc (v := (-1)) (lv2 := [some (.ref o), none, none, none, some (.int i4), some (.int i5), some (.int i6), some (.int (i7 + (-1))), some (.int i8)]) dX13_game_187 (mk0 rfl) rfl rfl rfl) ?_
    refine Eq.trans (q_goto (t := 124) dX13_game_190 (mk0 rfl) rfl) ?_
    rfl
  · refine Eq.trans (q_aload_n dX13_game_146 (mk0 rfl) rfl rfl) ?_
    refine Eq.trans (q_getR (ci := 13) (k := 54) dX13_game_147 (mk0 rfl) rfl) (bind_cg2 fun x147 hx147 => ?_)
    have hx147 := fR_isR hx147
    refine Eq.trans (q_iload dX13_game_150 (mk0 rfl) rfl) ?_
    refine Eq.trans (q_aload_n dX13_game_152 (mk0 rfl) rfl rfl) ?_
    refine Eq.trans (q_getR (ci := 13) (k := 54) dX13_game_153 (mk0 rfl) rfl) (bind_cg2 fun x153 hx153 => ?_)
    have hx153 := fR_isR hx153
    refine Eq.trans (q_aload_n dX13_game_156 (mk0 rfl) rfl rfl) ?_
    refine Eq.trans (q_iload dX13_game_157 (mk0 rfl) rfl) ?_
    refine Eq.trans (q_iload dX13_game_159 (mk0 rfl) rfl) ?_
    refine Eq.trans (q_imul dX13_game_161 (mk0 rfl)) ?_
    refine Eq.trans (q_iload dX13_game_162 (mk0 rfl) rfl) ?_
    refine Eq.trans (q_iload dX13_game_164 (mk0 rfl) rfl) ?_
    refine Eq.trans (q_iconst (v := 2) dX13_game_166 (mk0 rfl) rfl) ?_
    refine Eq.trans (q_irem dX13_game_167 (mk0 rfl)) (ite_cg rfl ?_)
    refine Eq.trans (q_if_ne (t := 175) dX13_game_168 (mk0 rfl) rfl) (ite_cg ?_ ?_)
    · refine Eq.trans (q_iconst (v := 0) dX13_game_175 (mk0 rfl) rfl) ?_
      rfl
    · refine Eq.trans (q_iconst (v := 1) dX13_game_171 (mk0 rfl) rfl) ?_
      refine Eq.trans (q_goto (t := 176) dX13_game_172 (mk0 rfl) rfl) ?_
      rfl
set_option maxRecDepth 20000 in
theorem bX13_game_176 {L : Nat} {xs : Nat → Int32} (d : Nat) (o : Nat) (u1 : Option Value) (u2 : Option Value) (u3 : Option Value) (i4 : Int32) (i5 : Int32) (i6 : Int32) (i7 : Int32) (i8 : Int32) (t0 : Int32) (t1 : Int32) (t2 : Int32) (w3 : Value) (w4 : Value) (t5 : Int32) (w6 : Value) (hw3 : isR w3 = true) (hw4 : isR w4 = true) (hw6 : isR w6 = true) (ph : PH) : RS (ZZ L xs) (d + 1) mX13_game 176 [some (.ref o), u1, u2, u3, some (.int i4), some (.int i5), some (.int i6), some (.int i7), some (.int i8)] [.int t0, .int t1, .int t2, w3, w4, .int t5, w6] ph = (iO ph w3 13).bind fun b176 => (cI (ZZ L xs) d mX13_bestAt [.ref b176, .int t2, .int t1, .int t0] ph).bind fun p176 => (eI p176.1 w4 p176.2).bind fun x179 => (wI p176.1 w6 t5 x179).bind fun h180 => RS (ZZ L xs) (d + 1) mX13_game 139 [some (.ref o), none, none, none, some (.int i4), some (.int i5), some (.int i6), some (.int i7), some (.int (i8 + 1))] [] h180 := by
  refine Eq.trans (q_callV (as := [.int t2, .int t1, .int t0]) dX13_game_176 (show mK mX13_game 176 [some (.ref o), u1, u2, u3, some (.int i4), some (.int i5), some (.int i6), some (.int i7), some (.int i8)] = [some (.ref o), none, none, none, some (.int i4), some (.int i5), some (.int i6), some (.int i7), some (.int i8)] from rfl) rfl rfl rfl (by simp [catS, ct_i, ct_l, ct_r, ct_n, ct_x, (cat_R hw4), (cat_R hw6)]) (Nat.le_of_ble_eq_true rfl)) (bind_cg fun b176 => ?_)
  refine Eq.trans (cI_bind (Or.inl rfl)) (bind_cg fun p176 => ?_)
  show RS (ZZ L xs) (d + 1) mX13_game 179 [some (.ref o), none, none, none, some (.int i4), some (.int i5), some (.int i6), some (.int i7), some (.int i8)] [.int p176.2, w4, .int t5, w6] p176.1 = _
  refine Eq.trans (q_iaload dX13_game_179 (mk0 rfl) (no_ext hw4)) (bind_cg fun x179 => ?_)
  refine Eq.trans (q_iastore dX13_game_180 (mk0 rfl)) (bind_cg fun h180 => ?_)
  refine Eq.trans (q_iinc (v := 1) (lv2 := [some (.ref o), none, none, none, some (.int i4), some (.int i5), some (.int i6), some (.int i7), some (.int (i8 + 1))]) dX13_game_181 (mk0 rfl) rfl rfl rfl) ?_
  refine Eq.trans (q_goto (t := 139) dX13_game_184 (mk0 rfl) rfl) ?_
  rfl
set_option maxRecDepth 20000 in
theorem bX13_game_220 {L : Nat} {xs : Nat → Int32} (d : Nat) (u0 : Option Value) (u1 : Option Value) (u2 : Option Value) (u3 : Option Value) (u4 : Option Value) (u5 : Option Value) (u6 : Option Value) (u7 : Option Value) (u8 : Option Value) (t0 : Int32) (ph : PH) : RS (ZZ L xs) (d + 1) mX13_game 220 [u0, u1, u2, u3, u4, u5, u6, u7, u8] [.int t0] ph = some (ph, some (.int t0)) := by
  exact q_ireturn dX13_game_220 (show mK mX13_game 220 [u0, u1, u2, u3, u4, u5, u6, u7, u8] = [none, none, none, none, none, none, none, none, none] from rfl) rfl
set_option maxRecDepth 20000 in
theorem bX13_laysPlaces_0 {L : Nat} {xs : Nat → Int32} (d : Nat) (o : Nat) (i1 : Int32) (i2 : Int32) (i3 : Int32) (ph : PH) : RS (ZZ L xs) (d + 1) mX13_laysPlaces 0 [some (.ref o), some (.int i1), some (.int i2), some (.int i3), none, none] [] ph = (iO ph (.ref o) 13).bind fun b1 => (cV (ZZ L xs) d mX13_keepsAll [.ref b1] ph).bind fun p1 => RS (ZZ L xs) (d + 1) mX13_laysPlaces 7 [some (.ref o), some (.int i1), some (.int i2), some (.int i3), some (.int 0), none] [] p1 := by
  refine Eq.trans (q_aload_n dX13_laysPlaces_0 (mk0 rfl) rfl rfl) ?_
  refine Eq.trans (q_callV (as := []) dX13_laysPlaces_1 (mk0 rfl) rfl rfl rfl (Nat.le_of_ble_eq_true rfl) (Nat.le_of_ble_eq_true rfl)) (bind_cg fun b1 => ?_)
  refine Eq.trans (cV_bind rfl) (bind_cg fun p1 => ?_)
  show RS (ZZ L xs) (d + 1) mX13_laysPlaces 4 [some (.ref o), some (.int i1), some (.int i2), some (.int i3), none, none] [] p1 = _
  refine Eq.trans (q_iconst (v := 0) dX13_laysPlaces_4 (mk0 rfl) rfl) ?_
  refine Eq.trans (q_istore (lv2 := [some (.ref o), some (.int i1), some (.int i2), some (.int i3), some (.int 0), none]) dX13_laysPlaces_5 (mk0 rfl) (Nat.le_of_ble_eq_true rfl) rfl) ?_
  rfl
set_option maxRecDepth 20000 in
theorem bX13_laysPlaces_7 {L : Nat} {xs : Nat → Int32} (d : Nat) (o : Nat) (i1 : Int32) (i2 : Int32) (i3 : Int32) (i4 : Int32) (u5 : Option Value) (ph : PH) : RS (ZZ L xs) (d + 1) mX13_laysPlaces 7 [some (.ref o), some (.int i1), some (.int i2), some (.int i3), some (.int i4), u5] [] ph = (fR ph (.ref o) 13 1).bind fun x10 => (eI ph x10 0).bind fun x14 => if (x14 : Int32) ≤ i4 then some (ph, none) else RS (ZZ L xs) (d + 1) mX13_laysPlaces 21 [some (.ref o), some (.int i1), some (.int i2), some (.int i3), some (.int i4), some (.int 0)] [] ph := by
  refine Eq.trans (q_iload dX13_laysPlaces_7 (show mK mX13_laysPlaces 7 [some (.ref o), some (.int i1), some (.int i2), some (.int i3), some (.int i4), u5] = [some (.ref o), some (.int i1), some (.int i2), some (.int i3), some (.int i4), none] from rfl) rfl) ?_
  refine Eq.trans (q_aload_n dX13_laysPlaces_9 (mk0 rfl) rfl rfl) ?_
  refine Eq.trans (q_getR (ci := 13) (k := 1) dX13_laysPlaces_10 (mk0 rfl) rfl) (bind_cg2 fun x10 hx10 => ?_)
  have hx10 := fR_isR hx10
  refine Eq.trans (q_iconst (v := 0) dX13_laysPlaces_13 (mk0 rfl) rfl) ?_
  refine Eq.trans (q_iaload dX13_laysPlaces_14 (mk0 rfl) (no_ext hx10)) (bind_cg fun x14 => ?_)
  refine Eq.trans (q_icmp_ge (t := 107) dX13_laysPlaces_15 (mk0 rfl) rfl) (ite_cg ?_ ?_)
  · exact q_return dX13_laysPlaces_107 (mk0 rfl) rfl
  · refine Eq.trans (q_iconst (v := 0) dX13_laysPlaces_18 (mk0 rfl) rfl) ?_
    refine Eq.trans (q_istore (lv2 := [some (.ref o), some (.int i1), some (.int i2), some (.int i3), some (.int i4), some (.int 0)]) dX13_laysPlaces_19 (mk0 rfl) (Nat.le_of_ble_eq_true rfl) rfl) ?_
    rfl
set_option maxRecDepth 20000 in
theorem bX13_laysPlaces_21 {L : Nat} {xs : Nat → Int32} (d : Nat) (o : Nat) (i1 : Int32) (i2 : Int32) (i3 : Int32) (i4 : Int32) (i5 : Int32) (ph : PH) : RS (ZZ L xs) (d + 1) mX13_laysPlaces 21 [some (.ref o), some (.int i1), some (.int i2), some (.int i3), some (.int i4), some (.int i5)] [] ph = (fR ph (.ref o) 13 1).bind fun x24 => (eI ph x24 0).bind fun x28 => if (x28 : Int32) ≤ i5 then RS (ZZ L xs) (d + 1) mX13_laysPlaces 7 [some (.ref o), some (.int i1), some (.int i2), some (.int i3), some (.int (i4 + 1)), some (.int i5)] [] ph else (fR ph (.ref o) 13 2).bind fun x33 => (wI ph x33 i1 i4).bind fun h39 => (fR h39 (.ref o) 13 2).bind fun x41 => (wI h39 x41 i2 i5).bind fun h47 => (iO h47 (.ref o) 13).bind fun b50 => (cV (ZZ L xs) d mX13_goFor [.ref b50, .int i3] h47).bind fun p50 => (fR p50 (.ref o) 13 55).bind fun x54 => (fR p50 (.ref o) 13 5).bind fun x66 => (eI p50 x66 i1).bind fun x70 => (wI p50 x54 ((8 * i4) + i5) x70).bind fun h71 => (fR h71 (.ref o) 13 56).bind fun x73 => (fR h71 (.ref o) 13 5).bind fun x85 => (eI h71 x85 i2).bind fun x89 => (wI h71 x73 ((8 * i4) + i5) x89).bind fun h90 => (iO h90 (.ref o) 13).bind fun b92 => (cV (ZZ L xs) d mX13_laysBack [.ref b92] h90).bind fun p92 => RS (ZZ L xs) (d + 1) mX13_laysPlaces 21 [some (.ref o), some (.int i1), some (.int i2), some (.int i3), some (.int i4), some (.int (i5 + 1))] [] p92 := by
  refine Eq.trans (q_iload dX13_laysPlaces_21 (mk0 rfl) rfl) ?_
  refine Eq.trans (q_aload_n dX13_laysPlaces_23 (mk0 rfl) rfl rfl) ?_
  refine Eq.trans (q_getR (ci := 13) (k := 1) dX13_laysPlaces_24 (mk0 rfl) rfl) (bind_cg2 fun x24 hx24 => ?_)
  have hx24 := fR_isR hx24
  refine Eq.trans (q_iconst (v := 0) dX13_laysPlaces_27 (mk0 rfl) rfl) ?_
  refine Eq.trans (q_iaload dX13_laysPlaces_28 (mk0 rfl) (no_ext hx24)) (bind_cg fun x28 => ?_)
  refine Eq.trans (q_icmp_ge (t := 101) dX13_laysPlaces_29 (mk0 rfl) rfl) (ite_cg ?_ ?_)
  · refine Eq.trans (q_iinc (v := 1) (lv2 := [some (.ref o), some (.int i1), some (.int i2), some (.int i3), some (.int (i4 + 1)), some (.int i5)]) dX13_laysPlaces_101 (mk0 rfl) rfl rfl rfl) ?_
    refine Eq.trans (q_goto (t := 7) dX13_laysPlaces_104 (mk0 rfl) rfl) ?_
    rfl
  · refine Eq.trans (q_aload_n dX13_laysPlaces_32 (mk0 rfl) rfl rfl) ?_
    refine Eq.trans (q_getR (ci := 13) (k := 2) dX13_laysPlaces_33 (mk0 rfl) rfl) (bind_cg2 fun x33 hx33 => ?_)
    have hx33 := fR_isR hx33
    refine Eq.trans (q_iload_n dX13_laysPlaces_36 (mk0 rfl) rfl) ?_
    refine Eq.trans (q_iload dX13_laysPlaces_37 (mk0 rfl) rfl) ?_
    refine Eq.trans (q_iastore dX13_laysPlaces_39 (mk0 rfl)) (bind_cg fun h39 => ?_)
    refine Eq.trans (q_aload_n dX13_laysPlaces_40 (mk0 rfl) rfl rfl) ?_
    refine Eq.trans (q_getR (ci := 13) (k := 2) dX13_laysPlaces_41 (mk0 rfl) rfl) (bind_cg2 fun x41 hx41 => ?_)
    have hx41 := fR_isR hx41
    refine Eq.trans (q_iload_n dX13_laysPlaces_44 (mk0 rfl) rfl) ?_
    refine Eq.trans (q_iload dX13_laysPlaces_45 (mk0 rfl) rfl) ?_
    refine Eq.trans (q_iastore dX13_laysPlaces_47 (mk0 rfl)) (bind_cg fun h47 => ?_)
    refine Eq.trans (q_aload_n dX13_laysPlaces_48 (mk0 rfl) rfl rfl) ?_
    refine Eq.trans (q_iload_n dX13_laysPlaces_49 (mk0 rfl) rfl) ?_
    refine Eq.trans (q_callV (as := [.int i3]) dX13_laysPlaces_50 (mk0 rfl) rfl rfl rfl (Nat.le_of_ble_eq_true rfl) (Nat.le_of_ble_eq_true rfl)) (bind_cg fun b50 => ?_)
    refine Eq.trans (cV_bind rfl) (bind_cg fun p50 => ?_)
    show RS (ZZ L xs) (d + 1) mX13_laysPlaces 53 [some (.ref o), some (.int i1), some (.int i2), some (.int i3), some (.int i4), some (.int i5)] [] p50 = _
    refine Eq.trans (q_aload_n dX13_laysPlaces_53 (mk0 rfl) rfl rfl) ?_
    refine Eq.trans (q_getR (ci := 13) (k := 55) dX13_laysPlaces_54 (mk0 rfl) rfl) (bind_cg2 fun x54 hx54 => ?_)
    have hx54 := fR_isR hx54
    refine Eq.trans (q_bipush (v := 8) dX13_laysPlaces_57 (mk0 rfl) rfl) ?_
    refine Eq.trans (q_iload dX13_laysPlaces_59 (mk0 rfl) rfl) ?_
    refine Eq.trans (q_imul dX13_laysPlaces_61 (mk0 rfl)) ?_
    refine Eq.trans (q_iload dX13_laysPlaces_62 (mk0 rfl) rfl) ?_
    refine Eq.trans (q_iadd dX13_laysPlaces_64 (mk0 rfl)) ?_
    refine Eq.trans (q_aload_n dX13_laysPlaces_65 (mk0 rfl) rfl rfl) ?_
    refine Eq.trans (q_getR (ci := 13) (k := 5) dX13_laysPlaces_66 (mk0 rfl) rfl) (bind_cg2 fun x66 hx66 => ?_)
    have hx66 := fR_isR hx66
    refine Eq.trans (q_iload_n dX13_laysPlaces_69 (mk0 rfl) rfl) ?_
    refine Eq.trans (q_iaload dX13_laysPlaces_70 (mk0 rfl) (no_ext hx66)) (bind_cg fun x70 => ?_)
    refine Eq.trans (q_iastore dX13_laysPlaces_71 (mk0 rfl)) (bind_cg fun h71 => ?_)
    refine Eq.trans (q_aload_n dX13_laysPlaces_72 (mk0 rfl) rfl rfl) ?_
    refine Eq.trans (q_getR (ci := 13) (k := 56) dX13_laysPlaces_73 (mk0 rfl) rfl) (bind_cg2 fun x73 hx73 => ?_)
    have hx73 := fR_isR hx73
    refine Eq.trans (q_bipush (v := 8) dX13_laysPlaces_76 (mk0 rfl) rfl) ?_
    refine Eq.trans (q_iload dX13_laysPlaces_78 (mk0 rfl) rfl) ?_
    refine Eq.trans (q_imul dX13_laysPlaces_80 (mk0 rfl)) ?_
    refine Eq.trans (q_iload dX13_laysPlaces_81 (mk0 rfl) rfl) ?_
    refine Eq.trans (q_iadd dX13_laysPlaces_83 (mk0 rfl)) ?_
    refine Eq.trans (q_aload_n dX13_laysPlaces_84 (mk0 rfl) rfl rfl) ?_
    refine Eq.trans (q_getR (ci := 13) (k := 5) dX13_laysPlaces_85 (mk0 rfl) rfl) (bind_cg2 fun x85 hx85 => ?_)
    have hx85 := fR_isR hx85
    refine Eq.trans (q_iload_n dX13_laysPlaces_88 (mk0 rfl) rfl) ?_
    refine Eq.trans (q_iaload dX13_laysPlaces_89 (mk0 rfl) (no_ext hx85)) (bind_cg fun x89 => ?_)
    refine Eq.trans (q_iastore dX13_laysPlaces_90 (mk0 rfl)) (bind_cg fun h90 => ?_)
    refine Eq.trans (q_aload_n dX13_laysPlaces_91 (mk0 rfl) rfl rfl) ?_
    refine Eq.trans (q_callV (as := []) dX13_laysPlaces_92 (mk0 rfl) rfl rfl rfl (Nat.le_of_ble_eq_true rfl) (Nat.le_of_ble_eq_true rfl)) (bind_cg fun b92 => ?_)
    refine Eq.trans (cV_bind rfl) (bind_cg fun p92 => ?_)
    show RS (ZZ L xs) (d + 1) mX13_laysPlaces 95 [some (.ref o), some (.int i1), some (.int i2), some (.int i3), some (.int i4), some (.int i5)] [] p92 = _
    refine Eq.trans (q_iinc (v := 1) (lv2 := [some (.ref o), some (.int i1), some (.int i2), some (.int i3), some (.int i4), some (.int (i5 + 1))]) dX13_laysPlaces_95 (mk0 rfl) rfl rfl rfl) ?_
    refine Eq.trans (q_goto (t := 21) dX13_laysPlaces_98 (mk0 rfl) rfl) ?_
    rfl
set_option maxRecDepth 20000 in
theorem bX13_isRest_0 {L : Nat} {xs : Nat → Int32} (d : Nat) (o : Nat) (i1 : Int32) (i2 : Int32) (ph : PH) : RS (ZZ L xs) (d + 1) mX13_isRest 0 [some (.ref o), some (.int i1), some (.int i2), none] [] ph = RS (ZZ L xs) (d + 1) mX13_isRest 2 [some (.ref o), some (.int i1), some (.int i2), some (.int 0)] [] ph := by
  refine Eq.trans (q_iconst (v := 0) dX13_isRest_0 (mk0 rfl) rfl) ?_
  refine Eq.trans (q_istore_n (lv2 := [some (.ref o), some (.int i1), some (.int i2), some (.int 0)]) dX13_isRest_1 (mk0 rfl) (Nat.le_of_ble_eq_true rfl) rfl) ?_
  rfl
set_option maxRecDepth 20000 in
theorem bX13_isRest_2 {L : Nat} {xs : Nat → Int32} (d : Nat) (o : Nat) (i1 : Int32) (i2 : Int32) (i3 : Int32) (ph : PH) : RS (ZZ L xs) (d + 1) mX13_isRest 2 [some (.ref o), some (.int i1), some (.int i2), some (.int i3)] [] ph = (fR ph (.ref o) 13 1).bind fun x4 => (eI ph x4 0).bind fun x8 => if (x8 : Int32) ≤ i3 then if (1 : Int32) = 0 ∨ (1 : Int32) = 1 then some (ph, some (.int 1)) else none else (fR ph (.ref o) 13 55).bind fun x13 => (eI ph x13 ((8 * i3) + i2)).bind fun x22 => (fR ph (.ref o) 13 55).bind fun x24 => (eI ph x24 ((8 * i1) + i2)).bind fun x33 => if (x33 : Int32) < x22 then RS (ZZ L xs) (d + 1) mX13_isRest 62 [some (.ref o), some (.int i1), some (.int i2), some (.int i3)] [] ph else (fR ph (.ref o) 13 56).bind fun x38 => (eI ph x38 ((8 * i1) + i3)).bind fun x47 => (fR ph (.ref o) 13 56).bind fun x49 => (eI ph x49 ((8 * i1) + i2)).bind fun x58 => if (x47 : Int32) ≤ x58 then RS (ZZ L xs) (d + 1) mX13_isRest 2 [some (.ref o), some (.int i1), some (.int i2), some (.int (i3 + 1))] [] ph else RS (ZZ L xs) (d + 1) mX13_isRest 62 [some (.ref o), some (.int i1), some (.int i2), some (.int i3)] [] ph := by
  refine Eq.trans (q_iload_n dX13_isRest_2 (mk0 rfl) rfl) ?_
  refine Eq.trans (q_aload_n dX13_isRest_3 (mk0 rfl) rfl rfl) ?_
  refine Eq.trans (q_getR (ci := 13) (k := 1) dX13_isRest_4 (mk0 rfl) rfl) (bind_cg2 fun x4 hx4 => ?_)
  have hx4 := fR_isR hx4
  refine Eq.trans (q_iconst (v := 0) dX13_isRest_7 (mk0 rfl) rfl) ?_
  refine Eq.trans (q_iaload dX13_isRest_8 (mk0 rfl) (no_ext hx4)) (bind_cg fun x8 => ?_)
  refine Eq.trans (q_icmp_ge (t := 70) dX13_isRest_9 (mk0 rfl) rfl) (ite_cg ?_ ?_)
  · refine Eq.trans (q_iconst (v := 1) dX13_isRest_70 (mk0 rfl) rfl) ?_
    exact q_zreturn dX13_isRest_71 (mk0 rfl) rfl
  · refine Eq.trans (q_aload_n dX13_isRest_12 (mk0 rfl) rfl rfl) ?_
    refine Eq.trans (q_getR (ci := 13) (k := 55) dX13_isRest_13 (mk0 rfl) rfl) (bind_cg2 fun x13 hx13 => ?_)
    have hx13 := fR_isR hx13
    refine Eq.trans (q_bipush (v := 8) dX13_isRest_16 (mk0 rfl) rfl) ?_
    refine Eq.trans (q_iload_n dX13_isRest_18 (mk0 rfl) rfl) ?_
    refine Eq.trans (q_imul dX13_isRest_19 (mk0 rfl)) ?_
    refine Eq.trans (q_iload_n dX13_isRest_20 (mk0 rfl) rfl) ?_
    refine Eq.trans (q_iadd dX13_isRest_21 (mk0 rfl)) ?_
    refine Eq.trans (q_iaload dX13_isRest_22 (mk0 rfl) (no_ext hx13)) (bind_cg fun x22 => ?_)
    refine Eq.trans (q_aload_n dX13_isRest_23 (mk0 rfl) rfl rfl) ?_
    refine Eq.trans (q_getR (ci := 13) (k := 55) dX13_isRest_24 (mk0 rfl) rfl) (bind_cg2 fun x24 hx24 => ?_)
    have hx24 := fR_isR hx24
    refine Eq.trans (q_bipush (v := 8) dX13_isRest_27 (mk0 rfl) rfl) ?_
    refine Eq.trans (q_iload_n dX13_isRest_29 (mk0 rfl) rfl) ?_
    refine Eq.trans (q_imul dX13_isRest_30 (mk0 rfl)) ?_
    refine Eq.trans (q_iload_n dX13_isRest_31 (mk0 rfl) rfl) ?_
    refine Eq.trans (q_iadd dX13_isRest_32 (mk0 rfl)) ?_
    refine Eq.trans (q_iaload dX13_isRest_33 (mk0 rfl) (no_ext hx24)) (bind_cg fun x33 => ?_)
    refine Eq.trans (q_icmp_gt (t := 62) dX13_isRest_34 (mk0 rfl) rfl) (ite_cg ?_ ?_)
    · rfl
    · refine Eq.trans (q_aload_n dX13_isRest_37 (mk0 rfl) rfl rfl) ?_
      refine Eq.trans (q_getR (ci := 13) (k := 56) dX13_isRest_38 (mk0 rfl) rfl) (bind_cg2 fun x38 hx38 => ?_)
      have hx38 := fR_isR hx38
      refine Eq.trans (q_bipush (v := 8) dX13_isRest_41 (mk0 rfl) rfl) ?_
      refine Eq.trans (q_iload_n dX13_isRest_43 (mk0 rfl) rfl) ?_
      refine Eq.trans (q_imul dX13_isRest_44 (mk0 rfl)) ?_
      refine Eq.trans (q_iload_n dX13_isRest_45 (mk0 rfl) rfl) ?_
      refine Eq.trans (q_iadd dX13_isRest_46 (mk0 rfl)) ?_
      refine Eq.trans (q_iaload dX13_isRest_47 (mk0 rfl) (no_ext hx38)) (bind_cg fun x47 => ?_)
      refine Eq.trans (q_aload_n dX13_isRest_48 (mk0 rfl) rfl rfl) ?_
      refine Eq.trans (q_getR (ci := 13) (k := 56) dX13_isRest_49 (mk0 rfl) rfl) (bind_cg2 fun x49 hx49 => ?_)
      have hx49 := fR_isR hx49
      refine Eq.trans (q_bipush (v := 8) dX13_isRest_52 (mk0 rfl) rfl) ?_
      refine Eq.trans (q_iload_n dX13_isRest_54 (mk0 rfl) rfl) ?_
      refine Eq.trans (q_imul dX13_isRest_55 (mk0 rfl)) ?_
      refine Eq.trans (q_iload_n dX13_isRest_56 (mk0 rfl) rfl) ?_
      refine Eq.trans (q_iadd dX13_isRest_57 (mk0 rfl)) ?_
      refine Eq.trans (q_iaload dX13_isRest_58 (mk0 rfl) (no_ext hx49)) (bind_cg fun x58 => ?_)
      refine Eq.trans (q_icmp_le (t := 64) dX13_isRest_59 (mk0 rfl) rfl) (ite_cg ?_ ?_)
      · refine Eq.trans (q_iinc (v := 1) (lv2 := [some (.ref o), some (.int i1), some (.int i2), some (.int (i3 + 1))]) dX13_isRest_64 (mk0 rfl) rfl rfl rfl) ?_
        refine Eq.trans (q_goto (t := 2) dX13_isRest_67 (mk0 rfl) rfl) ?_
        rfl
      · rfl
set_option maxRecDepth 20000 in
theorem bX13_isRest_62 {L : Nat} {xs : Nat → Int32} (d : Nat) (u0 : Option Value) (u1 : Option Value) (u2 : Option Value) (u3 : Option Value) (ph : PH) : RS (ZZ L xs) (d + 1) mX13_isRest 62 [u0, u1, u2, u3] [] ph = if (0 : Int32) = 0 ∨ (0 : Int32) = 1 then some (ph, some (.int 0)) else none := by
  refine Eq.trans (q_iconst (v := 0) dX13_isRest_62 (show mK mX13_isRest 62 [u0, u1, u2, u3] = [none, none, none, none] from rfl) rfl) ?_
  exact q_zreturn dX13_isRest_63 (mk0 rfl) rfl
set_option maxRecDepth 20000 in
theorem bX13_rests_0 {L : Nat} {xs : Nat → Int32} (d : Nat) (o : Nat) (i1 : Int32) (i2 : Int32) (i3 : Int32) (i4 : Int32) (ph : PH) : RS (ZZ L xs) (d + 1) mX13_rests 0 [some (.ref o), some (.int i1), some (.int i2), some (.int i3), some (.int i4), none, none, none, none, none] [] ph = (iO ph (.ref o) 13).bind fun b2 => (cI (ZZ L xs) d mX13_isPerson [.ref b2, .int i1] ph).bind fun p2 => if (p2.2 : Int32) = 0 then RS (ZZ L xs) (d + 1) mX13_rests 46 [some (.ref o), some (.int i1), some (.int i2), some (.int i3), some (.int i4), none, none, none, none, none] [] p2.1 else (iO p2.1 (.ref o) 13).bind fun b10 => (cI (ZZ L xs) d mX13_isPerson [.ref b10, .int i2] p2.1).bind fun p10 => if (p10.2 : Int32) = 0 then RS (ZZ L xs) (d + 1) mX13_rests 46 [some (.ref o), some (.int i1), some (.int i2), some (.int i3), some (.int i4), none, none, none, none, none] [] p10.1 else if (i1 : Int32) = i2 then RS (ZZ L xs) (d + 1) mX13_rests 46 [some (.ref o), some (.int i1), some (.int i2), some (.int i3), some (.int i4), none, none, none, none, none] [] p10.1 else (cI (ZZ L xs) d mX13_in [.long ((i3 : Int32).toInt64), .long 1, .long 20] p10.1).bind fun p27 => if (p27.2 : Int32) = 0 then RS (ZZ L xs) (d + 1) mX13_rests 46 [some (.ref o), some (.int i1), some (.int i2), some (.int i3), some (.int i4), none, none, none, none, none] [] p27.1 else (cI (ZZ L xs) d mX13_in [.long ((i4 : Int32).toInt64), .long 0, .long 2] p27.1).bind fun p40 => if ¬ (p40.2 : Int32) = 0 then (iO p40.1 (.ref o) 13).bind fun b52 => (cV (ZZ L xs) d mX13_laysPlaces [.ref b52, .int i1, .int i2, .int i3] p40.1).bind fun p52 => RS (ZZ L xs) (d + 1) mX13_rests 69 [some (.ref o), some (.int i1), some (.int i2), some (.int i3), some (.int i4), some (.int 0), some (.int ((-2))), some (.int ((-2))), some (.int 0), none] [] p52 else RS (ZZ L xs) (d + 1) mX13_rests 46 [some (.ref o), some (.int i1), some (.int i2), some (.int i3), some (.int i4), none, none, none, none, none] [] p40.1 := by
  refine Eq.trans (q_aload_n dX13_rests_0 (mk0 rfl) rfl rfl) ?_
  refine Eq.trans (q_iload_n dX13_rests_1 (mk0 rfl) rfl) ?_
  refine Eq.trans (q_callV (as := [.int i1]) dX13_rests_2 (mk0 rfl) rfl rfl rfl (Nat.le_of_ble_eq_true rfl) (Nat.le_of_ble_eq_true rfl)) (bind_cg fun b2 => ?_)
  refine Eq.trans (cI_bind (Or.inr rfl)) (bind_cg fun p2 => ?_)
  show RS (ZZ L xs) (d + 1) mX13_rests 5 [some (.ref o), some (.int i1), some (.int i2), some (.int i3), some (.int i4), none, none, none, none, none] [.int p2.2] p2.1 = _
  refine Eq.trans (q_if_eq (t := 46) dX13_rests_5 (mk0 rfl) rfl) (ite_cg ?_ ?_)
  · rfl
  · refine Eq.trans (q_aload_n dX13_rests_8 (mk0 rfl) rfl rfl) ?_
    refine Eq.trans (q_iload_n dX13_rests_9 (mk0 rfl) rfl) ?_
    refine Eq.trans (q_callV (as := [.int i2]) dX13_rests_10 (mk0 rfl) rfl rfl rfl (Nat.le_of_ble_eq_true rfl) (Nat.le_of_ble_eq_true rfl)) (bind_cg fun b10 => ?_)
    refine Eq.trans (cI_bind (Or.inr rfl)) (bind_cg fun p10 => ?_)
    show RS (ZZ L xs) (d + 1) mX13_rests 13 [some (.ref o), some (.int i1), some (.int i2), some (.int i3), some (.int i4), none, none, none, none, none] [.int p10.2] p10.1 = _
    refine Eq.trans (q_if_eq (t := 46) dX13_rests_13 (mk0 rfl) rfl) (ite_cg ?_ ?_)
    · rfl
    · refine Eq.trans (q_iload_n dX13_rests_16 (mk0 rfl) rfl) ?_
      refine Eq.trans (q_iload_n dX13_rests_17 (mk0 rfl) rfl) ?_
      refine Eq.trans (q_icmp_eq (t := 46) dX13_rests_18 (mk0 rfl) rfl) (ite_cg ?_ ?_)
      · rfl
      · refine Eq.trans (q_iload_n dX13_rests_21 (mk0 rfl) rfl) ?_
        refine Eq.trans (q_i2l dX13_rests_22 (mk0 rfl)) ?_
        refine Eq.trans (q_lconst (v := 1) dX13_rests_23 (mk0 rfl) rfl) ?_
        refine Eq.trans (q_ldc2 (v := 20) dX13_rests_24 (mk0 rfl) rfl) ?_
        refine Eq.trans (q_callS (as := [.long ((i3 : Int32).toInt64), .long 1, .long 20]) dX13_rests_27 (mk0 rfl) rfl (Or.inl rfl) rfl rfl (Nat.le_of_ble_eq_true rfl) (Nat.le_of_ble_eq_true rfl)) ?_
        refine Eq.trans (cI_bind (Or.inr rfl)) (bind_cg fun p27 => ?_)
        show RS (ZZ L xs) (d + 1) mX13_rests 30 [some (.ref o), some (.int i1), some (.int i2), some (.int i3), some (.int i4), none, none, none, none, none] [.int p27.2] p27.1 = _
        refine Eq.trans (q_if_eq (t := 46) dX13_rests_30 (mk0 rfl) rfl) (ite_cg ?_ ?_)
        · rfl
        · refine Eq.trans (q_iload dX13_rests_33 (mk0 rfl) rfl) ?_
          refine Eq.trans (q_i2l dX13_rests_35 (mk0 rfl)) ?_
          refine Eq.trans (q_lconst (v := 0) dX13_rests_36 (mk0 rfl) rfl) ?_
          refine Eq.trans (q_ldc2 (v := 2) dX13_rests_37 (mk0 rfl) rfl) ?_
          refine Eq.trans (q_callS (as := [.long ((i4 : Int32).toInt64), .long 0, .long 2]) dX13_rests_40 (mk0 rfl) rfl (Or.inl rfl) rfl rfl (Nat.le_of_ble_eq_true rfl) (Nat.le_of_ble_eq_true rfl)) ?_
          refine Eq.trans (cI_bind (Or.inr rfl)) (bind_cg fun p40 => ?_)
          show RS (ZZ L xs) (d + 1) mX13_rests 43 [some (.ref o), some (.int i1), some (.int i2), some (.int i3), some (.int i4), none, none, none, none, none] [.int p40.2] p40.1 = _
          refine Eq.trans (q_if_ne (t := 48) dX13_rests_43 (mk0 rfl) rfl) (ite_cg ?_ ?_)
          · refine Eq.trans (q_aload_n dX13_rests_48 (mk0 rfl) rfl rfl) ?_
            refine Eq.trans (q_iload_n dX13_rests_49 (mk0 rfl) rfl) ?_
            refine Eq.trans (q_iload_n dX13_rests_50 (mk0 rfl) rfl) ?_
            refine Eq.trans (q_iload_n dX13_rests_51 (mk0 rfl) rfl) ?_
            refine Eq.trans (q_callV (as := [.int i1, .int i2, .int i3]) dX13_rests_52 (mk0 rfl) rfl rfl rfl (Nat.le_of_ble_eq_true rfl) (Nat.le_of_ble_eq_true rfl)) (bind_cg fun b52 => ?_)
            refine Eq.trans (cV_bind rfl) (bind_cg fun p52 => ?_)
            show RS (ZZ L xs) (d + 1) mX13_rests 55 [some (.ref o), some (.int i1), some (.int i2), some (.int i3), some (.int i4), none, none, none, none, none] [] p52 = _
            refine Eq.trans (q_iconst (v := 0) dX13_rests_55 (mk0 rfl) rfl) ?_
            refine Eq.trans (q_istore (lv2 := [some (.ref o), some (.int i1), some (.int i2), some (.int i3), some (.int i4), some (.int 0), none, none, none, none]) dX13_rests_56 (mk0 rfl) (Nat.le_of_ble_eq_true rfl) rfl) ?_
            refine Eq.trans (q_bipush (v := (-2)) dX13_rests_58 (mk0 rfl) rfl) ?_
            refine Eq.trans (q_istore (lv2 := [some (.ref o), some (.int i1), some (.int i2), some (.int i3), some (.int i4), some (.int 0), some (.int ((-2))), none, none, none]) dX13_rests_60 (mk0 rfl) (Nat.le_of_ble_eq_true rfl) rfl) ?_
            refine Eq.trans (q_bipush (v := (-2)) dX13_rests_62 (mk0 rfl) rfl) ?_
            refine Eq.trans (q_istore (lv2 := [some (.ref o), some (.int i1), some (.int i2), some (.int i3), some (.int i4), some (.int 0), some (.int ((-2))), some (.int ((-2))), none, none]) dX13_rests_64 (mk0 rfl) (Nat.le_of_ble_eq_true rfl) rfl) ?_
            refine Eq.trans (q_iconst (v := 0) dX13_rests_66 (mk0 rfl) rfl) ?_
            refine Eq.trans (q_istore (lv2 := [some (.ref o), some (.int i1), some (.int i2), some (.int i3), some (.int i4), some (.int 0), some (.int ((-2))), some (.int ((-2))), some (.int 0), none]) dX13_rests_67 (mk0 rfl) (Nat.le_of_ble_eq_true rfl) rfl) ?_
            rfl
          · rfl
set_option maxRecDepth 20000 in
theorem bX13_rests_46 {L : Nat} {xs : Nat → Int32} (d : Nat) (u0 : Option Value) (u1 : Option Value) (u2 : Option Value) (u3 : Option Value) (u4 : Option Value) (u5 : Option Value) (u6 : Option Value) (u7 : Option Value) (u8 : Option Value) (u9 : Option Value) (ph : PH) : RS (ZZ L xs) (d + 1) mX13_rests 46 [u0, u1, u2, u3, u4, u5, u6, u7, u8, u9] [] ph = some (ph, some (.int ((-1)))) := by
  refine Eq.trans (q_iconst (v := (-1)) dX13_rests_46 (show mK mX13_rests 46 [u0, u1, u2, u3, u4, u5, u6, u7, u8, u9] = [none, none, none, none, none, none, none, none, none, none] from rfl) rfl) ?_
  exact q_ireturn dX13_rests_47 (mk0 rfl) rfl
set_option maxRecDepth 20000 in
theorem bX13_rests_69 {L : Nat} {xs : Nat → Int32} (d : Nat) (o : Nat) (u1 : Option Value) (u2 : Option Value) (u3 : Option Value) (i4 : Int32) (i5 : Int32) (i6 : Int32) (i7 : Int32) (i8 : Int32) (u9 : Option Value) (ph : PH) : RS (ZZ L xs) (d + 1) mX13_rests 69 [some (.ref o), u1, u2, u3, some (.int i4), some (.int i5), some (.int i6), some (.int i7), some (.int i8), u9] [] ph = (fR ph (.ref o) 13 1).bind fun x72 => (eI ph x72 0).bind fun x76 => if (x76 : Int32) ≤ i8 then if ¬ (i4 : Int32) = 0 then if ¬ (i4 : Int32) = 1 then RS (ZZ L xs) (d + 1) mX13_rests 171 [some (.ref o), none, none, none, some (.int i4), some (.int i5), some (.int i6), some (.int i7), some (.int i8), none] [.int i7] ph else RS (ZZ L xs) (d + 1) mX13_rests 171 [some (.ref o), none, none, none, some (.int i4), some (.int i5), some (.int i6), some (.int i7), some (.int i8), none] [.int i6] ph else RS (ZZ L xs) (d + 1) mX13_rests 171 [some (.ref o), none, none, none, some (.int i4), some (.int i5), some (.int i6), some (.int i7), some (.int i8), none] [.int i5] ph else RS (ZZ L xs) (d + 1) mX13_rests 83 [some (.ref o), none, none, none, some (.int i4), some (.int i5), some (.int i6), some (.int i7), some (.int i8), some (.int 0)] [] ph := by
  refine Eq.trans (q_iload dX13_rests_69 (show mK mX13_rests 69 [some (.ref o), u1, u2, u3, some (.int i4), some (.int i5), some (.int i6), some (.int i7), some (.int i8), u9] = [some (.ref o), none, none, none, some (.int i4), some (.int i5), some (.int i6), some (.int i7), some (.int i8), none] from rfl) rfl) ?_
  refine Eq.trans (q_aload_n dX13_rests_71 (mk0 rfl) rfl rfl) ?_
  refine Eq.trans (q_getR (ci := 13) (k := 1) dX13_rests_72 (mk0 rfl) rfl) (bind_cg2 fun x72 hx72 => ?_)
  have hx72 := fR_isR hx72
  refine Eq.trans (q_iconst (v := 0) dX13_rests_75 (mk0 rfl) rfl) ?_
  refine Eq.trans (q_iaload dX13_rests_76 (mk0 rfl) (no_ext hx72)) (bind_cg fun x76 => ?_)
  refine Eq.trans (q_icmp_ge (t := 148) dX13_rests_77 (mk0 rfl) rfl) (ite_cg ?_ ?_)
  · refine Eq.trans (q_iload dX13_rests_148 (mk0 rfl) rfl) ?_
    refine Eq.trans (q_if_ne (t := 158) dX13_rests_150 (mk0 rfl) rfl) (ite_cg ?_ ?_)
    · refine Eq.trans (q_iload dX13_rests_158 (mk0 rfl) rfl) ?_
      refine Eq.trans (q_iconst (v := 1) dX13_rests_160 (mk0 rfl) rfl) ?_
      refine Eq.trans (q_icmp_ne (t := 169) dX13_rests_161 (mk0 rfl) rfl) (ite_cg ?_ ?_)
      · refine Eq.trans (q_iload dX13_rests_169 (mk0 rfl) rfl) ?_
        rfl
      · refine Eq.trans (q_iload dX13_rests_164 (mk0 rfl) rfl) ?_
        refine Eq.trans (q_goto (t := 171) dX13_rests_166 (mk0 rfl) rfl) ?_
        rfl
    · refine Eq.trans (q_iload dX13_rests_153 (mk0 rfl) rfl) ?_
      refine Eq.trans (q_goto (t := 171) dX13_rests_155 (mk0 rfl) rfl) ?_
      rfl
  · refine Eq.trans (q_iconst (v := 0) dX13_rests_80 (mk0 rfl) rfl) ?_
    refine Eq.trans (q_istore (lv2 := [some (.ref o), none, none, none, some (.int i4), some (.int i5), some (.int i6), some (.int i7), some (.int i8), some (.int 0)]) dX13_rests_81 (mk0 rfl) (Nat.le_of_ble_eq_true rfl) rfl) ?_
    rfl
set_option maxRecDepth 20000 in
theorem bX13_rests_83 {L : Nat} {xs : Nat → Int32} (d : Nat) (o : Nat) (u1 : Option Value) (u2 : Option Value) (u3 : Option Value) (i4 : Int32) (i5 : Int32) (i6 : Int32) (i7 : Int32) (i8 : Int32) (i9 : Int32) (ph : PH) : RS (ZZ L xs) (d + 1) mX13_rests 83 [some (.ref o), u1, u2, u3, some (.int i4), some (.int i5), some (.int i6), some (.int i7), some (.int i8), some (.int i9)] [] ph = (fR ph (.ref o) 13 1).bind fun x86 => (eI ph x86 0).bind fun x90 => if (x90 : Int32) ≤ i9 then RS (ZZ L xs) (d + 1) mX13_rests 69 [some (.ref o), none, none, none, some (.int i4), some (.int i5), some (.int i6), some (.int i7), some (.int (i8 + 1)), some (.int i9)] [] ph else (iO ph (.ref o) 13).bind fun b99 => (cI (ZZ L xs) d mX13_isRest [.ref b99, .int i8, .int i9] ph).bind fun p99 => if (p99.2 : Int32) = 0 then RS (ZZ L xs) (d + 1) mX13_rests 136 [some (.ref o), none, none, none, some (.int i4), some (.int i5), some (.int i6), some (.int i7), some (.int i8), some (.int i9)] [] p99.1 else if ¬ (i5 : Int32) = 0 then RS (ZZ L xs) (d + 1) mX13_rests 117 [some (.ref o), none, none, none, some (.int i4), some (.int i5), some (.int i6), some (.int i7), some (.int i8), some (.int i9)] [.int i6] p99.1 else RS (ZZ L xs) (d + 1) mX13_rests 117 [some (.ref o), none, none, none, some (.int i4), some (.int i5), some (.int i6), some (.int i7), some (.int i8), some (.int i9)] [.int i8] p99.1 := by
  refine Eq.trans (q_iload dX13_rests_83 (show mK mX13_rests 83 [some (.ref o), u1, u2, u3, some (.int i4), some (.int i5), some (.int i6), some (.int i7), some (.int i8), some (.int i9)] = [some (.ref o), none, none, none, some (.int i4), some (.int i5), some (.int i6), some (.int i7), some (.int i8), some (.int i9)] from rfl) rfl) ?_
  refine Eq.trans (q_aload_n dX13_rests_85 (mk0 rfl) rfl rfl) ?_
  refine Eq.trans (q_getR (ci := 13) (k := 1) dX13_rests_86 (mk0 rfl) rfl) (bind_cg2 fun x86 hx86 => ?_)
  have hx86 := fR_isR hx86
  refine Eq.trans (q_iconst (v := 0) dX13_rests_89 (mk0 rfl) rfl) ?_
  refine Eq.trans (q_iaload dX13_rests_90 (mk0 rfl) (no_ext hx86)) (bind_cg fun x90 => ?_)
  refine Eq.trans (q_icmp_ge (t := 142) dX13_rests_91 (mk0 rfl) rfl) (ite_cg ?_ ?_)
  · refine Eq.trans (q_iinc (v := 1) (lv2 := [some (.ref o), none, none, none, some (.int i4), some (.int i5), some (.int i6), some (.int i7), some (.int (i8 + 1)), some (.int i9)]) dX13_rests_142 (mk0 rfl) rfl rfl rfl) ?_
    refine Eq.trans (q_goto (t := 69) dX13_rests_145 (mk0 rfl) rfl) ?_
    rfl
  · refine Eq.trans (q_aload_n dX13_rests_94 (mk0 rfl) rfl rfl) ?_
    refine Eq.trans (q_iload dX13_rests_95 (mk0 rfl) rfl) ?_
    refine Eq.trans (q_iload dX13_rests_97 (mk0 rfl) rfl) ?_
    refine Eq.trans (q_callV (as := [.int i8, .int i9]) dX13_rests_99 (mk0 rfl) rfl rfl rfl (Nat.le_of_ble_eq_true rfl) (Nat.le_of_ble_eq_true rfl)) (bind_cg fun b99 => ?_)
    refine Eq.trans (cI_bind (Or.inr rfl)) (bind_cg fun p99 => ?_)
    show RS (ZZ L xs) (d + 1) mX13_rests 102 [some (.ref o), none, none, none, some (.int i4), some (.int i5), some (.int i6), some (.int i7), some (.int i8), some (.int i9)] [.int p99.2] p99.1 = _
    refine Eq.trans (q_if_eq (t := 136) dX13_rests_102 (mk0 rfl) rfl) (ite_cg ?_ ?_)
    · rfl
    · refine Eq.trans (q_iload dX13_rests_105 (mk0 rfl) rfl) ?_
      refine Eq.trans (q_if_ne (t := 115) dX13_rests_107 (mk0 rfl) rfl) (ite_cg ?_ ?_)
      · refine Eq.trans (q_iload dX13_rests_115 (mk0 rfl) rfl) ?_
        rfl
      · refine Eq.trans (q_iload dX13_rests_110 (mk0 rfl) rfl) ?_
        refine Eq.trans (q_goto (t := 117) dX13_rests_112 (mk0 rfl) rfl) ?_
        rfl
set_option maxRecDepth 20000 in
theorem bX13_rests_117 {L : Nat} {xs : Nat → Int32} (d : Nat) (o : Nat) (u1 : Option Value) (u2 : Option Value) (u3 : Option Value) (i4 : Int32) (i5 : Int32) (u6 : Option Value) (i7 : Int32) (i8 : Int32) (i9 : Int32) (t0 : Int32) (ph : PH) : RS (ZZ L xs) (d + 1) mX13_rests 117 [some (.ref o), u1, u2, u3, some (.int i4), some (.int i5), u6, some (.int i7), some (.int i8), some (.int i9)] [.int t0] ph = if ¬ (i5 : Int32) = 0 then RS (ZZ L xs) (d + 1) mX13_rests 131 [some (.ref o), none, none, none, some (.int i4), some (.int i5), some (.int t0), some (.int i7), some (.int i8), some (.int i9)] [.int i7] ph else RS (ZZ L xs) (d + 1) mX13_rests 131 [some (.ref o), none, none, none, some (.int i4), some (.int i5), some (.int t0), some (.int i7), some (.int i8), some (.int i9)] [.int i9] ph := by
  refine Eq.trans (q_istore (lv2 := [some (.ref o), none, none, none, some (.int i4), some (.int i5), some (.int t0), some (.int i7), some (.int i8), some (.int i9)]) dX13_rests_117 (show mK mX13_rests 117 [some (.ref o), u1, u2, u3, some (.int i4), some (.int i5), u6, some (.int i7), some (.int i8), some (.int i9)] = [some (.ref o), none, none, none, some (.int i4), some (.int i5), none, some (.int i7), some (.int i8), some (.int i9)] from rfl) (Nat.le_of_ble_eq_true rfl) rfl) ?_
  refine Eq.trans (q_iload dX13_rests_119 (mk0 rfl) rfl) ?_
  refine Eq.trans (q_if_ne (t := 129) dX13_rests_121 (mk0 rfl) rfl) (ite_cg ?_ ?_)
  · refine Eq.trans (q_iload dX13_rests_129 (mk0 rfl) rfl) ?_
    rfl
  · refine Eq.trans (q_iload dX13_rests_124 (mk0 rfl) rfl) ?_
    refine Eq.trans (q_goto (t := 131) dX13_rests_126 (mk0 rfl) rfl) ?_
    rfl
set_option maxRecDepth 20000 in
theorem bX13_rests_131 {L : Nat} {xs : Nat → Int32} (d : Nat) (o : Nat) (u1 : Option Value) (u2 : Option Value) (u3 : Option Value) (i4 : Int32) (i5 : Int32) (i6 : Int32) (u7 : Option Value) (i8 : Int32) (i9 : Int32) (t0 : Int32) (ph : PH) : RS (ZZ L xs) (d + 1) mX13_rests 131 [some (.ref o), u1, u2, u3, some (.int i4), some (.int i5), some (.int i6), u7, some (.int i8), some (.int i9)] [.int t0] ph = RS (ZZ L xs) (d + 1) mX13_rests 136 [some (.ref o), none, none, none, some (.int i4), some (.int (i5 + 1)), some (.int i6), some (.int t0), some (.int i8), some (.int i9)] [] ph := by
  refine Eq.trans (q_istore (lv2 := [some (.ref o), none, none, none, some (.int i4), some (.int i5), some (.int i6), some (.int t0), some (.int i8), some (.int i9)]) dX13_rests_131 (show mK mX13_rests 131 [some (.ref o), u1, u2, u3, some (.int i4), some (.int i5), some (.int i6), u7, some (.int i8), some (.int i9)] = [some (.ref o), none, none, none, some (.int i4), some (.int i5), some (.int i6), none, some (.int i8), some (.int i9)] from rfl) (Nat.le_of_ble_eq_true rfl) rfl) ?_
  refine Eq.trans (q_iinc (v := 1) (lv2 := [some (.ref o), none, none, none, some (.int i4), some (.int (i5 + 1)), some (.int i6), some (.int t0), some (.int i8), some (.int i9)]) dX13_rests_133 (mk0 rfl) rfl rfl rfl) ?_
  rfl
set_option maxRecDepth 20000 in
theorem bX13_rests_136 {L : Nat} {xs : Nat → Int32} (d : Nat) (o : Nat) (u1 : Option Value) (u2 : Option Value) (u3 : Option Value) (i4 : Int32) (i5 : Int32) (i6 : Int32) (i7 : Int32) (i8 : Int32) (i9 : Int32) (ph : PH) : RS (ZZ L xs) (d + 1) mX13_rests 136 [some (.ref o), u1, u2, u3, some (.int i4), some (.int i5), some (.int i6), some (.int i7), some (.int i8), some (.int i9)] [] ph = RS (ZZ L xs) (d + 1) mX13_rests 83 [some (.ref o), none, none, none, some (.int i4), some (.int i5), some (.int i6), some (.int i7), some (.int i8), some (.int (i9 + 1))] [] ph := by
  refine Eq.trans (q_iinc (v := 1) (lv2 := [some (.ref o), none, none, none, some (.int i4), some (.int i5), some (.int i6), some (.int i7), some (.int i8), some (.int (i9 + 1))]) dX13_rests_136 (show mK mX13_rests 136 [some (.ref o), u1, u2, u3, some (.int i4), some (.int i5), some (.int i6), some (.int i7), some (.int i8), some (.int i9)] = [some (.ref o), none, none, none, some (.int i4), some (.int i5), some (.int i6), some (.int i7), some (.int i8), some (.int i9)] from rfl) rfl rfl rfl) ?_
  refine Eq.trans (q_goto (t := 83) dX13_rests_139 (mk0 rfl) rfl) ?_
  rfl
set_option maxRecDepth 20000 in
theorem bX13_rests_171 {L : Nat} {xs : Nat → Int32} (d : Nat) (u0 : Option Value) (u1 : Option Value) (u2 : Option Value) (u3 : Option Value) (u4 : Option Value) (u5 : Option Value) (u6 : Option Value) (u7 : Option Value) (u8 : Option Value) (u9 : Option Value) (t0 : Int32) (ph : PH) : RS (ZZ L xs) (d + 1) mX13_rests 171 [u0, u1, u2, u3, u4, u5, u6, u7, u8, u9] [.int t0] ph = some (ph, some (.int t0)) := by
  exact q_ireturn dX13_rests_171 (show mK mX13_rests 171 [u0, u1, u2, u3, u4, u5, u6, u7, u8, u9] = [none, none, none, none, none, none, none, none, none, none] from rfl) rfl
set_option maxRecDepth 20000 in
theorem bX13_pence_0 {L : Nat} {xs : Nat → Int32} (d : Nat) (o : Nat) (i1 : Int32) (i2 : Int32) (ph : PH) : RS (ZZ L xs) (d + 1) mX13_pence 0 [some (.ref o), some (.int i1), some (.int i2), none, none, none, none, none] [] ph = (iO ph (.ref o) 13).bind fun b2 => (cI (ZZ L xs) d mX13_isPerson [.ref b2, .int i2] ph).bind fun p2 => if (p2.2 : Int32) = 0 then RS (ZZ L xs) (d + 1) mX13_pence 20 [some (.ref o), some (.int i1), some (.int i2), none, none, none, none, none] [] p2.1 else (cI (ZZ L xs) d mX13_in [.long ((i1 : Int32).toInt64), .long 0, .long 9999] p2.1).bind fun p14 => if ¬ (p14.2 : Int32) = 0 then (iO p14.1 (.ref o) 13).bind fun b23 => (cI (ZZ L xs) d mX13_allAsked [.ref b23] p14.1).bind fun p23 => if ¬ (p23.2 : Int32) = 0 then RS (ZZ L xs) (d + 1) mX13_pence 42 [some (.ref o), some (.int i1), some (.int i2), some (.int p23.2), some (.int i1), some (.int 0), some (.int 0), none] [] p23.1 else some (p23.1, some (.int 0)) else RS (ZZ L xs) (d + 1) mX13_pence 20 [some (.ref o), some (.int i1), some (.int i2), none, none, none, none, none] [] p14.1 := by
  refine Eq.trans (q_aload_n dX13_pence_0 (mk0 rfl) rfl rfl) ?_
  refine Eq.trans (q_iload_n dX13_pence_1 (mk0 rfl) rfl) ?_
  refine Eq.trans (q_callV (as := [.int i2]) dX13_pence_2 (mk0 rfl) rfl rfl rfl (Nat.le_of_ble_eq_true rfl) (Nat.le_of_ble_eq_true rfl)) (bind_cg fun b2 => ?_)
  refine Eq.trans (cI_bind (Or.inr rfl)) (bind_cg fun p2 => ?_)
  show RS (ZZ L xs) (d + 1) mX13_pence 5 [some (.ref o), some (.int i1), some (.int i2), none, none, none, none, none] [.int p2.2] p2.1 = _
  refine Eq.trans (q_if_eq (t := 20) dX13_pence_5 (mk0 rfl) rfl) (ite_cg ?_ ?_)
  · rfl
  · refine Eq.trans (q_iload_n dX13_pence_8 (mk0 rfl) rfl) ?_
    refine Eq.trans (q_i2l dX13_pence_9 (mk0 rfl)) ?_
    refine Eq.trans (q_lconst (v := 0) dX13_pence_10 (mk0 rfl) rfl) ?_
    refine Eq.trans (q_ldc2 (v := 9999) dX13_pence_11 (mk0 rfl) rfl) ?_
    refine Eq.trans (q_callS (as := [.long ((i1 : Int32).toInt64), .long 0, .long 9999]) dX13_pence_14 (mk0 rfl) rfl (Or.inl rfl) rfl rfl (Nat.le_of_ble_eq_true rfl) (Nat.le_of_ble_eq_true rfl)) ?_
    refine Eq.trans (cI_bind (Or.inr rfl)) (bind_cg fun p14 => ?_)
    show RS (ZZ L xs) (d + 1) mX13_pence 17 [some (.ref o), some (.int i1), some (.int i2), none, none, none, none, none] [.int p14.2] p14.1 = _
    refine Eq.trans (q_if_ne (t := 22) dX13_pence_17 (mk0 rfl) rfl) (ite_cg ?_ ?_)
    · refine Eq.trans (q_aload_n dX13_pence_22 (mk0 rfl) rfl rfl) ?_
      refine Eq.trans (q_callV (as := []) dX13_pence_23 (mk0 rfl) rfl rfl rfl (Nat.le_of_ble_eq_true rfl) (Nat.le_of_ble_eq_true rfl)) (bind_cg fun b23 => ?_)
      refine Eq.trans (cI_bind (Or.inl rfl)) (bind_cg fun p23 => ?_)
      show RS (ZZ L xs) (d + 1) mX13_pence 26 [some (.ref o), some (.int i1), some (.int i2), none, none, none, none, none] [.int p23.2] p23.1 = _
      refine Eq.trans (q_istore_n (lv2 := [some (.ref o), some (.int i1), some (.int i2), some (.int p23.2), none, none, none, none]) dX13_pence_26 (mk0 rfl) (Nat.le_of_ble_eq_true rfl) rfl) ?_
      refine Eq.trans (q_iload_n dX13_pence_27 (mk0 rfl) rfl) ?_
      refine Eq.trans (q_if_ne (t := 33) dX13_pence_28 (mk0 rfl) rfl) (ite_cg ?_ ?_)
      · refine Eq.trans (q_iload_n dX13_pence_33 (mk0 rfl) rfl) ?_
        refine Eq.trans (q_istore (lv2 := [some (.ref o), some (.int i1), some (.int i2), some (.int p23.2), some (.int i1), none, none, none]) dX13_pence_34 (mk0 rfl) (Nat.le_of_ble_eq_true rfl) rfl) ?_
        refine Eq.trans (q_iconst (v := 0) dX13_pence_36 (mk0 rfl) rfl) ?_
        refine Eq.trans (q_istore (lv2 := [some (.ref o), some (.int i1), some (.int i2), some (.int p23.2), some (.int i1), some (.int 0), none, none]) dX13_pence_37 (mk0 rfl) (Nat.le_of_ble_eq_true rfl) rfl) ?_
        refine Eq.trans (q_iconst (v := 0) dX13_pence_39 (mk0 rfl) rfl) ?_
        refine Eq.trans (q_istore (lv2 := [some (.ref o), some (.int i1), some (.int i2), some (.int p23.2), some (.int i1), some (.int 0), some (.int 0), none]) dX13_pence_40 (mk0 rfl) (Nat.le_of_ble_eq_true rfl) rfl) ?_
        rfl
      · refine Eq.trans (q_iconst (v := 0) dX13_pence_31 (mk0 rfl) rfl) ?_
        exact q_ireturn dX13_pence_32 (mk0 rfl) rfl
    · rfl
set_option maxRecDepth 20000 in
theorem bX13_pence_20 {L : Nat} {xs : Nat → Int32} (d : Nat) (u0 : Option Value) (u1 : Option Value) (u2 : Option Value) (u3 : Option Value) (u4 : Option Value) (u5 : Option Value) (u6 : Option Value) (u7 : Option Value) (ph : PH) : RS (ZZ L xs) (d + 1) mX13_pence 20 [u0, u1, u2, u3, u4, u5, u6, u7] [] ph = some (ph, some (.int ((-1)))) := by
  refine Eq.trans (q_iconst (v := (-1)) dX13_pence_20 (show mK mX13_pence 20 [u0, u1, u2, u3, u4, u5, u6, u7] = [none, none, none, none, none, none, none, none] from rfl) rfl) ?_
  exact q_ireturn dX13_pence_21 (mk0 rfl) rfl
set_option maxRecDepth 20000 in
theorem bX13_pence_42 {L : Nat} {xs : Nat → Int32} (d : Nat) (o : Nat) (i1 : Int32) (i2 : Int32) (i3 : Int32) (i4 : Int32) (i5 : Int32) (i6 : Int32) (u7 : Option Value) (ph : PH) : RS (ZZ L xs) (d + 1) mX13_pence 42 [some (.ref o), some (.int i1), some (.int i2), some (.int i3), some (.int i4), some (.int i5), some (.int i6), u7] [] ph = (fR ph (.ref o) 13 1).bind fun x45 => (eI ph x45 2).bind fun x49 => if (x49 : Int32) ≤ i6 then (fR ph (.ref o) 13 5).bind fun x127 => (eI ph x127 i2).bind fun x131 => if (i3 : Int32) = 0 then none else if (i4 : Int32) ≤ i5 then RS (ZZ L xs) (d + 1) mX13_pence 147 [some (.ref o), some (.int i1), some (.int i2), some (.int i3), some (.int i4), some (.int i5), some (.int i6), none] [.int 0, .int ((i1 * x131) / i3)] ph else RS (ZZ L xs) (d + 1) mX13_pence 147 [some (.ref o), some (.int i1), some (.int i2), some (.int i3), some (.int i4), some (.int i5), some (.int i6), none] [.int 1, .int ((i1 * x131) / i3)] ph else (fR ph (.ref o) 13 5).bind fun x57 => (eI ph x57 i6).bind fun x62 => if (i3 : Int32) = 0 then none else (fR ph (.ref o) 13 5).bind fun x71 => (eI ph x71 i6).bind fun x76 => if (i3 : Int32) = 0 then none else (fR ph (.ref o) 13 5).bind fun x82 => (eI ph x82 i2).bind fun x86 => if (i3 : Int32) = 0 then none else if (0 : Int32) < (iRem (i1 * x76) i3) - (iRem (i1 * x86) i3) then RS (ZZ L xs) (d + 1) mX13_pence 111 [some (.ref o), some (.int i1), some (.int i2), some (.int i3), some (.int (i4 - ((i1 * x62) / i3))), some (.int i5), some (.int i6), some (.int ((iRem (i1 * x76) i3) - (iRem (i1 * x86) i3)))] [.int i5] ph else if ¬ ((iRem (i1 * x76) i3) - (iRem (i1 * x86) i3) : Int32) = 0 then RS (ZZ L xs) (d + 1) mX13_pence 115 [some (.ref o), some (.int i1), some (.int i2), some (.int i3), some (.int (i4 - ((i1 * x62) / i3))), some (.int i5), some (.int i6), some (.int ((iRem (i1 * x76) i3) - (iRem (i1 * x86) i3)))] [.int i5] ph else if (i2 : Int32) ≤ i6 then RS (ZZ L xs) (d + 1) mX13_pence 115 [some (.ref o), some (.int i1), some (.int i2), some (.int i3), some (.int (i4 - ((i1 * x62) / i3))), some (.int i5), some (.int i6), some (.int ((iRem (i1 * x76) i3) - (iRem (i1 * x86) i3)))] [.int i5] ph else RS (ZZ L xs) (d + 1) mX13_pence 111 [some (.ref o), some (.int i1), some (.int i2), some (.int i3), some (.int (i4 - ((i1 * x62) / i3))), some (.int i5), some (.int i6), some (.int ((iRem (i1 * x76) i3) - (iRem (i1 * x86) i3)))] [.int i5] ph := by
  refine Eq.trans (q_iload dX13_pence_42 (show mK mX13_pence 42 [some (.ref o), some (.int i1), some (.int i2), some (.int i3), some (.int i4), some (.int i5), some (.int i6), u7] = [some (.ref o), some (.int i1), some (.int i2), some (.int i3), some (.int i4), some (.int i5), some (.int i6), none] from rfl) rfl) ?_
  refine Eq.trans (q_aload_n dX13_pence_44 (mk0 rfl) rfl rfl) ?_
  refine Eq.trans (q_getR (ci := 13) (k := 1) dX13_pence_45 (mk0 rfl) rfl) (bind_cg2 fun x45 hx45 => ?_)
  have hx45 := fR_isR hx45
  refine Eq.trans (q_iconst (v := 2) dX13_pence_48 (mk0 rfl) rfl) ?_
  refine Eq.trans (q_iaload dX13_pence_49 (mk0 rfl) (no_ext hx45)) (bind_cg fun x49 => ?_)
  refine Eq.trans (q_icmp_ge (t := 125) dX13_pence_50 (mk0 rfl) rfl) (ite_cg ?_ ?_)
  · refine Eq.trans (q_iload_n dX13_pence_125 (mk0 rfl) rfl) ?_
    refine Eq.trans (q_aload_n dX13_pence_126 (mk0 rfl) rfl rfl) ?_
    refine Eq.trans (q_getR (ci := 13) (k := 5) dX13_pence_127 (mk0 rfl) rfl) (bind_cg2 fun x127 hx127 => ?_)
    have hx127 := fR_isR hx127
    refine Eq.trans (q_iload_n dX13_pence_130 (mk0 rfl) rfl) ?_
    refine Eq.trans (q_iaload dX13_pence_131 (mk0 rfl) (no_ext hx127)) (bind_cg fun x131 => ?_)
    refine Eq.trans (q_imul dX13_pence_132 (mk0 rfl)) ?_
    refine Eq.trans (q_iload_n dX13_pence_133 (mk0 rfl) rfl) ?_
    refine Eq.trans (q_idiv dX13_pence_134 (mk0 rfl)) (ite_cg rfl ?_)
    refine Eq.trans (q_iload dX13_pence_135 (mk0 rfl) rfl) ?_
    refine Eq.trans (q_iload dX13_pence_137 (mk0 rfl) rfl) ?_
    refine Eq.trans (q_icmp_ge (t := 146) dX13_pence_139 (mk0 rfl) rfl) (ite_cg ?_ ?_)
    · refine Eq.trans (q_iconst (v := 0) dX13_pence_146 (mk0 rfl) rfl) ?_
      rfl
    · refine Eq.trans (q_iconst (v := 1) dX13_pence_142 (mk0 rfl) rfl) ?_
      refine Eq.trans (q_goto (t := 147) dX13_pence_143 (mk0 rfl) rfl) ?_
      rfl
  · refine Eq.trans (q_iload dX13_pence_53 (mk0 rfl) rfl) ?_
    refine Eq.trans (q_iload_n dX13_pence_55 (mk0 rfl) rfl) ?_
    refine Eq.trans (q_aload_n dX13_pence_56 (mk0 rfl) rfl rfl) ?_
    refine Eq.trans (q_getR (ci := 13) (k := 5) dX13_pence_57 (mk0 rfl) rfl) (bind_cg2 fun x57 hx57 => ?_)
    have hx57 := fR_isR hx57
    refine Eq.trans (q_iload dX13_pence_60 (mk0 rfl) rfl) ?_
    refine Eq.trans (q_iaload dX13_pence_62 (mk0 rfl) (no_ext hx57)) (bind_cg fun x62 => ?_)
    refine Eq.trans (q_imul dX13_pence_63 (mk0 rfl)) ?_
    refine Eq.trans (q_iload_n dX13_pence_64 (mk0 rfl) rfl) ?_
    refine Eq.trans (q_idiv dX13_pence_65 (mk0 rfl)) (ite_cg rfl ?_)
    refine Eq.trans (q_isub dX13_pence_66 (mk0 rfl)) ?_
    refine Eq.trans (q_istore (lv2 := [some (.ref o), some (.int i1), some (.int i2), some (.int i3), some (.int (i4 - ((i1 * x62) / i3))), some (.int i5), some (.int i6), none]) dX13_pence_67 (mk0 rfl) (Nat.le_of_ble_eq_true rfl) rfl) ?_
    refine Eq.trans (q_iload_n dX13_pence_69 (mk0 rfl) rfl) ?_
    refine Eq.trans (q_aload_n dX13_pence_70 (mk0 rfl) rfl rfl) ?_
    refine Eq.trans (q_getR (ci := 13) (k := 5) dX13_pence_71 (mk0 rfl) rfl) (bind_cg2 fun x71 hx71 => ?_)
    have hx71 := fR_isR hx71
    refine Eq.trans (q_iload dX13_pence_74 (mk0 rfl) rfl) ?_
    refine Eq.trans (q_iaload dX13_pence_76 (mk0 rfl) (no_ext hx71)) (bind_cg fun x76 => ?_)
    refine Eq.trans (q_imul dX13_pence_77 (mk0 rfl)) ?_
    refine Eq.trans (q_iload_n dX13_pence_78 (mk0 rfl) rfl) ?_
    refine Eq.trans (q_irem dX13_pence_79 (mk0 rfl)) (ite_cg rfl ?_)
    refine Eq.trans (q_iload_n dX13_pence_80 (mk0 rfl) rfl) ?_
    refine Eq.trans (q_aload_n dX13_pence_81 (mk0 rfl) rfl rfl) ?_
    refine Eq.trans (q_getR (ci := 13) (k := 5) dX13_pence_82 (mk0 rfl) rfl) (bind_cg2 fun x82 hx82 => ?_)
    have hx82 := fR_isR hx82
    refine Eq.trans (q_iload_n dX13_pence_85 (mk0 rfl) rfl) ?_
    refine Eq.trans (q_iaload dX13_pence_86 (mk0 rfl) (no_ext hx82)) (bind_cg fun x86 => ?_)
    refine Eq.trans (q_imul dX13_pence_87 (mk0 rfl)) ?_
    refine Eq.trans (q_iload_n dX13_pence_88 (mk0 rfl) rfl) ?_
    refine Eq.trans (q_irem dX13_pence_89 (mk0 rfl)) (ite_cg rfl ?_)
    refine Eq.trans (q_isub dX13_pence_90 (mk0 rfl)) ?_
    refine Eq.trans (q_istore (lv2 := [some (.ref o), some (.int i1), some (.int i2), some (.int i3), some (.int (i4 - ((i1 * x62) / i3))), some (.int i5), some (.int i6), some (.int ((iRem (i1 * x76) i3) - (iRem (i1 * x86) i3)))]) dX13_pence_91 (mk0 rfl) (Nat.le_of_ble_eq_true rfl) rfl) ?_
    refine Eq.trans (q_iload dX13_pence_93 (mk0 rfl) rfl) ?_
    refine Eq.trans (q_iload dX13_pence_95 (mk0 rfl) rfl) ?_
    refine Eq.trans (q_if_gt (t := 111) dX13_pence_97 (mk0 rfl) rfl) (ite_cg ?_ ?_)
    · rfl
    · refine Eq.trans (q_iload dX13_pence_100 (mk0 rfl) rfl) ?_
      refine Eq.trans (q_if_ne (t := 115) dX13_pence_102 (mk0 rfl) rfl) (ite_cg ?_ ?_)
      · rfl
      · refine Eq.trans (q_iload dX13_pence_105 (mk0 rfl) rfl) ?_
        refine Eq.trans (q_iload_n dX13_pence_107 (mk0 rfl) rfl) ?_
        refine Eq.trans (q_icmp_ge (t := 115) dX13_pence_108 (mk0 rfl) rfl) (ite_cg ?_ ?_)
        · rfl
        · rfl
set_option maxRecDepth 20000 in
theorem bX13_pence_111 {L : Nat} {xs : Nat → Int32} (d : Nat) (o : Nat) (i1 : Int32) (i2 : Int32) (i3 : Int32) (i4 : Int32) (u5 : Option Value) (i6 : Int32) (u7 : Option Value) (t0 : Int32) (ph : PH) : RS (ZZ L xs) (d + 1) mX13_pence 111 [some (.ref o), some (.int i1), some (.int i2), some (.int i3), some (.int i4), u5, some (.int i6), u7] [.int t0] ph = RS (ZZ L xs) (d + 1) mX13_pence 116 [some (.ref o), some (.int i1), some (.int i2), some (.int i3), some (.int i4), none, some (.int i6), none] [.int 1, .int t0] ph := by
  refine Eq.trans (q_iconst (v := 1) dX13_pence_111 (show mK mX13_pence 111 [some (.ref o), some (.int i1), some (.int i2), some (.int i3), some (.int i4), u5, some (.int i6), u7] = [some (.ref o), some (.int i1), some (.int i2), some (.int i3), some (.int i4), none, some (.int i6), none] from rfl) rfl) ?_
  refine Eq.trans (q_goto (t := 116) dX13_pence_112 (mk0 rfl) rfl) ?_
  rfl
set_option maxRecDepth 20000 in
theorem bX13_pence_115 {L : Nat} {xs : Nat → Int32} (d : Nat) (o : Nat) (i1 : Int32) (i2 : Int32) (i3 : Int32) (i4 : Int32) (u5 : Option Value) (i6 : Int32) (u7 : Option Value) (t0 : Int32) (ph : PH) : RS (ZZ L xs) (d + 1) mX13_pence 115 [some (.ref o), some (.int i1), some (.int i2), some (.int i3), some (.int i4), u5, some (.int i6), u7] [.int t0] ph = RS (ZZ L xs) (d + 1) mX13_pence 116 [some (.ref o), some (.int i1), some (.int i2), some (.int i3), some (.int i4), none, some (.int i6), none] [.int 0, .int t0] ph := by
  refine Eq.trans (q_iconst (v := 0) dX13_pence_115 (show mK mX13_pence 115 [some (.ref o), some (.int i1), some (.int i2), some (.int i3), some (.int i4), u5, some (.int i6), u7] = [some (.ref o), some (.int i1), some (.int i2), some (.int i3), some (.int i4), none, some (.int i6), none] from rfl) rfl) ?_
  rfl
set_option maxRecDepth 20000 in
theorem bX13_pence_116 {L : Nat} {xs : Nat → Int32} (d : Nat) (o : Nat) (i1 : Int32) (i2 : Int32) (i3 : Int32) (i4 : Int32) (u5 : Option Value) (i6 : Int32) (u7 : Option Value) (t0 : Int32) (t1 : Int32) (ph : PH) : RS (ZZ L xs) (d + 1) mX13_pence 116 [some (.ref o), some (.int i1), some (.int i2), some (.int i3), some (.int i4), u5, some (.int i6), u7] [.int t0, .int t1] ph = RS (ZZ L xs) (d + 1) mX13_pence 42 [some (.ref o), some (.int i1), some (.int i2), some (.int i3), some (.int i4), some (.int (t1 + t0)), some (.int (i6 + 1)), none] [] ph := by
  refine Eq.trans (q_iadd dX13_pence_116 (show mK mX13_pence 116 [some (.ref o), some (.int i1), some (.int i2), some (.int i3), some (.int i4), u5, some (.int i6), u7] = [some (.ref o), some (.int i1), some (.int i2), some (.int i3), some (.int i4), none, some (.int i6), none] from rfl)) ?_
  refine Eq.trans (q_istore (lv2 := [some (.ref o), some (.int i1), some (.int i2), some (.int i3), some (.int i4), some (.int (t1 + t0)), some (.int i6), none]) dX13_pence_117 (mk0 rfl) (Nat.le_of_ble_eq_true rfl) rfl) ?_
  refine Eq.trans (q_iinc (v := 1) (lv2 := [some (.ref o), some (.int i1), some (.int i2), some (.int i3), some (.int i4), some (.int (t1 + t0)), some (.int (i6 + 1)), none]) dX13_pence_119 (mk0 rfl) rfl rfl rfl) ?_
  refine Eq.trans (q_goto (t := 42) dX13_pence_122 (mk0 rfl) rfl) ?_
  rfl
set_option maxRecDepth 20000 in
theorem bX13_pence_147 {L : Nat} {xs : Nat → Int32} (d : Nat) (u0 : Option Value) (u1 : Option Value) (u2 : Option Value) (u3 : Option Value) (u4 : Option Value) (u5 : Option Value) (u6 : Option Value) (u7 : Option Value) (t0 : Int32) (t1 : Int32) (ph : PH) : RS (ZZ L xs) (d + 1) mX13_pence 147 [u0, u1, u2, u3, u4, u5, u6, u7] [.int t0, .int t1] ph = some (ph, some (.int (t1 + t0))) := by
  refine Eq.trans (q_iadd dX13_pence_147 (show mK mX13_pence 147 [u0, u1, u2, u3, u4, u5, u6, u7] = [none, none, none, none, none, none, none, none] from rfl)) ?_
  exact q_ireturn dX13_pence_148 (mk0 rfl) rfl
set_option maxRecDepth 20000 in
theorem bX13_note_0 {L : Nat} {xs : Nat → Int32} (d : Nat) (o : Nat) (i1 : Int32) (i2 : Int32) (i3 : Int32) (ph : PH) : RS (ZZ L xs) (d + 1) mX13_note 0 [some (.ref o), some (.int i1), some (.int i2), some (.int i3), none] [] ph = if ¬ (i1 : Int32) = (-1) then (fR ph (.ref o) 13 1).bind fun x16 => (eI ph x16 7).bind fun x21 => (cI (ZZ L xs) d mX13_in [.long ((i1 : Int32).toInt64), .long 0, .long 60] ph).bind fun p30 => if (p30.2 : Int32) = 0 then RS (ZZ L xs) (d + 1) mX13_note 64 [some (.ref o), some (.int i1), some (.int i2), some (.int i3), some (.int x21)] [] p30.1 else (iO p30.1 (.ref o) 13).bind fun b38 => (cI (ZZ L xs) d mX13_isStranger [.ref b38, .int i2] p30.1).bind fun p38 => if (p38.2 : Int32) = 0 then RS (ZZ L xs) (d + 1) mX13_note 64 [some (.ref o), some (.int i1), some (.int i2), some (.int i3), some (.int x21)] [] p38.1 else if (i3 : Int32) = (-1) then RS (ZZ L xs) (d + 1) mX13_note 57 [some (.ref o), some (.int i1), some (.int i2), some (.int i3), some (.int x21)] [] p38.1 else (iO p38.1 (.ref o) 13).bind fun b51 => (cI (ZZ L xs) d mX13_isPerson [.ref b51, .int i3] p38.1).bind fun p51 => if (p51.2 : Int32) = 0 then RS (ZZ L xs) (d + 1) mX13_note 64 [some (.ref o), some (.int i1), some (.int i2), some (.int i3), some (.int x21)] [] p51.1 else RS (ZZ L xs) (d + 1) mX13_note 57 [some (.ref o), some (.int i1), some (.int i2), some (.int i3), some (.int x21)] [] p51.1 else (fR ph (.ref o) 13 1).bind fun x6 => (wI ph x6 7 0).bind fun h12 => some (h12, some (.int 0)) := by
  refine Eq.trans (q_iload_n dX13_note_0 (mk0 rfl) rfl) ?_
  refine Eq.trans (q_iconst (v := (-1)) dX13_note_1 (mk0 rfl) rfl) ?_
  refine Eq.trans (q_icmp_ne (t := 15) dX13_note_2 (mk0 rfl) rfl) (ite_cg ?_ ?_)
  · refine Eq.trans (q_aload_n dX13_note_15 (mk0 rfl) rfl rfl) ?_
    refine Eq.trans (q_getR (ci := 13) (k := 1) dX13_note_16 (mk0 rfl) rfl) (bind_cg2 fun x16 hx16 => ?_)
    have hx16 := fR_isR hx16
    refine Eq.trans (q_bipush (v := 7) dX13_note_19 (mk0 rfl) rfl) ?_
    refine Eq.trans (q_iaload dX13_note_21 (mk0 rfl) (no_ext hx16)) (bind_cg fun x21 => ?_)
    refine Eq.trans (q_istore (lv2 := [some (.ref o), some (.int i1), some (.int i2), some (.int i3), some (.int x21)]) dX13_note_22 (mk0 rfl) (Nat.le_of_ble_eq_true rfl) rfl) ?_
    refine Eq.trans (q_iload_n dX13_note_24 (mk0 rfl) rfl) ?_
    refine Eq.trans (q_i2l dX13_note_25 (mk0 rfl)) ?_
    refine Eq.trans (q_lconst (v := 0) dX13_note_26 (mk0 rfl) rfl) ?_
    refine Eq.trans (q_ldc2 (v := 60) dX13_note_27 (mk0 rfl) rfl) ?_
    refine Eq.trans (q_callS (as := [.long ((i1 : Int32).toInt64), .long 0, .long 60]) dX13_note_30 (mk0 rfl) rfl (Or.inl rfl) rfl rfl (Nat.le_of_ble_eq_true rfl) (Nat.le_of_ble_eq_true rfl)) ?_
    refine Eq.trans (cI_bind (Or.inr rfl)) (bind_cg fun p30 => ?_)
    show RS (ZZ L xs) (d + 1) mX13_note 33 [some (.ref o), some (.int i1), some (.int i2), some (.int i3), some (.int x21)] [.int p30.2] p30.1 = _
    refine Eq.trans (q_if_eq (t := 64) dX13_note_33 (mk0 rfl) rfl) (ite_cg ?_ ?_)
    · rfl
    · refine Eq.trans (q_aload_n dX13_note_36 (mk0 rfl) rfl rfl) ?_
      refine Eq.trans (q_iload_n dX13_note_37 (mk0 rfl) rfl) ?_
      refine Eq.trans (q_callV (as := [.int i2]) dX13_note_38 (mk0 rfl) rfl rfl rfl (Nat.le_of_ble_eq_true rfl) (Nat.le_of_ble_eq_true rfl)) (bind_cg fun b38 => ?_)
      refine Eq.trans (cI_bind (Or.inr rfl)) (bind_cg fun p38 => ?_)
      show RS (ZZ L xs) (d + 1) mX13_note 41 [some (.ref o), some (.int i1), some (.int i2), some (.int i3), some (.int x21)] [.int p38.2] p38.1 = _
      refine Eq.trans (q_if_eq (t := 64) dX13_note_41 (mk0 rfl) rfl) (ite_cg ?_ ?_)
      · rfl
      · refine Eq.trans (q_iload_n dX13_note_44 (mk0 rfl) rfl) ?_
        refine Eq.trans (q_iconst (v := (-1)) dX13_note_45 (mk0 rfl) rfl) ?_
        refine Eq.trans (q_icmp_eq (t := 57) dX13_note_46 (mk0 rfl) rfl) (ite_cg ?_ ?_)
        · rfl
        · refine Eq.trans (q_aload_n dX13_note_49 (mk0 rfl) rfl rfl) ?_
          refine Eq.trans (q_iload_n dX13_note_50 (mk0 rfl) rfl) ?_
          refine Eq.trans (q_callV (as := [.int i3]) dX13_note_51 (mk0 rfl) rfl rfl rfl (Nat.le_of_ble_eq_true rfl) (Nat.le_of_ble_eq_true rfl)) (bind_cg fun b51 => ?_)
          refine Eq.trans (cI_bind (Or.inr rfl)) (bind_cg fun p51 => ?_)
          show RS (ZZ L xs) (d + 1) mX13_note 54 [some (.ref o), some (.int i1), some (.int i2), some (.int i3), some (.int x21)] [.int p51.2] p51.1 = _
          refine Eq.trans (q_if_eq (t := 64) dX13_note_54 (mk0 rfl) rfl) (ite_cg ?_ ?_)
          · rfl
          · rfl
  · refine Eq.trans (q_aload_n dX13_note_5 (mk0 rfl) rfl rfl) ?_
    refine Eq.trans (q_getR (ci := 13) (k := 1) dX13_note_6 (mk0 rfl) rfl) (bind_cg2 fun x6 hx6 => ?_)
    have hx6 := fR_isR hx6
    refine Eq.trans (q_bipush (v := 7) dX13_note_9 (mk0 rfl) rfl) ?_
    refine Eq.trans (q_iconst (v := 0) dX13_note_11 (mk0 rfl) rfl) ?_
    refine Eq.trans (q_iastore dX13_note_12 (mk0 rfl)) (bind_cg fun h12 => ?_)
    refine Eq.trans (q_iconst (v := 0) dX13_note_13 (mk0 rfl) rfl) ?_
    exact q_ireturn dX13_note_14 (mk0 rfl) rfl
set_option maxRecDepth 20000 in
theorem bX13_note_57 {L : Nat} {xs : Nat → Int32} (d : Nat) (o : Nat) (i1 : Int32) (i2 : Int32) (i3 : Int32) (i4 : Int32) (ph : PH) : RS (ZZ L xs) (d + 1) mX13_note 57 [some (.ref o), some (.int i1), some (.int i2), some (.int i3), some (.int i4)] [] ph = if ¬ (i4 : Int32) = 10 then (fR ph (.ref o) 13 14).bind fun x68 => (wI ph x68 i4 i1).bind fun h74 => (fR h74 (.ref o) 13 15).bind fun x76 => (wI h74 x76 i4 i2).bind fun h82 => (fR h82 (.ref o) 13 16).bind fun x84 => (wI h82 x84 i4 i3).bind fun h90 => (fR h90 (.ref o) 13 1).bind fun x92 => (eI h90 x92 7).bind fun x98 => (wI h90 x92 7 (x98 + 1)).bind fun h101 => some (h101, some (.int (i4 + 1))) else RS (ZZ L xs) (d + 1) mX13_note 64 [some (.ref o), some (.int i1), some (.int i2), some (.int i3), some (.int i4)] [] ph := by
  refine Eq.trans (q_iload dX13_note_57 (mk0 rfl) rfl) ?_
  refine Eq.trans (q_bipush (v := 10) dX13_note_59 (mk0 rfl) rfl) ?_
  refine Eq.trans (q_icmp_ne (t := 67) dX13_note_61 (mk0 rfl) rfl) (ite_cg ?_ ?_)
  · refine Eq.trans (q_aload_n dX13_note_67 (mk0 rfl) rfl rfl) ?_
    refine Eq.trans (q_getR (ci := 13) (k := 14) dX13_note_68 (mk0 rfl) rfl) (bind_cg2 fun x68 hx68 => ?_)
    have hx68 := fR_isR hx68
    refine Eq.trans (q_iload dX13_note_71 (mk0 rfl) rfl) ?_
    refine Eq.trans (q_iload_n dX13_note_73 (mk0 rfl) rfl) ?_
    refine Eq.trans (q_iastore dX13_note_74 (mk0 rfl)) (bind_cg fun h74 => ?_)
    refine Eq.trans (q_aload_n dX13_note_75 (mk0 rfl) rfl rfl) ?_
    refine Eq.trans (q_getR (ci := 13) (k := 15) dX13_note_76 (mk0 rfl) rfl) (bind_cg2 fun x76 hx76 => ?_)
    have hx76 := fR_isR hx76
    refine Eq.trans (q_iload dX13_note_79 (mk0 rfl) rfl) ?_
    refine Eq.trans (q_iload_n dX13_note_81 (mk0 rfl) rfl) ?_
    refine Eq.trans (q_iastore dX13_note_82 (mk0 rfl)) (bind_cg fun h82 => ?_)
    refine Eq.trans (q_aload_n dX13_note_83 (mk0 rfl) rfl rfl) ?_
    refine Eq.trans (q_getR (ci := 13) (k := 16) dX13_note_84 (mk0 rfl) rfl) (bind_cg2 fun x84 hx84 => ?_)
    have hx84 := fR_isR hx84
    refine Eq.trans (q_iload dX13_note_87 (mk0 rfl) rfl) ?_
    refine Eq.trans (q_iload_n dX13_note_89 (mk0 rfl) rfl) ?_
    refine Eq.trans (q_iastore dX13_note_90 (mk0 rfl)) (bind_cg fun h90 => ?_)
    refine Eq.trans (q_aload_n dX13_note_91 (mk0 rfl) rfl rfl) ?_
    refine Eq.trans (q_getR (ci := 13) (k := 1) dX13_note_92 (mk0 rfl) rfl) (bind_cg2 fun x92 hx92 => ?_)
    have hx92 := fR_isR hx92
    refine Eq.trans (q_bipush (v := 7) dX13_note_95 (mk0 rfl) rfl) ?_
    refine Eq.trans (q_dup2 dX13_note_97 (mk0 rfl) rfl (cat_R hx92)) ?_
    refine Eq.trans (q_iaload dX13_note_98 (mk0 rfl) (no_ext hx92)) (bind_cg fun x98 => ?_)
    refine Eq.trans (q_iconst (v := 1) dX13_note_99 (mk0 rfl) rfl) ?_
    refine Eq.trans (q_iadd dX13_note_100 (mk0 rfl)) ?_
    refine Eq.trans (q_iastore dX13_note_101 (mk0 rfl)) (bind_cg fun h101 => ?_)
    refine Eq.trans (q_iload dX13_note_102 (mk0 rfl) rfl) ?_
    refine Eq.trans (q_iconst (v := 1) dX13_note_104 (mk0 rfl) rfl) ?_
    refine Eq.trans (q_iadd dX13_note_105 (mk0 rfl)) ?_
    exact q_ireturn dX13_note_106 (mk0 rfl) rfl
  · rfl
set_option maxRecDepth 20000 in
theorem bX13_note_64 {L : Nat} {xs : Nat → Int32} (d : Nat) (u0 : Option Value) (u1 : Option Value) (u2 : Option Value) (u3 : Option Value) (u4 : Option Value) (ph : PH) : RS (ZZ L xs) (d + 1) mX13_note 64 [u0, u1, u2, u3, u4] [] ph = some (ph, some (.int ((-2)))) := by
  refine Eq.trans (q_bipush (v := (-2)) dX13_note_64 (show mK mX13_note 64 [u0, u1, u2, u3, u4] = [none, none, none, none, none] from rfl) rfl) ?_
  exact q_ireturn dX13_note_66 (mk0 rfl) rfl
set_option maxRecDepth 20000 in
theorem bX13_doNotesFit_0 {L : Nat} {xs : Nat → Int32} (d : Nat) (o : Nat) (ph : PH) : RS (ZZ L xs) (d + 1) mX13_doNotesFit 0 [some (.ref o), none, none] [] ph = (iO ph (.ref o) 13).bind fun b1 => (cV (ZZ L xs) d mX13_begins [.ref b1] ph).bind fun p1 => RS (ZZ L xs) (d + 1) mX13_doNotesFit 6 [some (.ref o), some (.int 0), none] [] p1 := by
  refine Eq.trans (q_aload_n dX13_doNotesFit_0 (mk0 rfl) rfl rfl) ?_
  refine Eq.trans (q_callV (as := []) dX13_doNotesFit_1 (mk0 rfl) rfl rfl rfl (Nat.le_of_ble_eq_true rfl) (Nat.le_of_ble_eq_true rfl)) (bind_cg fun b1 => ?_)
  refine Eq.trans (cV_bind rfl) (bind_cg fun p1 => ?_)
  show RS (ZZ L xs) (d + 1) mX13_doNotesFit 4 [some (.ref o), none, none] [] p1 = _
  refine Eq.trans (q_iconst (v := 0) dX13_doNotesFit_4 (mk0 rfl) rfl) ?_
  refine Eq.trans (q_istore_n (lv2 := [some (.ref o), some (.int 0), none]) dX13_doNotesFit_5 (mk0 rfl) (Nat.le_of_ble_eq_true rfl) rfl) ?_
  rfl
set_option maxRecDepth 20000 in
theorem bX13_doNotesFit_6 {L : Nat} {xs : Nat → Int32} (d : Nat) (o : Nat) (i1 : Int32) (u2 : Option Value) (ph : PH) : RS (ZZ L xs) (d + 1) mX13_doNotesFit 6 [some (.ref o), some (.int i1), u2] [] ph = if (60 : Int32) < i1 then (iO ph (.ref o) 13).bind fun b53 => (cV (ZZ L xs) d mX13_laysBack [.ref b53] ph).bind fun p53 => RS (ZZ L xs) (d + 1) mX13_doNotesFit 58 [some (.ref o), some (.int 0), none] [] p53 else (iO ph (.ref o) 13).bind fun b13 => (cI (ZZ L xs) d mX13_goes [.ref b13] ph).bind fun p13 => RS (ZZ L xs) (d + 1) mX13_doNotesFit 19 [some (.ref o), some (.int i1), some (.int 0)] [] p13.1 := by
  refine Eq.trans (q_iload_n dX13_doNotesFit_6 (show mK mX13_doNotesFit 6 [some (.ref o), some (.int i1), u2] = [some (.ref o), some (.int i1), none] from rfl) rfl) ?_
  refine Eq.trans (q_bipush (v := 60) dX13_doNotesFit_7 (mk0 rfl) rfl) ?_
  refine Eq.trans (q_icmp_gt (t := 52) dX13_doNotesFit_9 (mk0 rfl) rfl) (ite_cg ?_ ?_)
  · refine Eq.trans (q_aload_n dX13_doNotesFit_52 (mk0 rfl) rfl rfl) ?_
    refine Eq.trans (q_callV (as := []) dX13_doNotesFit_53 (mk0 rfl) rfl rfl rfl (Nat.le_of_ble_eq_true rfl) (Nat.le_of_ble_eq_true rfl)) (bind_cg fun b53 => ?_)
    refine Eq.trans (cV_bind rfl) (bind_cg fun p53 => ?_)
    show RS (ZZ L xs) (d + 1) mX13_doNotesFit 56 [some (.ref o), some (.int i1), none] [] p53 = _
    refine Eq.trans (q_iconst (v := 0) dX13_doNotesFit_56 (mk0 rfl) rfl) ?_
    refine Eq.trans (q_istore_n (lv2 := [some (.ref o), some (.int 0), none]) dX13_doNotesFit_57 (mk0 rfl) (Nat.le_of_ble_eq_true rfl) rfl) ?_
    rfl
  · refine Eq.trans (q_aload_n dX13_doNotesFit_12 (mk0 rfl) rfl rfl) ?_
    refine Eq.trans (q_callV (as := []) dX13_doNotesFit_13 (mk0 rfl) rfl rfl rfl (Nat.le_of_ble_eq_true rfl) (Nat.le_of_ble_eq_true rfl)) (bind_cg fun b13 => ?_)
    refine Eq.trans (cI_bind (Or.inl rfl)) (bind_cg fun p13 => ?_)
    show RS (ZZ L xs) (d + 1) mX13_doNotesFit 16 [some (.ref o), some (.int i1), none] [.int p13.2] p13.1 = _
    refine Eq.trans (q_pop dX13_doNotesFit_16 (mk0 rfl) rfl) ?_
    refine Eq.trans (q_iconst (v := 0) dX13_doNotesFit_17 (mk0 rfl) rfl) ?_
    refine Eq.trans (q_istore_n (lv2 := [some (.ref o), some (.int i1), some (.int 0)]) dX13_doNotesFit_18 (mk0 rfl) (Nat.le_of_ble_eq_true rfl) rfl) ?_
    rfl
set_option maxRecDepth 20000 in
theorem bX13_doNotesFit_19 {L : Nat} {xs : Nat → Int32} (d : Nat) (o : Nat) (i1 : Int32) (i2 : Int32) (ph : PH) : RS (ZZ L xs) (d + 1) mX13_doNotesFit 19 [some (.ref o), some (.int i1), some (.int i2)] [] ph = if (5 : Int32) ≤ i2 then RS (ZZ L xs) (d + 1) mX13_doNotesFit 6 [some (.ref o), some (.int (i1 + 1)), some (.int i2)] [] ph else (fR ph (.ref o) 13 57).bind fun x25 => (fR ph (.ref o) 13 48).bind fun x34 => (eI ph x34 i2).bind fun x38 => (wI ph x25 ((5 * i1) + i2) x38).bind fun h39 => RS (ZZ L xs) (d + 1) mX13_doNotesFit 19 [some (.ref o), some (.int i1), some (.int (i2 + 1))] [] h39 := by
  refine Eq.trans (q_iload_n dX13_doNotesFit_19 (mk0 rfl) rfl) ?_
  refine Eq.trans (q_iconst (v := 5) dX13_doNotesFit_20 (mk0 rfl) rfl) ?_
  refine Eq.trans (q_icmp_ge (t := 46) dX13_doNotesFit_21 (mk0 rfl) rfl) (ite_cg ?_ ?_)
  · refine Eq.trans (q_iinc (v := 1) (lv2 := [some (.ref o), some (.int (i1 + 1)), some (.int i2)]) dX13_doNotesFit_46 (mk0 rfl) rfl rfl rfl) ?_
    refine Eq.trans (q_goto (t := 6) dX13_doNotesFit_49 (mk0 rfl) rfl) ?_
    rfl
  · refine Eq.trans (q_aload_n dX13_doNotesFit_24 (mk0 rfl) rfl rfl) ?_
    refine Eq.trans (q_getR (ci := 13) (k := 57) dX13_doNotesFit_25 (mk0 rfl) rfl) (bind_cg2 fun x25 hx25 => ?_)
    have hx25 := fR_isR hx25
    refine Eq.trans (q_iconst (v := 5) dX13_doNotesFit_28 (mk0 rfl) rfl) ?_
    refine Eq.trans (q_iload_n dX13_doNotesFit_29 (mk0 rfl) rfl) ?_
    refine Eq.trans (q_imul dX13_doNotesFit_30 (mk0 rfl)) ?_
    refine Eq.trans (q_iload_n dX13_doNotesFit_31 (mk0 rfl) rfl) ?_
    refine Eq.trans (q_iadd dX13_doNotesFit_32 (mk0 rfl)) ?_
    refine Eq.trans (q_aload_n dX13_doNotesFit_33 (mk0 rfl) rfl rfl) ?_
    refine Eq.trans (q_getR (ci := 13) (k := 48) dX13_doNotesFit_34 (mk0 rfl) rfl) (bind_cg2 fun x34 hx34 => ?_)
    have hx34 := fR_isR hx34
    refine Eq.trans (q_iload_n dX13_doNotesFit_37 (mk0 rfl) rfl) ?_
    refine Eq.trans (q_iaload dX13_doNotesFit_38 (mk0 rfl) (no_ext hx34)) (bind_cg fun x38 => ?_)
    refine Eq.trans (q_iastore dX13_doNotesFit_39 (mk0 rfl)) (bind_cg fun h39 => ?_)
    refine Eq.trans (q_iinc (v := 1) (lv2 := [some (.ref o), some (.int i1), some (.int (i2 + 1))]) dX13_doNotesFit_40 (mk0 rfl) rfl rfl rfl) ?_
    refine Eq.trans (q_goto (t := 19) dX13_doNotesFit_43 (mk0 rfl) rfl) ?_
    rfl
set_option maxRecDepth 20000 in
theorem bX13_doNotesFit_58 {L : Nat} {xs : Nat → Int32} (d : Nat) (o : Nat) (i1 : Int32) (u2 : Option Value) (ph : PH) : RS (ZZ L xs) (d + 1) mX13_doNotesFit 58 [some (.ref o), some (.int i1), u2] [] ph = (fR ph (.ref o) 13 1).bind fun x60 => (eI ph x60 7).bind fun x65 => if (x65 : Int32) ≤ i1 then if (1 : Int32) = 0 ∨ (1 : Int32) = 1 then some (ph, some (.int 1)) else none else (fR ph (.ref o) 13 57).bind fun x70 => (fR ph (.ref o) 13 14).bind fun x75 => (eI ph x75 i1).bind fun x79 => (fR ph (.ref o) 13 15).bind fun x82 => (eI ph x82 i1).bind fun x86 => (eI ph x70 ((5 * x79) + x86)).bind fun x88 => (fR ph (.ref o) 13 16).bind fun x90 => (eI ph x90 i1).bind fun x94 => if (x88 : Int32) = x94 then RS (ZZ L xs) (d + 1) mX13_doNotesFit 58 [some (.ref o), some (.int (i1 + 1)), none] [] ph else if (0 : Int32) = 0 ∨ (0 : Int32) = 1 then some (ph, some (.int 0)) else none := by
  refine Eq.trans (q_iload_n dX13_doNotesFit_58 (show mK mX13_doNotesFit 58 [some (.ref o), some (.int i1), u2] = [some (.ref o), some (.int i1), none] from rfl) rfl) ?_
  refine Eq.trans (q_aload_n dX13_doNotesFit_59 (mk0 rfl) rfl rfl) ?_
  refine Eq.trans (q_getR (ci := 13) (k := 1) dX13_doNotesFit_60 (mk0 rfl) rfl) (bind_cg2 fun x60 hx60 => ?_)
  have hx60 := fR_isR hx60
  refine Eq.trans (q_bipush (v := 7) dX13_doNotesFit_63 (mk0 rfl) rfl) ?_
  refine Eq.trans (q_iaload dX13_doNotesFit_65 (mk0 rfl) (no_ext hx60)) (bind_cg fun x65 => ?_)
  refine Eq.trans (q_icmp_ge (t := 106) dX13_doNotesFit_66 (mk0 rfl) rfl) (ite_cg ?_ ?_)
  · refine Eq.trans (q_iconst (v := 1) dX13_doNotesFit_106 (mk0 rfl) rfl) ?_
    exact q_zreturn dX13_doNotesFit_107 (mk0 rfl) rfl
  · refine Eq.trans (q_aload_n dX13_doNotesFit_69 (mk0 rfl) rfl rfl) ?_
    refine Eq.trans (q_getR (ci := 13) (k := 57) dX13_doNotesFit_70 (mk0 rfl) rfl) (bind_cg2 fun x70 hx70 => ?_)
    have hx70 := fR_isR hx70
    refine Eq.trans (q_iconst (v := 5) dX13_doNotesFit_73 (mk0 rfl) rfl) ?_
    refine Eq.trans (q_aload_n dX13_doNotesFit_74 (mk0 rfl) rfl rfl) ?_
    refine Eq.trans (q_getR (ci := 13) (k := 14) dX13_doNotesFit_75 (mk0 rfl) rfl) (bind_cg2 fun x75 hx75 => ?_)
    have hx75 := fR_isR hx75
    refine Eq.trans (q_iload_n dX13_doNotesFit_78 (mk0 rfl) rfl) ?_
    refine Eq.trans (q_iaload dX13_doNotesFit_79 (mk0 rfl) (no_ext hx75)) (bind_cg fun x79 => ?_)
    refine Eq.trans (q_imul dX13_doNotesFit_80 (mk0 rfl)) ?_
    refine Eq.trans (q_aload_n dX13_doNotesFit_81 (mk0 rfl) rfl rfl) ?_
    refine Eq.trans (q_getR (ci := 13) (k := 15) dX13_doNotesFit_82 (mk0 rfl) rfl) (bind_cg2 fun x82 hx82 => ?_)
    have hx82 := fR_isR hx82
    refine Eq.trans (q_iload_n dX13_doNotesFit_85 (mk0 rfl) rfl) ?_
    refine Eq.trans (q_iaload dX13_doNotesFit_86 (mk0 rfl) (no_ext hx82)) (bind_cg fun x86 => ?_)
    refine Eq.trans (q_iadd dX13_doNotesFit_87 (mk0 rfl)) ?_
    refine Eq.trans (q_iaload dX13_doNotesFit_88 (mk0 rfl) (no_ext hx70)) (bind_cg fun x88 => ?_)
    refine Eq.trans (q_aload_n dX13_doNotesFit_89 (mk0 rfl) rfl rfl) ?_
    refine Eq.trans (q_getR (ci := 13) (k := 16) dX13_doNotesFit_90 (mk0 rfl) rfl) (bind_cg2 fun x90 hx90 => ?_)
    have hx90 := fR_isR hx90
    refine Eq.trans (q_iload_n dX13_doNotesFit_93 (mk0 rfl) rfl) ?_
    refine Eq.trans (q_iaload dX13_doNotesFit_94 (mk0 rfl) (no_ext hx90)) (bind_cg fun x94 => ?_)
    refine Eq.trans (q_icmp_eq (t := 100) dX13_doNotesFit_95 (mk0 rfl) rfl) (ite_cg ?_ ?_)
    · refine Eq.trans (q_iinc (v := 1) (lv2 := [some (.ref o), some (.int (i1 + 1)), none]) dX13_doNotesFit_100 (mk0 rfl) rfl rfl rfl) ?_
      refine Eq.trans (q_goto (t := 58) dX13_doNotesFit_103 (mk0 rfl) rfl) ?_
      rfl
    · refine Eq.trans (q_iconst (v := 0) dX13_doNotesFit_98 (mk0 rfl) rfl) ?_
      exact q_zreturn dX13_doNotesFit_99 (mk0 rfl) rfl
set_option maxRecDepth 20000 in
theorem bX13_couldRule_0 {L : Nat} {xs : Nat → Int32} (d : Nat) (o : Nat) (i1 : Int32) (ph : PH) : RS (ZZ L xs) (d + 1) mX13_couldRule 0 [some (.ref o), some (.int i1)] [] ph = (fR ph (.ref o) 13 1).bind fun x1 => (wI ph x1 9 i1).bind fun h7 => (iO h7 (.ref o) 13).bind fun b9 => (cI (ZZ L xs) d mX13_doNotesFit [.ref b9] h7).bind fun p9 => if (p9.2 : Int32) = 0 ∨ (p9.2 : Int32) = 1 then some (p9.1, some (.int p9.2)) else none := by
  refine Eq.trans (q_aload_n dX13_couldRule_0 (mk0 rfl) rfl rfl) ?_
  refine Eq.trans (q_getR (ci := 13) (k := 1) dX13_couldRule_1 (mk0 rfl) rfl) (bind_cg2 fun x1 hx1 => ?_)
  have hx1 := fR_isR hx1
  refine Eq.trans (q_bipush (v := 9) dX13_couldRule_4 (mk0 rfl) rfl) ?_
  refine Eq.trans (q_iload_n dX13_couldRule_6 (mk0 rfl) rfl) ?_
  refine Eq.trans (q_iastore dX13_couldRule_7 (mk0 rfl)) (bind_cg fun h7 => ?_)
  refine Eq.trans (q_aload_n dX13_couldRule_8 (mk0 rfl) rfl rfl) ?_
  refine Eq.trans (q_callV (as := []) dX13_couldRule_9 (mk0 rfl) rfl rfl rfl (Nat.le_of_ble_eq_true rfl) (Nat.le_of_ble_eq_true rfl)) (bind_cg fun b9 => ?_)
  refine Eq.trans (cI_bind (Or.inr rfl)) (bind_cg fun p9 => ?_)
  show RS (ZZ L xs) (d + 1) mX13_couldRule 12 [some (.ref o), some (.int i1)] [.int p9.2] p9.1 = _
  exact q_zreturn dX13_couldRule_12 (mk0 rfl) rfl
set_option maxRecDepth 20000 in
theorem bX13_ruled_0 {L : Nat} {xs : Nat → Int32} (d : Nat) (o : Nat) (i1 : Int32) (ph : PH) : RS (ZZ L xs) (d + 1) mX13_ruled 0 [some (.ref o), some (.int i1), none, none, none] [] ph = (iO ph (.ref o) 13).bind fun b1 => (cI (ZZ L xs) d mX13_isTown [.ref b1] ph).bind fun p1 => if (p1.2 : Int32) = 0 then RS (ZZ L xs) (d + 1) mX13_ruled 17 [some (.ref o), some (.int i1), none, none, none] [] p1.1 else (cI (ZZ L xs) d mX13_in [.long ((i1 : Int32).toInt64), .long 0, .long 1] p1.1).bind fun p11 => if ¬ (p11.2 : Int32) = 0 then (iO p11.1 (.ref o) 13).bind fun b21 => (cV (ZZ L xs) d mX13_keepsAll [.ref b21] p11.1).bind fun p21 => RS (ZZ L xs) (d + 1) mX13_ruled 32 [some (.ref o), some (.int i1), some (.int 0), some (.int ((-2))), some (.int ((-1)))] [] p21 else RS (ZZ L xs) (d + 1) mX13_ruled 17 [some (.ref o), some (.int i1), none, none, none] [] p11.1 := by
  refine Eq.trans (q_aload_n dX13_ruled_0 (mk0 rfl) rfl rfl) ?_
  refine Eq.trans (q_callV (as := []) dX13_ruled_1 (mk0 rfl) rfl rfl rfl (Nat.le_of_ble_eq_true rfl) (Nat.le_of_ble_eq_true rfl)) (bind_cg fun b1 => ?_)
  refine Eq.trans (cI_bind (Or.inr rfl)) (bind_cg fun p1 => ?_)
  show RS (ZZ L xs) (d + 1) mX13_ruled 4 [some (.ref o), some (.int i1), none, none, none] [.int p1.2] p1.1 = _
  refine Eq.trans (q_if_eq (t := 17) dX13_ruled_4 (mk0 rfl) rfl) (ite_cg ?_ ?_)
  · rfl
  · refine Eq.trans (q_iload_n dX13_ruled_7 (mk0 rfl) rfl) ?_
    refine Eq.trans (q_i2l dX13_ruled_8 (mk0 rfl)) ?_
    refine Eq.trans (q_lconst (v := 0) dX13_ruled_9 (mk0 rfl) rfl) ?_
    refine Eq.trans (q_lconst (v := 1) dX13_ruled_10 (mk0 rfl) rfl) ?_
    refine Eq.trans (q_callS (as := [.long ((i1 : Int32).toInt64), .long 0, .long 1]) dX13_ruled_11 (mk0 rfl) rfl (Or.inl rfl) rfl rfl (Nat.le_of_ble_eq_true rfl) (Nat.le_of_ble_eq_true rfl)) ?_
    refine Eq.trans (cI_bind (Or.inr rfl)) (bind_cg fun p11 => ?_)
    show RS (ZZ L xs) (d + 1) mX13_ruled 14 [some (.ref o), some (.int i1), none, none, none] [.int p11.2] p11.1 = _
    refine Eq.trans (q_if_ne (t := 20) dX13_ruled_14 (mk0 rfl) rfl) (ite_cg ?_ ?_)
    · refine Eq.trans (q_aload_n dX13_ruled_20 (mk0 rfl) rfl rfl) ?_
      refine Eq.trans (q_callV (as := []) dX13_ruled_21 (mk0 rfl) rfl rfl rfl (Nat.le_of_ble_eq_true rfl) (Nat.le_of_ble_eq_true rfl)) (bind_cg fun b21 => ?_)
      refine Eq.trans (cV_bind rfl) (bind_cg fun p21 => ?_)
      show RS (ZZ L xs) (d + 1) mX13_ruled 24 [some (.ref o), some (.int i1), none, none, none] [] p21 = _
      refine Eq.trans (q_iconst (v := 0) dX13_ruled_24 (mk0 rfl) rfl) ?_
      refine Eq.trans (q_istore_n (lv2 := [some (.ref o), some (.int i1), some (.int 0), none, none]) dX13_ruled_25 (mk0 rfl) (Nat.le_of_ble_eq_true rfl) rfl) ?_
      refine Eq.trans (q_bipush (v := (-2)) dX13_ruled_26 (mk0 rfl) rfl) ?_
      refine Eq.trans (q_istore_n (lv2 := [some (.ref o), some (.int i1), some (.int 0), some (.int ((-2))), none]) dX13_ruled_28 (mk0 rfl) (Nat.le_of_ble_eq_true rfl) rfl) ?_
      refine Eq.trans (q_iconst (v := (-1)) dX13_ruled_29 (mk0 rfl) rfl) ?_
      refine Eq.trans (q_istore (lv2 := [some (.ref o), some (.int i1), some (.int 0), some (.int ((-2))), some (.int ((-1)))]) dX13_ruled_30 (mk0 rfl) (Nat.le_of_ble_eq_true rfl) rfl) ?_
      rfl
    · rfl
set_option maxRecDepth 20000 in
theorem bX13_ruled_17 {L : Nat} {xs : Nat → Int32} (d : Nat) (u0 : Option Value) (u1 : Option Value) (u2 : Option Value) (u3 : Option Value) (u4 : Option Value) (ph : PH) : RS (ZZ L xs) (d + 1) mX13_ruled 17 [u0, u1, u2, u3, u4] [] ph = some (ph, some (.int ((-3)))) := by
  refine Eq.trans (q_bipush (v := (-3)) dX13_ruled_17 (show mK mX13_ruled 17 [u0, u1, u2, u3, u4] = [none, none, none, none, none] from rfl) rfl) ?_
  exact q_ireturn dX13_ruled_19 (mk0 rfl) rfl
set_option maxRecDepth 20000 in
theorem bX13_ruled_32 {L : Nat} {xs : Nat → Int32} (d : Nat) (o : Nat) (i1 : Int32) (i2 : Int32) (i3 : Int32) (i4 : Int32) (ph : PH) : RS (ZZ L xs) (d + 1) mX13_ruled 32 [some (.ref o), some (.int i1), some (.int i2), some (.int i3), some (.int i4)] [] ph = (fI ph (.ref o) 13 32).bind fun x35 => if (x35 : Int32) ≤ i4 then if ¬ (i1 : Int32) = 0 then RS (ZZ L xs) (d + 1) mX13_ruled 79 [some (.ref o), some (.int i1), some (.int i2), some (.int i3), some (.int i4)] [.int i3] ph else RS (ZZ L xs) (d + 1) mX13_ruled 79 [some (.ref o), some (.int i1), some (.int i2), some (.int i3), some (.int i4)] [.int i2] ph else (iO ph (.ref o) 13).bind fun b44 => (cI (ZZ L xs) d mX13_couldRule [.ref b44, .int i4] ph).bind fun p44 => if (p44.2 : Int32) = 0 then RS (ZZ L xs) (d + 1) mX13_ruled 64 [some (.ref o), some (.int i1), some (.int i2), some (.int i3), some (.int i4)] [] p44.1 else if ¬ (i2 : Int32) = 0 then RS (ZZ L xs) (d + 1) mX13_ruled 60 [some (.ref o), some (.int i1), some (.int i2), some (.int i3), some (.int i4)] [.int i3] p44.1 else RS (ZZ L xs) (d + 1) mX13_ruled 60 [some (.ref o), some (.int i1), some (.int i2), some (.int i3), some (.int i4)] [.int i4] p44.1 := by
  refine Eq.trans (q_iload dX13_ruled_32 (mk0 rfl) rfl) ?_
  refine Eq.trans (q_aload_n dX13_ruled_34 (mk0 rfl) rfl rfl) ?_
  refine Eq.trans (q_getI (ci := 13) (k := 32) dX13_ruled_35 (mk0 rfl) rfl) (bind_cg fun x35 => ?_)
  refine Eq.trans (q_icmp_ge (t := 70) dX13_ruled_38 (mk0 rfl) rfl) (ite_cg ?_ ?_)
  · refine Eq.trans (q_iload_n dX13_ruled_70 (mk0 rfl) rfl) ?_
    refine Eq.trans (q_if_ne (t := 78) dX13_ruled_71 (mk0 rfl) rfl) (ite_cg ?_ ?_)
    · refine Eq.trans (q_iload_n dX13_ruled_78 (mk0 rfl) rfl) ?_
      rfl
    · refine Eq.trans (q_iload_n dX13_ruled_74 (mk0 rfl) rfl) ?_
      refine Eq.trans (q_goto (t := 79) dX13_ruled_75 (mk0 rfl) rfl) ?_
      rfl
  · refine Eq.trans (q_aload_n dX13_ruled_41 (mk0 rfl) rfl rfl) ?_
    refine Eq.trans (q_iload dX13_ruled_42 (mk0 rfl) rfl) ?_
    refine Eq.trans (q_callV (as := [.int i4]) dX13_ruled_44 (mk0 rfl) rfl rfl rfl (Nat.le_of_ble_eq_true rfl) (Nat.le_of_ble_eq_true rfl)) (bind_cg fun b44 => ?_)
    refine Eq.trans (cI_bind (Or.inr rfl)) (bind_cg fun p44 => ?_)
    show RS (ZZ L xs) (d + 1) mX13_ruled 47 [some (.ref o), some (.int i1), some (.int i2), some (.int i3), some (.int i4)] [.int p44.2] p44.1 = _
    refine Eq.trans (q_if_eq (t := 64) dX13_ruled_47 (mk0 rfl) rfl) (ite_cg ?_ ?_)
    · rfl
    · refine Eq.trans (q_iload_n dX13_ruled_50 (mk0 rfl) rfl) ?_
      refine Eq.trans (q_if_ne (t := 59) dX13_ruled_51 (mk0 rfl) rfl) (ite_cg ?_ ?_)
      · refine Eq.trans (q_iload_n dX13_ruled_59 (mk0 rfl) rfl) ?_
        rfl
      · refine Eq.trans (q_iload dX13_ruled_54 (mk0 rfl) rfl) ?_
        refine Eq.trans (q_goto (t := 60) dX13_ruled_56 (mk0 rfl) rfl) ?_
        rfl
set_option maxRecDepth 20000 in
theorem bX13_ruled_60 {L : Nat} {xs : Nat → Int32} (d : Nat) (o : Nat) (i1 : Int32) (i2 : Int32) (u3 : Option Value) (i4 : Int32) (t0 : Int32) (ph : PH) : RS (ZZ L xs) (d + 1) mX13_ruled 60 [some (.ref o), some (.int i1), some (.int i2), u3, some (.int i4)] [.int t0] ph = RS (ZZ L xs) (d + 1) mX13_ruled 64 [some (.ref o), some (.int i1), some (.int (i2 + 1)), some (.int t0), some (.int i4)] [] ph := by
  refine Eq.trans (q_istore_n (lv2 := [some (.ref o), some (.int i1), some (.int i2), some (.int t0), some (.int i4)]) dX13_ruled_60 (show mK mX13_ruled 60 [some (.ref o), some (.int i1), some (.int i2), u3, some (.int i4)] = [some (.ref o), some (.int i1), some (.int i2), none, some (.int i4)] from rfl) (Nat.le_of_ble_eq_true rfl) rfl) ?_
  refine Eq.trans (q_iinc (v := 1) (lv2 := [some (.ref o), some (.int i1), some (.int (i2 + 1)), some (.int t0), some (.int i4)]) dX13_ruled_61 (mk0 rfl) rfl rfl rfl) ?_
  rfl
set_option maxRecDepth 20000 in
theorem bX13_ruled_64 {L : Nat} {xs : Nat → Int32} (d : Nat) (o : Nat) (i1 : Int32) (i2 : Int32) (i3 : Int32) (i4 : Int32) (ph : PH) : RS (ZZ L xs) (d + 1) mX13_ruled 64 [some (.ref o), some (.int i1), some (.int i2), some (.int i3), some (.int i4)] [] ph = RS (ZZ L xs) (d + 1) mX13_ruled 32 [some (.ref o), some (.int i1), some (.int i2), some (.int i3), some (.int (i4 + 1))] [] ph := by
  refine Eq.trans (q_iinc (v := 1) (lv2 := [some (.ref o), some (.int i1), some (.int i2), some (.int i3), some (.int (i4 + 1))]) dX13_ruled_64 (mk0 rfl) rfl rfl rfl) ?_
  refine Eq.trans (q_goto (t := 32) dX13_ruled_67 (mk0 rfl) rfl) ?_
  rfl
set_option maxRecDepth 20000 in
theorem bX13_ruled_79 {L : Nat} {xs : Nat → Int32} (d : Nat) (u0 : Option Value) (u1 : Option Value) (u2 : Option Value) (u3 : Option Value) (u4 : Option Value) (t0 : Int32) (ph : PH) : RS (ZZ L xs) (d + 1) mX13_ruled 79 [u0, u1, u2, u3, u4] [.int t0] ph = some (ph, some (.int t0)) := by
  exact q_ireturn dX13_ruled_79 (show mK mX13_ruled 79 [u0, u1, u2, u3, u4] = [none, none, none, none, none] from rfl) rfl
set_option maxRecDepth 20000 in
theorem bX13_liars_0 {L : Nat} {xs : Nat → Int32} (d : Nat) (o : Nat) (i1 : Int32) (ph : PH) : RS (ZZ L xs) (d + 1) mX13_liars 0 [some (.ref o), some (.int i1), none, none, none, none, none] [] ph = (iO ph (.ref o) 13).bind fun b1 => (cI (ZZ L xs) d mX13_isTown [.ref b1] ph).bind fun p1 => if (p1.2 : Int32) = 0 then RS (ZZ L xs) (d + 1) mX13_liars 19 [some (.ref o), some (.int i1), none, none, none, none, none] [] p1.1 else (cI (ZZ L xs) d mX13_in [.long ((i1 : Int32).toInt64), .long 0, .long 2] p1.1).bind fun p13 => if ¬ (p13.2 : Int32) = 0 then (iO p13.1 (.ref o) 13).bind fun b31 => (cV (ZZ L xs) d mX13_keepsAll [.ref b31] p13.1).bind fun p31 => RS (ZZ L xs) (d + 1) mX13_liars 37 [some (.ref o), some (.int i1), some (.int 0), some (.int ((-2))), some (.int 0), some (.int 0), none] [] p31 else RS (ZZ L xs) (d + 1) mX13_liars 19 [some (.ref o), some (.int i1), none, none, none, none, none] [] p13.1 := by
  refine Eq.trans (q_aload_n dX13_liars_0 (mk0 rfl) rfl rfl) ?_
  refine Eq.trans (q_callV (as := []) dX13_liars_1 (mk0 rfl) rfl rfl rfl (Nat.le_of_ble_eq_true rfl) (Nat.le_of_ble_eq_true rfl)) (bind_cg fun b1 => ?_)
  refine Eq.trans (cI_bind (Or.inr rfl)) (bind_cg fun p1 => ?_)
  show RS (ZZ L xs) (d + 1) mX13_liars 4 [some (.ref o), some (.int i1), none, none, none, none, none] [.int p1.2] p1.1 = _
  refine Eq.trans (q_if_eq (t := 19) dX13_liars_4 (mk0 rfl) rfl) (ite_cg ?_ ?_)
  · rfl
  · refine Eq.trans (q_iload_n dX13_liars_7 (mk0 rfl) rfl) ?_
    refine Eq.trans (q_i2l dX13_liars_8 (mk0 rfl)) ?_
    refine Eq.trans (q_lconst (v := 0) dX13_liars_9 (mk0 rfl) rfl) ?_
    refine Eq.trans (q_ldc2 (v := 2) dX13_liars_10 (mk0 rfl) rfl) ?_
    refine Eq.trans (q_callS (as := [.long ((i1 : Int32).toInt64), .long 0, .long 2]) dX13_liars_13 (mk0 rfl) rfl (Or.inl rfl) rfl rfl (Nat.le_of_ble_eq_true rfl) (Nat.le_of_ble_eq_true rfl)) ?_
    refine Eq.trans (cI_bind (Or.inr rfl)) (bind_cg fun p13 => ?_)
    show RS (ZZ L xs) (d + 1) mX13_liars 16 [some (.ref o), some (.int i1), none, none, none, none, none] [.int p13.2] p13.1 = _
    refine Eq.trans (q_if_ne (t := 22) dX13_liars_16 (mk0 rfl) rfl) (ite_cg ?_ ?_)
    · refine Eq.trans (q_iconst (v := 0) dX13_liars_22 (mk0 rfl) rfl) ?_
      refine Eq.trans (q_istore_n (lv2 := [some (.ref o), some (.int i1), some (.int 0), none, none, none, none]) dX13_liars_23 (mk0 rfl) (Nat.le_of_ble_eq_true rfl) rfl) ?_
      refine Eq.trans (q_bipush (v := (-2)) dX13_liars_24 (mk0 rfl) rfl) ?_
      refine Eq.trans (q_istore_n (lv2 := [some (.ref o), some (.int i1), some (.int 0), some (.int ((-2))), none, none, none]) dX13_liars_26 (mk0 rfl) (Nat.le_of_ble_eq_true rfl) rfl) ?_
      refine Eq.trans (q_iconst (v := 0) dX13_liars_27 (mk0 rfl) rfl) ?_
      refine Eq.trans (q_istore (lv2 := [some (.ref o), some (.int i1), some (.int 0), some (.int ((-2))), some (.int 0), none, none]) dX13_liars_28 (mk0 rfl) (Nat.le_of_ble_eq_true rfl) rfl) ?_
      refine Eq.trans (q_aload_n dX13_liars_30 (mk0 rfl) rfl rfl) ?_
      refine Eq.trans (q_callV (as := []) dX13_liars_31 (mk0 rfl) rfl rfl rfl (Nat.le_of_ble_eq_true rfl) (Nat.le_of_ble_eq_true rfl)) (bind_cg fun b31 => ?_)
      refine Eq.trans (cV_bind rfl) (bind_cg fun p31 => ?_)
      show RS (ZZ L xs) (d + 1) mX13_liars 34 [some (.ref o), some (.int i1), some (.int 0), some (.int ((-2))), some (.int 0), none, none] [] p31 = _
      refine Eq.trans (q_iconst (v := 0) dX13_liars_34 (mk0 rfl) rfl) ?_
      refine Eq.trans (q_istore (lv2 := [some (.ref o), some (.int i1), some (.int 0), some (.int ((-2))), some (.int 0), some (.int 0), none]) dX13_liars_35 (mk0 rfl) (Nat.le_of_ble_eq_true rfl) rfl) ?_
      rfl
    · rfl
set_option maxRecDepth 20000 in
theorem bX13_liars_19 {L : Nat} {xs : Nat → Int32} (d : Nat) (u0 : Option Value) (u1 : Option Value) (u2 : Option Value) (u3 : Option Value) (u4 : Option Value) (u5 : Option Value) (u6 : Option Value) (ph : PH) : RS (ZZ L xs) (d + 1) mX13_liars 19 [u0, u1, u2, u3, u4, u5, u6] [] ph = some (ph, some (.int ((-3)))) := by
  refine Eq.trans (q_bipush (v := (-3)) dX13_liars_19 (show mK mX13_liars 19 [u0, u1, u2, u3, u4, u5, u6] = [none, none, none, none, none, none, none] from rfl) rfl) ?_
  exact q_ireturn dX13_liars_21 (mk0 rfl) rfl
set_option maxRecDepth 20000 in
theorem bX13_liars_37 {L : Nat} {xs : Nat → Int32} (d : Nat) (o : Nat) (i1 : Int32) (i2 : Int32) (i3 : Int32) (i4 : Int32) (i5 : Int32) (u6 : Option Value) (ph : PH) : RS (ZZ L xs) (d + 1) mX13_liars 37 [some (.ref o), some (.int i1), some (.int i2), some (.int i3), some (.int i4), some (.int i5), u6] [] ph = (fR ph (.ref o) 13 1).bind fun x41 => (eI ph x41 2).bind fun x45 => if (iShl 1 x45 : Int32) ≤ i5 then if ¬ (i1 : Int32) = 0 then if ¬ (i1 : Int32) = 1 then RS (ZZ L xs) (d + 1) mX13_liars 142 [some (.ref o), some (.int i1), some (.int i2), some (.int i3), some (.int i4), some (.int i5), none] [.int i4] ph else RS (ZZ L xs) (d + 1) mX13_liars 142 [some (.ref o), some (.int i1), some (.int i2), some (.int i3), some (.int i4), some (.int i5), none] [.int i3] ph else RS (ZZ L xs) (d + 1) mX13_liars 142 [some (.ref o), some (.int i1), some (.int i2), some (.int i3), some (.int i4), some (.int i5), none] [.int i2] ph else RS (ZZ L xs) (d + 1) mX13_liars 53 [some (.ref o), some (.int i1), some (.int i2), some (.int i3), some (.int i4), some (.int i5), some (.int 0)] [] ph := by
  refine Eq.trans (q_iload dX13_liars_37 (show mK mX13_liars 37 [some (.ref o), some (.int i1), some (.int i2), some (.int i3), some (.int i4), some (.int i5), u6] = [some (.ref o), some (.int i1), some (.int i2), some (.int i3), some (.int i4), some (.int i5), none] from rfl) rfl) ?_
  refine Eq.trans (q_iconst (v := 1) dX13_liars_39 (mk0 rfl) rfl) ?_
  refine Eq.trans (q_aload_n dX13_liars_40 (mk0 rfl) rfl rfl) ?_
  refine Eq.trans (q_getR (ci := 13) (k := 1) dX13_liars_41 (mk0 rfl) rfl) (bind_cg2 fun x41 hx41 => ?_)
  have hx41 := fR_isR hx41
  refine Eq.trans (q_iconst (v := 2) dX13_liars_44 (mk0 rfl) rfl) ?_
  refine Eq.trans (q_iaload dX13_liars_45 (mk0 rfl) (no_ext hx41)) (bind_cg fun x45 => ?_)
  refine Eq.trans (q_ishl dX13_liars_46 (mk0 rfl)) ?_
  refine Eq.trans (q_icmp_ge (t := 123) dX13_liars_47 (mk0 rfl) rfl) (ite_cg ?_ ?_)
  · refine Eq.trans (q_iload_n dX13_liars_123 (mk0 rfl) rfl) ?_
    refine Eq.trans (q_if_ne (t := 131) dX13_liars_124 (mk0 rfl) rfl) (ite_cg ?_ ?_)
    · refine Eq.trans (q_iload_n dX13_liars_131 (mk0 rfl) rfl) ?_
      refine Eq.trans (q_iconst (v := 1) dX13_liars_132 (mk0 rfl) rfl) ?_
      refine Eq.trans (q_icmp_ne (t := 140) dX13_liars_133 (mk0 rfl) rfl) (ite_cg ?_ ?_)
      · refine Eq.trans (q_iload dX13_liars_140 (mk0 rfl) rfl) ?_
        rfl
      · refine Eq.trans (q_iload_n dX13_liars_136 (mk0 rfl) rfl) ?_
        refine Eq.trans (q_goto (t := 142) dX13_liars_137 (mk0 rfl) rfl) ?_
        rfl
    · refine Eq.trans (q_iload_n dX13_liars_127 (mk0 rfl) rfl) ?_
      refine Eq.trans (q_goto (t := 142) dX13_liars_128 (mk0 rfl) rfl) ?_
      rfl
  · refine Eq.trans (q_iconst (v := 0) dX13_liars_50 (mk0 rfl) rfl) ?_
    refine Eq.trans (q_istore (lv2 := [some (.ref o), some (.int i1), some (.int i2), some (.int i3), some (.int i4), some (.int i5), some (.int 0)]) dX13_liars_51 (mk0 rfl) (Nat.le_of_ble_eq_true rfl) rfl) ?_
    rfl
set_option maxRecDepth 20000 in
theorem bX13_liars_53 {L : Nat} {xs : Nat → Int32} (d : Nat) (o : Nat) (i1 : Int32) (i2 : Int32) (i3 : Int32) (i4 : Int32) (i5 : Int32) (i6 : Int32) (ph : PH) : RS (ZZ L xs) (d + 1) mX13_liars 53 [some (.ref o), some (.int i1), some (.int i2), some (.int i3), some (.int i4), some (.int i5), some (.int i6)] [] ph = if (6 : Int32) ≤ i6 then (iO ph (.ref o) 13).bind fun b81 => (cI (ZZ L xs) d mX13_doNotesFit [.ref b81] ph).bind fun p81 => if (p81.2 : Int32) = 0 then RS (ZZ L xs) (d + 1) mX13_liars 117 [some (.ref o), some (.int i1), some (.int i2), some (.int i3), some (.int i4), some (.int i5), some (.int i6)] [] p81.1 else if ¬ (i2 : Int32) = 0 then RS (ZZ L xs) (d + 1) mX13_liars 97 [some (.ref o), some (.int i1), some (.int i2), some (.int i3), some (.int i4), some (.int i5), some (.int i6)] [.int i3] p81.1 else RS (ZZ L xs) (d + 1) mX13_liars 97 [some (.ref o), some (.int i1), some (.int i2), some (.int i3), some (.int i4), some (.int i5), some (.int i6)] [.int i5] p81.1 else (fR ph (.ref o) 13 10).bind fun x61 => (wI ph x61 i6 ((iShr i5 i6) &&& 1)).bind fun h73 => RS (ZZ L xs) (d + 1) mX13_liars 53 [some (.ref o), some (.int i1), some (.int i2), some (.int i3), some (.int i4), some (.int i5), some (.int (i6 + 1))] [] h73 := by
  refine Eq.trans (q_iload dX13_liars_53 (mk0 rfl) rfl) ?_
  refine Eq.trans (q_bipush (v := 6) dX13_liars_55 (mk0 rfl) rfl) ?_
  refine Eq.trans (q_icmp_ge (t := 80) dX13_liars_57 (mk0 rfl) rfl) (ite_cg ?_ ?_)
  · refine Eq.trans (q_aload_n dX13_liars_80 (mk0 rfl) rfl rfl) ?_
    refine Eq.trans (q_callV (as := []) dX13_liars_81 (mk0 rfl) rfl rfl rfl (Nat.le_of_ble_eq_true rfl) (Nat.le_of_ble_eq_true rfl)) (bind_cg fun b81 => ?_)
    refine Eq.trans (cI_bind (Or.inr rfl)) (bind_cg fun p81 => ?_)
    show RS (ZZ L xs) (d + 1) mX13_liars 84 [some (.ref o), some (.int i1), some (.int i2), some (.int i3), some (.int i4), some (.int i5), some (.int i6)] [.int p81.2] p81.1 = _
    refine Eq.trans (q_if_eq (t := 117) dX13_liars_84 (mk0 rfl) rfl) (ite_cg ?_ ?_)
    · rfl
    · refine Eq.trans (q_iload_n dX13_liars_87 (mk0 rfl) rfl) ?_
      refine Eq.trans (q_if_ne (t := 96) dX13_liars_88 (mk0 rfl) rfl) (ite_cg ?_ ?_)
      · refine Eq.trans (q_iload_n dX13_liars_96 (mk0 rfl) rfl) ?_
        rfl
      · refine Eq.trans (q_iload dX13_liars_91 (mk0 rfl) rfl) ?_
        refine Eq.trans (q_goto (t := 97) dX13_liars_93 (mk0 rfl) rfl) ?_
        rfl
  · refine Eq.trans (q_aload_n dX13_liars_60 (mk0 rfl) rfl rfl) ?_
    refine Eq.trans (q_getR (ci := 13) (k := 10) dX13_liars_61 (mk0 rfl) rfl) (bind_cg2 fun x61 hx61 => ?_)
    have hx61 := fR_isR hx61
    refine Eq.trans (q_iload dX13_liars_64 (mk0 rfl) rfl) ?_
    refine Eq.trans (q_iload dX13_liars_66 (mk0 rfl) rfl) ?_
    refine Eq.trans (q_iload dX13_liars_68 (mk0 rfl) rfl) ?_
    refine Eq.trans (q_ishr dX13_liars_70 (mk0 rfl)) ?_
    refine Eq.trans (q_iconst (v := 1) dX13_liars_71 (mk0 rfl) rfl) ?_
    refine Eq.trans (q_iand dX13_liars_72 (mk0 rfl)) ?_
    refine Eq.trans (q_iastore dX13_liars_73 (mk0 rfl)) (bind_cg fun h73 => ?_)
    refine Eq.trans (q_iinc (v := 1) (lv2 := [some (.ref o), some (.int i1), some (.int i2), some (.int i3), some (.int i4), some (.int i5), some (.int (i6 + 1))]) dX13_liars_74 (mk0 rfl) rfl rfl rfl) ?_
    refine Eq.trans (q_goto (t := 53) dX13_liars_77 (mk0 rfl) rfl) ?_
    rfl
set_option maxRecDepth 20000 in
theorem bX13_liars_97 {L : Nat} {xs : Nat → Int32} (d : Nat) (o : Nat) (i1 : Int32) (i2 : Int32) (u3 : Option Value) (i4 : Int32) (i5 : Int32) (u6 : Option Value) (t0 : Int32) (ph : PH) : RS (ZZ L xs) (d + 1) mX13_liars 97 [some (.ref o), some (.int i1), some (.int i2), u3, some (.int i4), some (.int i5), u6] [.int t0] ph = if ¬ (i2 : Int32) = 0 then RS (ZZ L xs) (d + 1) mX13_liars 112 [some (.ref o), some (.int i1), some (.int i2), some (.int t0), some (.int i4), some (.int i5), none] [.int (i4 &&& i5)] ph else RS (ZZ L xs) (d + 1) mX13_liars 112 [some (.ref o), some (.int i1), some (.int i2), some (.int t0), some (.int i4), some (.int i5), none] [.int i5] ph := by
  refine Eq.trans (q_istore_n (lv2 := [some (.ref o), some (.int i1), some (.int i2), some (.int t0), some (.int i4), some (.int i5), none]) dX13_liars_97 (show mK mX13_liars 97 [some (.ref o), some (.int i1), some (.int i2), u3, some (.int i4), some (.int i5), u6] = [some (.ref o), some (.int i1), some (.int i2), none, some (.int i4), some (.int i5), none] from rfl) (Nat.le_of_ble_eq_true rfl) rfl) ?_
  refine Eq.trans (q_iload_n dX13_liars_98 (mk0 rfl) rfl) ?_
  refine Eq.trans (q_if_ne (t := 107) dX13_liars_99 (mk0 rfl) rfl) (ite_cg ?_ ?_)
  · refine Eq.trans (q_iload dX13_liars_107 (mk0 rfl) rfl) ?_
    refine Eq.trans (q_iload dX13_liars_109 (mk0 rfl) rfl) ?_
    refine Eq.trans (q_iand dX13_liars_111 (mk0 rfl)) ?_
    rfl
  · refine Eq.trans (q_iload dX13_liars_102 (mk0 rfl) rfl) ?_
    refine Eq.trans (q_goto (t := 112) dX13_liars_104 (mk0 rfl) rfl) ?_
    rfl
set_option maxRecDepth 20000 in
theorem bX13_liars_112 {L : Nat} {xs : Nat → Int32} (d : Nat) (o : Nat) (i1 : Int32) (i2 : Int32) (i3 : Int32) (u4 : Option Value) (i5 : Int32) (u6 : Option Value) (t0 : Int32) (ph : PH) : RS (ZZ L xs) (d + 1) mX13_liars 112 [some (.ref o), some (.int i1), some (.int i2), some (.int i3), u4, some (.int i5), u6] [.int t0] ph = RS (ZZ L xs) (d + 1) mX13_liars 117 [some (.ref o), some (.int i1), some (.int (i2 + 1)), some (.int i3), some (.int t0), some (.int i5), none] [] ph := by
  refine Eq.trans (q_istore (lv2 := [some (.ref o), some (.int i1), some (.int i2), some (.int i3), some (.int t0), some (.int i5), none]) dX13_liars_112 (show mK mX13_liars 112 [some (.ref o), some (.int i1), some (.int i2), some (.int i3), u4, some (.int i5), u6] = [some (.ref o), some (.int i1), some (.int i2), some (.int i3), none, some (.int i5), none] from rfl) (Nat.le_of_ble_eq_true rfl) rfl) ?_
  refine Eq.trans (q_iinc (v := 1) (lv2 := [some (.ref o), some (.int i1), some (.int (i2 + 1)), some (.int i3), some (.int t0), some (.int i5), none]) dX13_liars_114 (mk0 rfl) rfl rfl rfl) ?_
  rfl
set_option maxRecDepth 20000 in
theorem bX13_liars_117 {L : Nat} {xs : Nat → Int32} (d : Nat) (o : Nat) (i1 : Int32) (i2 : Int32) (i3 : Int32) (i4 : Int32) (i5 : Int32) (u6 : Option Value) (ph : PH) : RS (ZZ L xs) (d + 1) mX13_liars 117 [some (.ref o), some (.int i1), some (.int i2), some (.int i3), some (.int i4), some (.int i5), u6] [] ph = RS (ZZ L xs) (d + 1) mX13_liars 37 [some (.ref o), some (.int i1), some (.int i2), some (.int i3), some (.int i4), some (.int (i5 + 1)), none] [] ph := by
  refine Eq.trans (q_iinc (v := 1) (lv2 := [some (.ref o), some (.int i1), some (.int i2), some (.int i3), some (.int i4), some (.int (i5 + 1)), none]) dX13_liars_117 (show mK mX13_liars 117 [some (.ref o), some (.int i1), some (.int i2), some (.int i3), some (.int i4), some (.int i5), u6] = [some (.ref o), some (.int i1), some (.int i2), some (.int i3), some (.int i4), some (.int i5), none] from rfl) rfl rfl rfl) ?_
  refine Eq.trans (q_goto (t := 37) dX13_liars_120 (mk0 rfl) rfl) ?_
  rfl
set_option maxRecDepth 20000 in
theorem bX13_liars_142 {L : Nat} {xs : Nat → Int32} (d : Nat) (u0 : Option Value) (u1 : Option Value) (u2 : Option Value) (u3 : Option Value) (u4 : Option Value) (u5 : Option Value) (u6 : Option Value) (t0 : Int32) (ph : PH) : RS (ZZ L xs) (d + 1) mX13_liars 142 [u0, u1, u2, u3, u4, u5, u6] [.int t0] ph = some (ph, some (.int t0)) := by
  exact q_ireturn dX13_liars_142 (show mK mX13_liars 142 [u0, u1, u2, u3, u4, u5, u6] = [none, none, none, none, none, none, none] from rfl) rfl
set_option maxRecDepth 20000 in
theorem bX13_mostAlike_0 {L : Nat} {xs : Nat → Int32} (d : Nat) (o : Nat) (i1 : Int32) (i2 : Int32) (ph : PH) : RS (ZZ L xs) (d + 1) mX13_mostAlike 0 [some (.ref o), some (.int i1), some (.int i2), none, none, none, none] [] ph = RS (ZZ L xs) (d + 1) mX13_mostAlike 5 [some (.ref o), some (.int i1), some (.int i2), some (.int 0), some (.int 0), none, none] [] ph := by
  refine Eq.trans (q_iconst (v := 0) dX13_mostAlike_0 (mk0 rfl) rfl) ?_
  refine Eq.trans (q_istore_n (lv2 := [some (.ref o), some (.int i1), some (.int i2), some (.int 0), none, none, none]) dX13_mostAlike_1 (mk0 rfl) (Nat.le_of_ble_eq_true rfl) rfl) ?_
  refine Eq.trans (q_iconst (v := 0) dX13_mostAlike_2 (mk0 rfl) rfl) ?_
  refine Eq.trans (q_istore (lv2 := [some (.ref o), some (.int i1), some (.int i2), some (.int 0), some (.int 0), none, none]) dX13_mostAlike_3 (mk0 rfl) (Nat.le_of_ble_eq_true rfl) rfl) ?_
  rfl
set_option maxRecDepth 20000 in
theorem bX13_mostAlike_5 {L : Nat} {xs : Nat → Int32} (d : Nat) (o : Nat) (i1 : Int32) (i2 : Int32) (i3 : Int32) (i4 : Int32) (u5 : Option Value) (u6 : Option Value) (ph : PH) : RS (ZZ L xs) (d + 1) mX13_mostAlike 5 [some (.ref o), some (.int i1), some (.int i2), some (.int i3), some (.int i4), u5, u6] [] ph = if (i2 : Int32) ≤ i4 then some (ph, some (.int i3)) else RS (ZZ L xs) (d + 1) mX13_mostAlike 17 [some (.ref o), some (.int i1), some (.int i2), some (.int i3), some (.int i4), some (.int 0), some (.int 0)] [] ph := by
  refine Eq.trans (q_iload dX13_mostAlike_5 (show mK mX13_mostAlike 5 [some (.ref o), some (.int i1), some (.int i2), some (.int i3), some (.int i4), u5, u6] = [some (.ref o), some (.int i1), some (.int i2), some (.int i3), some (.int i4), none, none] from rfl) rfl) ?_
  refine Eq.trans (q_iload_n dX13_mostAlike_7 (mk0 rfl) rfl) ?_
  refine Eq.trans (q_icmp_ge (t := 83) dX13_mostAlike_8 (mk0 rfl) rfl) (ite_cg ?_ ?_)
  · refine Eq.trans (q_iload_n dX13_mostAlike_83 (mk0 rfl) rfl) ?_
    exact q_ireturn dX13_mostAlike_84 (mk0 rfl) rfl
  · refine Eq.trans (q_iconst (v := 0) dX13_mostAlike_11 (mk0 rfl) rfl) ?_
    refine Eq.trans (q_istore (lv2 := [some (.ref o), some (.int i1), some (.int i2), some (.int i3), some (.int i4), some (.int 0), none]) dX13_mostAlike_12 (mk0 rfl) (Nat.le_of_ble_eq_true rfl) rfl) ?_
    refine Eq.trans (q_iconst (v := 0) dX13_mostAlike_14 (mk0 rfl) rfl) ?_
    refine Eq.trans (q_istore (lv2 := [some (.ref o), some (.int i1), some (.int i2), some (.int i3), some (.int i4), some (.int 0), some (.int 0)]) dX13_mostAlike_15 (mk0 rfl) (Nat.le_of_ble_eq_true rfl) rfl) ?_
    rfl
set_option maxRecDepth 20000 in
theorem bX13_mostAlike_17 {L : Nat} {xs : Nat → Int32} (d : Nat) (o : Nat) (i1 : Int32) (i2 : Int32) (i3 : Int32) (i4 : Int32) (i5 : Int32) (i6 : Int32) (ph : PH) : RS (ZZ L xs) (d + 1) mX13_mostAlike 17 [some (.ref o), some (.int i1), some (.int i2), some (.int i3), some (.int i4), some (.int i5), some (.int i6)] [] ph = if (i2 : Int32) ≤ i6 then if (i5 : Int32) ≤ i3 then RS (ZZ L xs) (d + 1) mX13_mostAlike 76 [some (.ref o), some (.int i1), some (.int i2), some (.int i3), some (.int i4), some (.int i5), some (.int i6)] [.int i3] ph else RS (ZZ L xs) (d + 1) mX13_mostAlike 76 [some (.ref o), some (.int i1), some (.int i2), some (.int i3), some (.int i4), some (.int i5), some (.int i6)] [.int i5] ph else (fR ph (.ref o) 13 58).bind fun x26 => (eI ph x26 ((5 * i6) + i1)).bind fun x35 => (fR ph (.ref o) 13 58).bind fun x37 => (eI ph x37 ((5 * i4) + i1)).bind fun x46 => if ¬ (x35 : Int32) = x46 then RS (ZZ L xs) (d + 1) mX13_mostAlike 55 [some (.ref o), some (.int i1), some (.int i2), some (.int i3), some (.int i4), some (.int i5), some (.int i6)] [.int 0, .int i5] ph else RS (ZZ L xs) (d + 1) mX13_mostAlike 55 [some (.ref o), some (.int i1), some (.int i2), some (.int i3), some (.int i4), some (.int i5), some (.int i6)] [.int 1, .int i5] ph := by
  refine Eq.trans (q_iload dX13_mostAlike_17 (mk0 rfl) rfl) ?_
  refine Eq.trans (q_iload_n dX13_mostAlike_19 (mk0 rfl) rfl) ?_
  refine Eq.trans (q_icmp_ge (t := 64) dX13_mostAlike_20 (mk0 rfl) rfl) (ite_cg ?_ ?_)
  · refine Eq.trans (q_iload dX13_mostAlike_64 (mk0 rfl) rfl) ?_
    refine Eq.trans (q_iload_n dX13_mostAlike_66 (mk0 rfl) rfl) ?_
    refine Eq.trans (q_icmp_le (t := 75) dX13_mostAlike_67 (mk0 rfl) rfl) (ite_cg ?_ ?_)
    · refine Eq.trans (q_iload_n dX13_mostAlike_75 (mk0 rfl) rfl) ?_
      rfl
    · refine Eq.trans (q_iload dX13_mostAlike_70 (mk0 rfl) rfl) ?_
      refine Eq.trans (q_goto (t := 76) dX13_mostAlike_72 (mk0 rfl) rfl) ?_
      rfl
  · refine Eq.trans (q_iload dX13_mostAlike_23 (mk0 rfl) rfl) ?_
    refine Eq.trans (q_aload_n dX13_mostAlike_25 (mk0 rfl) rfl rfl) ?_
    refine Eq.trans (q_getR (ci := 13) (k := 58) dX13_mostAlike_26 (mk0 rfl) rfl) (bind_cg2 fun x26 hx26 => ?_)
    have hx26 := fR_isR hx26
    refine Eq.trans (q_iconst (v := 5) dX13_mostAlike_29 (mk0 rfl) rfl) ?_
    refine Eq.trans (q_iload dX13_mostAlike_30 (mk0 rfl) rfl) ?_
    refine Eq.trans (q_imul dX13_mostAlike_32 (mk0 rfl)) ?_
    refine Eq.trans (q_iload_n dX13_mostAlike_33 (mk0 rfl) rfl) ?_
    refine Eq.trans (q_iadd dX13_mostAlike_34 (mk0 rfl)) ?_
    refine Eq.trans (q_iaload dX13_mostAlike_35 (mk0 rfl) (no_ext hx26)) (bind_cg fun x35 => ?_)
    refine Eq.trans (q_aload_n dX13_mostAlike_36 (mk0 rfl) rfl rfl) ?_
    refine Eq.trans (q_getR (ci := 13) (k := 58) dX13_mostAlike_37 (mk0 rfl) rfl) (bind_cg2 fun x37 hx37 => ?_)
    have hx37 := fR_isR hx37
    refine Eq.trans (q_iconst (v := 5) dX13_mostAlike_40 (mk0 rfl) rfl) ?_
    refine Eq.trans (q_iload dX13_mostAlike_41 (mk0 rfl) rfl) ?_
    refine Eq.trans (q_imul dX13_mostAlike_43 (mk0 rfl)) ?_
    refine Eq.trans (q_iload_n dX13_mostAlike_44 (mk0 rfl) rfl) ?_
    refine Eq.trans (q_iadd dX13_mostAlike_45 (mk0 rfl)) ?_
    refine Eq.trans (q_iaload dX13_mostAlike_46 (mk0 rfl) (no_ext hx37)) (bind_cg fun x46 => ?_)
    refine Eq.trans (q_icmp_ne (t := 54) dX13_mostAlike_47 (mk0 rfl) rfl) (ite_cg ?_ ?_)
    · refine Eq.trans (q_iconst (v := 0) dX13_mostAlike_54 (mk0 rfl) rfl) ?_
      rfl
    · refine Eq.trans (q_iconst (v := 1) dX13_mostAlike_50 (mk0 rfl) rfl) ?_
      refine Eq.trans (q_goto (t := 55) dX13_mostAlike_51 (mk0 rfl) rfl) ?_
      rfl
set_option maxRecDepth 20000 in
theorem bX13_mostAlike_55 {L : Nat} {xs : Nat → Int32} (d : Nat) (o : Nat) (i1 : Int32) (i2 : Int32) (i3 : Int32) (i4 : Int32) (u5 : Option Value) (i6 : Int32) (t0 : Int32) (t1 : Int32) (ph : PH) : RS (ZZ L xs) (d + 1) mX13_mostAlike 55 [some (.ref o), some (.int i1), some (.int i2), some (.int i3), some (.int i4), u5, some (.int i6)] [.int t0, .int t1] ph = RS (ZZ L xs) (d + 1) mX13_mostAlike 17 [some (.ref o), some (.int i1), some (.int i2), some (.int i3), some (.int i4), some (.int (t1 + t0)), some (.int (i6 + 1))] [] ph := by
  refine Eq.trans (q_iadd dX13_mostAlike_55 (show mK mX13_mostAlike 55 [some (.ref o), some (.int i1), some (.int i2), some (.int i3), some (.int i4), u5, some (.int i6)] = [some (.ref o), some (.int i1), some (.int i2), some (.int i3), some (.int i4), none, some (.int i6)] from rfl)) ?_
  refine Eq.trans (q_istore (lv2 := [some (.ref o), some (.int i1), some (.int i2), some (.int i3), some (.int i4), some (.int (t1 + t0)), some (.int i6)]) dX13_mostAlike_56 (mk0 rfl) (Nat.le_of_ble_eq_true rfl) rfl) ?_
  refine Eq.trans (q_iinc (v := 1) (lv2 := [some (.ref o), some (.int i1), some (.int i2), some (.int i3), some (.int i4), some (.int (t1 + t0)), some (.int (i6 + 1))]) dX13_mostAlike_58 (mk0 rfl) rfl rfl rfl) ?_
  refine Eq.trans (q_goto (t := 17) dX13_mostAlike_61 (mk0 rfl) rfl) ?_
  rfl
set_option maxRecDepth 20000 in
theorem bX13_mostAlike_76 {L : Nat} {xs : Nat → Int32} (d : Nat) (o : Nat) (i1 : Int32) (i2 : Int32) (u3 : Option Value) (i4 : Int32) (u5 : Option Value) (u6 : Option Value) (t0 : Int32) (ph : PH) : RS (ZZ L xs) (d + 1) mX13_mostAlike 76 [some (.ref o), some (.int i1), some (.int i2), u3, some (.int i4), u5, u6] [.int t0] ph = RS (ZZ L xs) (d + 1) mX13_mostAlike 5 [some (.ref o), some (.int i1), some (.int i2), some (.int t0), some (.int (i4 + 1)), none, none] [] ph := by
  refine Eq.trans (q_istore_n (lv2 := [some (.ref o), some (.int i1), some (.int i2), some (.int t0), some (.int i4), none, none]) dX13_mostAlike_76 (show mK mX13_mostAlike 76 [some (.ref o), some (.int i1), some (.int i2), u3, some (.int i4), u5, u6] = [some (.ref o), some (.int i1), some (.int i2), none, some (.int i4), none, none] from rfl) (Nat.le_of_ble_eq_true rfl) rfl) ?_
  refine Eq.trans (q_iinc (v := 1) (lv2 := [some (.ref o), some (.int i1), some (.int i2), some (.int t0), some (.int (i4 + 1)), none, none]) dX13_mostAlike_77 (mk0 rfl) rfl rfl rfl) ?_
  refine Eq.trans (q_goto (t := 5) dX13_mostAlike_80 (mk0 rfl) rfl) ?_
  rfl
set_option maxRecDepth 20000 in
theorem bX13_look_0 {L : Nat} {xs : Nat → Int32} (d : Nat) (o : Nat) (i1 : Int32) (i2 : Int32) (ph : PH) : RS (ZZ L xs) (d + 1) mX13_look 0 [some (.ref o), some (.int i1), some (.int i2), none, none, none] [] ph = (iO ph (.ref o) 13).bind fun b1 => (cI (ZZ L xs) d mX13_isTown [.ref b1] ph).bind fun p1 => if (p1.2 : Int32) = 0 then RS (ZZ L xs) (d + 1) mX13_look 29 [some (.ref o), some (.int i1), some (.int i2), none, none, none] [] p1.1 else (cI (ZZ L xs) d mX13_in [.long ((i1 : Int32).toInt64), .long 0, .long 60] p1.1).bind fun p13 => if (p13.2 : Int32) = 0 then RS (ZZ L xs) (d + 1) mX13_look 29 [some (.ref o), some (.int i1), some (.int i2), none, none, none] [] p13.1 else (cI (ZZ L xs) d mX13_in [.long ((i2 : Int32).toInt64), .long 0, .long 1] p13.1).bind fun p23 => if ¬ (p23.2 : Int32) = 0 then (iO p23.1 (.ref o) 13).bind fun b32 => (cV (ZZ L xs) d mX13_keepsAll [.ref b32] p23.1).bind fun p32 => RS (ZZ L xs) (d + 1) mX13_look 40 [some (.ref o), some (.int i1), some (.int i2), some (.int 0), some (.int ((-1))), none] [] p32 else RS (ZZ L xs) (d + 1) mX13_look 29 [some (.ref o), some (.int i1), some (.int i2), none, none, none] [] p23.1 := by
  refine Eq.trans (q_aload_n dX13_look_0 (mk0 rfl) rfl rfl) ?_
  refine Eq.trans (q_callV (as := []) dX13_look_1 (mk0 rfl) rfl rfl rfl (Nat.le_of_ble_eq_true rfl) (Nat.le_of_ble_eq_true rfl)) (bind_cg fun b1 => ?_)
  refine Eq.trans (cI_bind (Or.inr rfl)) (bind_cg fun p1 => ?_)
  show RS (ZZ L xs) (d + 1) mX13_look 4 [some (.ref o), some (.int i1), some (.int i2), none, none, none] [.int p1.2] p1.1 = _
  refine Eq.trans (q_if_eq (t := 29) dX13_look_4 (mk0 rfl) rfl) (ite_cg ?_ ?_)
  · rfl
  · refine Eq.trans (q_iload_n dX13_look_7 (mk0 rfl) rfl) ?_
    refine Eq.trans (q_i2l dX13_look_8 (mk0 rfl)) ?_
    refine Eq.trans (q_lconst (v := 0) dX13_look_9 (mk0 rfl) rfl) ?_
    refine Eq.trans (q_ldc2 (v := 60) dX13_look_10 (mk0 rfl) rfl) ?_
    refine Eq.trans (q_callS (as := [.long ((i1 : Int32).toInt64), .long 0, .long 60]) dX13_look_13 (mk0 rfl) rfl (Or.inl rfl) rfl rfl (Nat.le_of_ble_eq_true rfl) (Nat.le_of_ble_eq_true rfl)) ?_
    refine Eq.trans (cI_bind (Or.inr rfl)) (bind_cg fun p13 => ?_)
    show RS (ZZ L xs) (d + 1) mX13_look 16 [some (.ref o), some (.int i1), some (.int i2), none, none, none] [.int p13.2] p13.1 = _
    refine Eq.trans (q_if_eq (t := 29) dX13_look_16 (mk0 rfl) rfl) (ite_cg ?_ ?_)
    · rfl
    · refine Eq.trans (q_iload_n dX13_look_19 (mk0 rfl) rfl) ?_
      refine Eq.trans (q_i2l dX13_look_20 (mk0 rfl)) ?_
      refine Eq.trans (q_lconst (v := 0) dX13_look_21 (mk0 rfl) rfl) ?_
      refine Eq.trans (q_lconst (v := 1) dX13_look_22 (mk0 rfl) rfl) ?_
      refine Eq.trans (q_callS (as := [.long ((i2 : Int32).toInt64), .long 0, .long 1]) dX13_look_23 (mk0 rfl) rfl (Or.inl rfl) rfl rfl (Nat.le_of_ble_eq_true rfl) (Nat.le_of_ble_eq_true rfl)) ?_
      refine Eq.trans (cI_bind (Or.inr rfl)) (bind_cg fun p23 => ?_)
      show RS (ZZ L xs) (d + 1) mX13_look 26 [some (.ref o), some (.int i1), some (.int i2), none, none, none] [.int p23.2] p23.1 = _
      refine Eq.trans (q_if_ne (t := 31) dX13_look_26 (mk0 rfl) rfl) (ite_cg ?_ ?_)
      · refine Eq.trans (q_aload_n dX13_look_31 (mk0 rfl) rfl rfl) ?_
        refine Eq.trans (q_callV (as := []) dX13_look_32 (mk0 rfl) rfl rfl rfl (Nat.le_of_ble_eq_true rfl) (Nat.le_of_ble_eq_true rfl)) (bind_cg fun b32 => ?_)
        refine Eq.trans (cV_bind rfl) (bind_cg fun p32 => ?_)
        show RS (ZZ L xs) (d + 1) mX13_look 35 [some (.ref o), some (.int i1), some (.int i2), none, none, none] [] p32 = _
        refine Eq.trans (q_iconst (v := 0) dX13_look_35 (mk0 rfl) rfl) ?_
        refine Eq.trans (q_istore_n (lv2 := [some (.ref o), some (.int i1), some (.int i2), some (.int 0), none, none]) dX13_look_36 (mk0 rfl) (Nat.le_of_ble_eq_true rfl) rfl) ?_
        refine Eq.trans (q_iconst (v := (-1)) dX13_look_37 (mk0 rfl) rfl) ?_
        refine Eq.trans (q_istore (lv2 := [some (.ref o), some (.int i1), some (.int i2), some (.int 0), some (.int ((-1))), none]) dX13_look_38 (mk0 rfl) (Nat.le_of_ble_eq_true rfl) rfl) ?_
        rfl
      · rfl
set_option maxRecDepth 20000 in
theorem bX13_look_29 {L : Nat} {xs : Nat → Int32} (d : Nat) (u0 : Option Value) (u1 : Option Value) (u2 : Option Value) (u3 : Option Value) (u4 : Option Value) (u5 : Option Value) (ph : PH) : RS (ZZ L xs) (d + 1) mX13_look 29 [u0, u1, u2, u3, u4, u5] [] ph = some (ph, some (.int ((-1)))) := by
  refine Eq.trans (q_iconst (v := (-1)) dX13_look_29 (show mK mX13_look 29 [u0, u1, u2, u3, u4, u5] = [none, none, none, none, none, none] from rfl) rfl) ?_
  exact q_ireturn dX13_look_30 (mk0 rfl) rfl
set_option maxRecDepth 20000 in
theorem bX13_look_40 {L : Nat} {xs : Nat → Int32} (d : Nat) (o : Nat) (i1 : Int32) (i2 : Int32) (i3 : Int32) (i4 : Int32) (u5 : Option Value) (ph : PH) : RS (ZZ L xs) (d + 1) mX13_look 40 [some (.ref o), some (.int i1), some (.int i2), some (.int i3), some (.int i4), u5] [] ph = (fI ph (.ref o) 13 32).bind fun x43 => if (x43 : Int32) ≤ i4 then if (i3 : Int32) = 0 then RS (ZZ L xs) (d + 1) mX13_look 117 [some (.ref o), some (.int i1), some (.int i2), some (.int i3), some (.int i4), none] [] ph else (fR ph (.ref o) 13 1).bind fun x109 => (eI ph x109 3).bind fun x113 => if ¬ (x113 : Int32) = 0 then RS (ZZ L xs) (d + 1) mX13_look 126 [some (.ref o), some (.int i1), some (.int i2), some (.int i3), some (.int 0), some (.int 1)] [] ph else RS (ZZ L xs) (d + 1) mX13_look 117 [some (.ref o), some (.int i1), some (.int i2), some (.int i3), some (.int i4), none] [] ph else (iO ph (.ref o) 13).bind fun b52 => (cI (ZZ L xs) d mX13_couldRule [.ref b52, .int i4] ph).bind fun p52 => if (p52.2 : Int32) = 0 then RS (ZZ L xs) (d + 1) mX13_look 98 [some (.ref o), some (.int i1), some (.int i2), some (.int i3), some (.int i4), none] [] p52.1 else RS (ZZ L xs) (d + 1) mX13_look 61 [some (.ref o), some (.int i1), some (.int i2), some (.int i3), some (.int i4), some (.int 0)] [] p52.1 := by
  refine Eq.trans (q_iload dX13_look_40 (show mK mX13_look 40 [some (.ref o), some (.int i1), some (.int i2), some (.int i3), some (.int i4), u5] = [some (.ref o), some (.int i1), some (.int i2), some (.int i3), some (.int i4), none] from rfl) rfl) ?_
  refine Eq.trans (q_aload_n dX13_look_42 (mk0 rfl) rfl rfl) ?_
  refine Eq.trans (q_getI (ci := 13) (k := 32) dX13_look_43 (mk0 rfl) rfl) (bind_cg fun x43 => ?_)
  refine Eq.trans (q_icmp_ge (t := 104) dX13_look_46 (mk0 rfl) rfl) (ite_cg ?_ ?_)
  · refine Eq.trans (q_iload_n dX13_look_104 (mk0 rfl) rfl) ?_
    refine Eq.trans (q_if_eq (t := 117) dX13_look_105 (mk0 rfl) rfl) (ite_cg ?_ ?_)
    · rfl
    · refine Eq.trans (q_aload_n dX13_look_108 (mk0 rfl) rfl rfl) ?_
      refine Eq.trans (q_getR (ci := 13) (k := 1) dX13_look_109 (mk0 rfl) rfl) (bind_cg2 fun x109 hx109 => ?_)
      have hx109 := fR_isR hx109
      refine Eq.trans (q_iconst (v := 3) dX13_look_112 (mk0 rfl) rfl) ?_
      refine Eq.trans (q_iaload dX13_look_113 (mk0 rfl) (no_ext hx109)) (bind_cg fun x113 => ?_)
      refine Eq.trans (q_if_ne (t := 120) dX13_look_114 (mk0 rfl) rfl) (ite_cg ?_ ?_)
      · refine Eq.trans (q_iconst (v := 0) dX13_look_120 (mk0 rfl) rfl) ?_
        refine Eq.trans (q_istore (lv2 := [some (.ref o), some (.int i1), some (.int i2), some (.int i3), some (.int 0), none]) dX13_look_121 (mk0 rfl) (Nat.le_of_ble_eq_true rfl) rfl) ?_
        refine Eq.trans (q_iconst (v := 1) dX13_look_123 (mk0 rfl) rfl) ?_
        refine Eq.trans (q_istore (lv2 := [some (.ref o), some (.int i1), some (.int i2), some (.int i3), some (.int 0), some (.int 1)]) dX13_look_124 (mk0 rfl) (Nat.le_of_ble_eq_true rfl) rfl) ?_
        rfl
      · rfl
  · refine Eq.trans (q_aload_n dX13_look_49 (mk0 rfl) rfl rfl) ?_
    refine Eq.trans (q_iload dX13_look_50 (mk0 rfl) rfl) ?_
    refine Eq.trans (q_callV (as := [.int i4]) dX13_look_52 (mk0 rfl) rfl rfl rfl (Nat.le_of_ble_eq_true rfl) (Nat.le_of_ble_eq_true rfl)) (bind_cg fun b52 => ?_)
    refine Eq.trans (cI_bind (Or.inr rfl)) (bind_cg fun p52 => ?_)
    show RS (ZZ L xs) (d + 1) mX13_look 55 [some (.ref o), some (.int i1), some (.int i2), some (.int i3), some (.int i4), none] [.int p52.2] p52.1 = _
    refine Eq.trans (q_if_eq (t := 98) dX13_look_55 (mk0 rfl) rfl) (ite_cg ?_ ?_)
    · rfl
    · refine Eq.trans (q_iconst (v := 0) dX13_look_58 (mk0 rfl) rfl) ?_
      refine Eq.trans (q_istore (lv2 := [some (.ref o), some (.int i1), some (.int i2), some (.int i3), some (.int i4), some (.int 0)]) dX13_look_59 (mk0 rfl) (Nat.le_of_ble_eq_true rfl) rfl) ?_
      rfl
set_option maxRecDepth 20000 in
theorem bX13_look_61 {L : Nat} {xs : Nat → Int32} (d : Nat) (o : Nat) (i1 : Int32) (i2 : Int32) (i3 : Int32) (i4 : Int32) (i5 : Int32) (ph : PH) : RS (ZZ L xs) (d + 1) mX13_look 61 [some (.ref o), some (.int i1), some (.int i2), some (.int i3), some (.int i4), some (.int i5)] [] ph = if (5 : Int32) ≤ i5 then RS (ZZ L xs) (d + 1) mX13_look 98 [some (.ref o), some (.int i1), some (.int i2), some (.int (i3 + 1)), some (.int i4), some (.int i5)] [] ph else (fR ph (.ref o) 13 58).bind fun x68 => (fR ph (.ref o) 13 57).bind fun x78 => (eI ph x78 ((5 * i1) + i5)).bind fun x87 => (wI ph x68 ((5 * i3) + i5) x87).bind fun h88 => RS (ZZ L xs) (d + 1) mX13_look 61 [some (.ref o), some (.int i1), some (.int i2), some (.int i3), some (.int i4), some (.int (i5 + 1))] [] h88 := by
  refine Eq.trans (q_iload dX13_look_61 (mk0 rfl) rfl) ?_
  refine Eq.trans (q_iconst (v := 5) dX13_look_63 (mk0 rfl) rfl) ?_
  refine Eq.trans (q_icmp_ge (t := 95) dX13_look_64 (mk0 rfl) rfl) (ite_cg ?_ ?_)
  · refine Eq.trans (q_iinc (v := 1) (lv2 := [some (.ref o), some (.int i1), some (.int i2), some (.int (i3 + 1)), some (.int i4), some (.int i5)]) dX13_look_95 (mk0 rfl) rfl rfl rfl) ?_
    rfl
  · refine Eq.trans (q_aload_n dX13_look_67 (mk0 rfl) rfl rfl) ?_
    refine Eq.trans (q_getR (ci := 13) (k := 58) dX13_look_68 (mk0 rfl) rfl) (bind_cg2 fun x68 hx68 => ?_)
    have hx68 := fR_isR hx68
    refine Eq.trans (q_iconst (v := 5) dX13_look_71 (mk0 rfl) rfl) ?_
    refine Eq.trans (q_iload_n dX13_look_72 (mk0 rfl) rfl) ?_
    refine Eq.trans (q_imul dX13_look_73 (mk0 rfl)) ?_
    refine Eq.trans (q_iload dX13_look_74 (mk0 rfl) rfl) ?_
    refine Eq.trans (q_iadd dX13_look_76 (mk0 rfl)) ?_
    refine Eq.trans (q_aload_n dX13_look_77 (mk0 rfl) rfl rfl) ?_
    refine Eq.trans (q_getR (ci := 13) (k := 57) dX13_look_78 (mk0 rfl) rfl) (bind_cg2 fun x78 hx78 => ?_)
    have hx78 := fR_isR hx78
    refine Eq.trans (q_iconst (v := 5) dX13_look_81 (mk0 rfl) rfl) ?_
    refine Eq.trans (q_iload_n dX13_look_82 (mk0 rfl) rfl) ?_
    refine Eq.trans (q_imul dX13_look_83 (mk0 rfl)) ?_
    refine Eq.trans (q_iload dX13_look_84 (mk0 rfl) rfl) ?_
    refine Eq.trans (q_iadd dX13_look_86 (mk0 rfl)) ?_
    refine Eq.trans (q_iaload dX13_look_87 (mk0 rfl) (no_ext hx78)) (bind_cg fun x87 => ?_)
    refine Eq.trans (q_iastore dX13_look_88 (mk0 rfl)) (bind_cg fun h88 => ?_)
    refine Eq.trans (q_iinc (v := 1) (lv2 := [some (.ref o), some (.int i1), some (.int i2), some (.int i3), some (.int i4), some (.int (i5 + 1))]) dX13_look_89 (mk0 rfl) rfl rfl rfl) ?_
    refine Eq.trans (q_goto (t := 61) dX13_look_92 (mk0 rfl) rfl) ?_
    rfl
set_option maxRecDepth 20000 in
theorem bX13_look_98 {L : Nat} {xs : Nat → Int32} (d : Nat) (o : Nat) (i1 : Int32) (i2 : Int32) (i3 : Int32) (i4 : Int32) (u5 : Option Value) (ph : PH) : RS (ZZ L xs) (d + 1) mX13_look 98 [some (.ref o), some (.int i1), some (.int i2), some (.int i3), some (.int i4), u5] [] ph = RS (ZZ L xs) (d + 1) mX13_look 40 [some (.ref o), some (.int i1), some (.int i2), some (.int i3), some (.int (i4 + 1)), none] [] ph := by
  refine Eq.trans (q_iinc (v := 1) (lv2 := [some (.ref o), some (.int i1), some (.int i2), some (.int i3), some (.int (i4 + 1)), none]) dX13_look_98 (show mK mX13_look 98 [some (.ref o), some (.int i1), some (.int i2), some (.int i3), some (.int i4), u5] = [some (.ref o), some (.int i1), some (.int i2), some (.int i3), some (.int i4), none] from rfl) rfl rfl rfl) ?_
  refine Eq.trans (q_goto (t := 40) dX13_look_101 (mk0 rfl) rfl) ?_
  rfl
set_option maxRecDepth 20000 in
theorem bX13_look_117 {L : Nat} {xs : Nat → Int32} (d : Nat) (u0 : Option Value) (u1 : Option Value) (u2 : Option Value) (u3 : Option Value) (u4 : Option Value) (u5 : Option Value) (ph : PH) : RS (ZZ L xs) (d + 1) mX13_look 117 [u0, u1, u2, u3, u4, u5] [] ph = some (ph, some (.int ((-2)))) := by
  refine Eq.trans (q_bipush (v := (-2)) dX13_look_117 (show mK mX13_look 117 [u0, u1, u2, u3, u4, u5] = [none, none, none, none, none, none] from rfl) rfl) ?_
  exact q_ireturn dX13_look_119 (mk0 rfl) rfl
set_option maxRecDepth 20000 in
theorem bX13_look_126 {L : Nat} {xs : Nat → Int32} (d : Nat) (o : Nat) (u1 : Option Value) (i2 : Int32) (i3 : Int32) (i4 : Int32) (i5 : Int32) (ph : PH) : RS (ZZ L xs) (d + 1) mX13_look 126 [some (.ref o), u1, some (.int i2), some (.int i3), some (.int i4), some (.int i5)] [] ph = (fR ph (.ref o) 13 1).bind fun x129 => (eI ph x129 3).bind fun x133 => if (x133 : Int32) ≤ i5 then if ¬ (i2 : Int32) = 0 then (iO ph (.ref o) 13).bind fun b182 => (cI (ZZ L xs) d mX13_mostAlike [.ref b182, .int i4, .int i3] ph).bind fun p182 => RS (ZZ L xs) (d + 1) mX13_look 185 [some (.ref o), none, some (.int i2), some (.int i3), some (.int i4), some (.int i5)] [.int p182.2] p182.1 else RS (ZZ L xs) (d + 1) mX13_look 185 [some (.ref o), none, some (.int i2), some (.int i3), some (.int i4), some (.int i5)] [.int i4] ph else (iO ph (.ref o) 13).bind fun b141 => (cI (ZZ L xs) d mX13_mostAlike [.ref b141, .int i5, .int i3] ph).bind fun p141 => (iO p141.1 (.ref o) 13).bind fun b148 => (cI (ZZ L xs) d mX13_mostAlike [.ref b148, .int i4, .int i3] p141.1).bind fun p148 => if (p148.2 : Int32) ≤ p141.2 then RS (ZZ L xs) (d + 1) mX13_look 161 [some (.ref o), none, some (.int i2), some (.int i3), some (.int i4), some (.int i5)] [.int i4] p148.1 else RS (ZZ L xs) (d + 1) mX13_look 161 [some (.ref o), none, some (.int i2), some (.int i3), some (.int i4), some (.int i5)] [.int i5] p148.1 := by
  refine Eq.trans (q_iload dX13_look_126 (show mK mX13_look 126 [some (.ref o), u1, some (.int i2), some (.int i3), some (.int i4), some (.int i5)] = [some (.ref o), none, some (.int i2), some (.int i3), some (.int i4), some (.int i5)] from rfl) rfl) ?_
  refine Eq.trans (q_aload_n dX13_look_128 (mk0 rfl) rfl rfl) ?_
  refine Eq.trans (q_getR (ci := 13) (k := 1) dX13_look_129 (mk0 rfl) rfl) (bind_cg2 fun x129 hx129 => ?_)
  have hx129 := fR_isR hx129
  refine Eq.trans (q_iconst (v := 3) dX13_look_132 (mk0 rfl) rfl) ?_
  refine Eq.trans (q_iaload dX13_look_133 (mk0 rfl) (no_ext hx129)) (bind_cg fun x133 => ?_)
  refine Eq.trans (q_icmp_ge (t := 169) dX13_look_134 (mk0 rfl) rfl) (ite_cg ?_ ?_)
  · refine Eq.trans (q_iload_n dX13_look_169 (mk0 rfl) rfl) ?_
    refine Eq.trans (q_if_ne (t := 178) dX13_look_170 (mk0 rfl) rfl) (ite_cg ?_ ?_)
    · refine Eq.trans (q_aload_n dX13_look_178 (mk0 rfl) rfl rfl) ?_
      refine Eq.trans (q_iload dX13_look_179 (mk0 rfl) rfl) ?_
      refine Eq.trans (q_iload_n dX13_look_181 (mk0 rfl) rfl) ?_
      refine Eq.trans (q_callV (as := [.int i4, .int i3]) dX13_look_182 (mk0 rfl) rfl rfl rfl (Nat.le_of_ble_eq_true rfl) (Nat.le_of_ble_eq_true rfl)) (bind_cg fun b182 => ?_)
      refine Eq.trans (cI_bind (Or.inl rfl)) (bind_cg fun p182 => ?_)
      show RS (ZZ L xs) (d + 1) mX13_look 185 [some (.ref o), none, some (.int i2), some (.int i3), some (.int i4), some (.int i5)] [.int p182.2] p182.1 = _
      rfl
    · refine Eq.trans (q_iload dX13_look_173 (mk0 rfl) rfl) ?_
      refine Eq.trans (q_goto (t := 185) dX13_look_175 (mk0 rfl) rfl) ?_
      rfl
  · refine Eq.trans (q_aload_n dX13_look_137 (mk0 rfl) rfl rfl) ?_
    refine Eq.trans (q_iload dX13_look_138 (mk0 rfl) rfl) ?_
    refine Eq.trans (q_iload_n dX13_look_140 (mk0 rfl) rfl) ?_
    refine Eq.trans (q_callV (as := [.int i5, .int i3]) dX13_look_141 (mk0 rfl) rfl rfl rfl (Nat.le_of_ble_eq_true rfl) (Nat.le_of_ble_eq_true rfl)) (bind_cg fun b141 => ?_)
    refine Eq.trans (cI_bind (Or.inl rfl)) (bind_cg fun p141 => ?_)
    show RS (ZZ L xs) (d + 1) mX13_look 144 [some (.ref o), none, some (.int i2), some (.int i3), some (.int i4), some (.int i5)] [.int p141.2] p141.1 = _
    refine Eq.trans (q_aload_n dX13_look_144 (mk0 rfl) rfl rfl) ?_
    refine Eq.trans (q_iload dX13_look_145 (mk0 rfl) rfl) ?_
    refine Eq.trans (q_iload_n dX13_look_147 (mk0 rfl) rfl) ?_
    refine Eq.trans (q_callV (as := [.int i4, .int i3]) dX13_look_148 (mk0 rfl) rfl rfl rfl (Nat.le_of_ble_eq_true rfl) (Nat.le_of_ble_eq_true rfl)) (bind_cg fun b148 => ?_)
    refine Eq.trans (cI_bind (Or.inl rfl)) (bind_cg fun p148 => ?_)
    show RS (ZZ L xs) (d + 1) mX13_look 151 [some (.ref o), none, some (.int i2), some (.int i3), some (.int i4), some (.int i5)] [.int p148.2, .int p141.2] p148.1 = _
    refine Eq.trans (q_icmp_ge (t := 159) dX13_look_151 (mk0 rfl) rfl) (ite_cg ?_ ?_)
    · refine Eq.trans (q_iload dX13_look_159 (mk0 rfl) rfl) ?_
      rfl
    · refine Eq.trans (q_iload dX13_look_154 (mk0 rfl) rfl) ?_
      refine Eq.trans (q_goto (t := 161) dX13_look_156 (mk0 rfl) rfl) ?_
      rfl
set_option maxRecDepth 20000 in
theorem bX13_look_161 {L : Nat} {xs : Nat → Int32} (d : Nat) (o : Nat) (u1 : Option Value) (i2 : Int32) (i3 : Int32) (u4 : Option Value) (i5 : Int32) (t0 : Int32) (ph : PH) : RS (ZZ L xs) (d + 1) mX13_look 161 [some (.ref o), u1, some (.int i2), some (.int i3), u4, some (.int i5)] [.int t0] ph = RS (ZZ L xs) (d + 1) mX13_look 126 [some (.ref o), none, some (.int i2), some (.int i3), some (.int t0), some (.int (i5 + 1))] [] ph := by
  refine Eq.trans (q_istore (lv2 := [some (.ref o), none, some (.int i2), some (.int i3), some (.int t0), some (.int i5)]) dX13_look_161 (show mK mX13_look 161 [some (.ref o), u1, some (.int i2), some (.int i3), u4, some (.int i5)] = [some (.ref o), none, some (.int i2), some (.int i3), none, some (.int i5)] from rfl) (Nat.le_of_ble_eq_true rfl) rfl) ?_
  refine Eq.trans (q_iinc (v := 1) (lv2 := [some (.ref o), none, some (.int i2), some (.int i3), some (.int t0), some (.int (i5 + 1))]) dX13_look_163 (mk0 rfl) rfl rfl rfl) ?_
  refine Eq.trans (q_goto (t := 126) dX13_look_166 (mk0 rfl) rfl) ?_
  rfl
set_option maxRecDepth 20000 in
theorem bX13_look_185 {L : Nat} {xs : Nat → Int32} (d : Nat) (u0 : Option Value) (u1 : Option Value) (u2 : Option Value) (u3 : Option Value) (u4 : Option Value) (u5 : Option Value) (t0 : Int32) (ph : PH) : RS (ZZ L xs) (d + 1) mX13_look 185 [u0, u1, u2, u3, u4, u5] [.int t0] ph = some (ph, some (.int t0)) := by
  exact q_ireturn dX13_look_185 (show mK mX13_look 185 [u0, u1, u2, u3, u4, u5] = [none, none, none, none, none, none] from rfl) rfl
set_option maxRecDepth 20000 in
theorem bX13_seed_0 {L : Nat} {xs : Nat → Int32} (d : Nat) (o : Nat) (i1 : Int32) (ph : PH) : RS (ZZ L xs) (d + 1) mX13_seed 0 [some (.ref o), some (.int i1), none] [] ph = if (0 : Int32) ≤ i1 then (fR ph (.ref o) 13 1).bind fun x7 => (eI ph x7 8).bind fun x12 => (fR ph (.ref o) 13 1).bind fun x15 => (wI ph x15 8 i1).bind fun h21 => some (h21, some (.int x12)) else some (ph, some (.int ((-1)))) := by
  refine Eq.trans (q_iload_n dX13_seed_0 (mk0 rfl) rfl) ?_
  refine Eq.trans (q_if_ge (t := 6) dX13_seed_1 (mk0 rfl) rfl) (ite_cg ?_ ?_)
  · refine Eq.trans (q_aload_n dX13_seed_6 (mk0 rfl) rfl rfl) ?_
    refine Eq.trans (q_getR (ci := 13) (k := 1) dX13_seed_7 (mk0 rfl) rfl) (bind_cg2 fun x7 hx7 => ?_)
    have hx7 := fR_isR hx7
    refine Eq.trans (q_bipush (v := 8) dX13_seed_10 (mk0 rfl) rfl) ?_
    refine Eq.trans (q_iaload dX13_seed_12 (mk0 rfl) (no_ext hx7)) (bind_cg fun x12 => ?_)
    refine Eq.trans (q_istore_n (lv2 := [some (.ref o), some (.int i1), some (.int x12)]) dX13_seed_13 (mk0 rfl) (Nat.le_of_ble_eq_true rfl) rfl) ?_
    refine Eq.trans (q_aload_n dX13_seed_14 (mk0 rfl) rfl rfl) ?_
    refine Eq.trans (q_getR (ci := 13) (k := 1) dX13_seed_15 (mk0 rfl) rfl) (bind_cg2 fun x15 hx15 => ?_)
    have hx15 := fR_isR hx15
    refine Eq.trans (q_bipush (v := 8) dX13_seed_18 (mk0 rfl) rfl) ?_
    refine Eq.trans (q_iload_n dX13_seed_20 (mk0 rfl) rfl) ?_
    refine Eq.trans (q_iastore dX13_seed_21 (mk0 rfl)) (bind_cg fun h21 => ?_)
    refine Eq.trans (q_iload_n dX13_seed_22 (mk0 rfl) rfl) ?_
    exact q_ireturn dX13_seed_23 (mk0 rfl) rfl
  · refine Eq.trans (q_iconst (v := (-1)) dX13_seed_4 (mk0 rfl) rfl) ?_
    exact q_ireturn dX13_seed_5 (mk0 rfl) rfl
set_option maxRecDepth 20000 in
theorem bX13_draws_0 {L : Nat} {xs : Nat → Int32} (d : Nat) (o : Nat) (i1 : Int32) (ph : PH) : RS (ZZ L xs) (d + 1) mX13_draws 0 [some (.ref o), some (.int i1)] [] ph = (fR ph (.ref o) 13 1).bind fun x1 => (fR ph (.ref o) 13 1).bind fun x7 => (eI ph x7 8).bind fun x12 => if (2147483648 : Int64) = 0 then none else (wI ph x1 8 ((lRem ((((x12 : Int32).toInt64) * 1103515245) + 12345) 2147483648 : Int64).toInt32)).bind fun h27 => (fR h27 (.ref o) 13 1).bind fun x29 => (eI h27 x29 8).bind fun x34 => if (65536 : Int32) = 0 then none else if (i1 : Int32) = 0 then none else some (h27, some (.int (iRem (x34 / 65536) i1))) := by
  refine Eq.trans (q_aload_n dX13_draws_0 (mk0 rfl) rfl rfl) ?_
  refine Eq.trans (q_getR (ci := 13) (k := 1) dX13_draws_1 (mk0 rfl) rfl) (bind_cg2 fun x1 hx1 => ?_)
  have hx1 := fR_isR hx1
  refine Eq.trans (q_bipush (v := 8) dX13_draws_4 (mk0 rfl) rfl) ?_
  refine Eq.trans (q_aload_n dX13_draws_6 (mk0 rfl) rfl rfl) ?_
  refine Eq.trans (q_getR (ci := 13) (k := 1) dX13_draws_7 (mk0 rfl) rfl) (bind_cg2 fun x7 hx7 => ?_)
  have hx7 := fR_isR hx7
  refine Eq.trans (q_bipush (v := 8) dX13_draws_10 (mk0 rfl) rfl) ?_
  refine Eq.trans (q_iaload dX13_draws_12 (mk0 rfl) (no_ext hx7)) (bind_cg fun x12 => ?_)
  refine Eq.trans (q_i2l dX13_draws_13 (mk0 rfl)) ?_
  refine Eq.trans (q_ldc2 (v := 1103515245) dX13_draws_14 (mk0 rfl) rfl) ?_
  refine Eq.trans (q_lmul dX13_draws_17 (mk0 rfl)) ?_
  refine Eq.trans (q_ldc2 (v := 12345) dX13_draws_18 (mk0 rfl) rfl) ?_
  refine Eq.trans (q_ladd dX13_draws_21 (mk0 rfl)) ?_
  refine Eq.trans (q_ldc2 (v := 2147483648) dX13_draws_22 (mk0 rfl) rfl) ?_
  refine Eq.trans (q_lrem dX13_draws_25 (mk0 rfl)) (ite_cg rfl ?_)
  refine Eq.trans (q_l2i dX13_draws_26 (mk0 rfl)) ?_
  refine Eq.trans (q_iastore dX13_draws_27 (mk0 rfl)) (bind_cg fun h27 => ?_)
  refine Eq.trans (q_aload_n dX13_draws_28 (mk0 rfl) rfl rfl) ?_
  refine Eq.trans (q_getR (ci := 13) (k := 1) dX13_draws_29 (mk0 rfl) rfl) (bind_cg2 fun x29 hx29 => ?_)
  have hx29 := fR_isR hx29
  refine Eq.trans (q_bipush (v := 8) dX13_draws_32 (mk0 rfl) rfl) ?_
  refine Eq.trans (q_iaload dX13_draws_34 (mk0 rfl) (no_ext hx29)) (bind_cg fun x34 => ?_)
  refine Eq.trans (q_ldcwI (v := 65536) dX13_draws_35 (mk0 rfl) rfl) ?_
  refine Eq.trans (q_idiv dX13_draws_38 (mk0 rfl)) (ite_cg rfl ?_)
  refine Eq.trans (q_iload_n dX13_draws_39 (mk0 rfl) rfl) ?_
  refine Eq.trans (q_irem dX13_draws_40 (mk0 rfl)) (ite_cg rfl ?_)
  exact q_ireturn dX13_draws_41 (mk0 rfl) rfl
set_option maxRecDepth 20000 in
theorem bX13_markets_0 {L : Nat} {xs : Nat → Int32} (d : Nat) (o : Nat) (i1 : Int32) (i2 : Int32) (i3 : Int32) (i4 : Int32) (ph : PH) : RS (ZZ L xs) (d + 1) mX13_markets 0 [some (.ref o), some (.int i1), some (.int i2), some (.int i3), some (.int i4), none, none, none, none, none, none, none] [] ph = (iO ph (.ref o) 13).bind fun b1 => (cI (ZZ L xs) d mX13_isTown [.ref b1] ph).bind fun p1 => if (p1.2 : Int32) = 0 then RS (ZZ L xs) (d + 1) mX13_markets 54 [some (.ref o), some (.int i1), some (.int i2), some (.int i3), some (.int i4), none, none, none, none, none, none, none] [] p1.1 else (cI (ZZ L xs) d mX13_in [.long ((i1 : Int32).toInt64), .long 1, .long 10] p1.1).bind fun p13 => if (p13.2 : Int32) = 0 then RS (ZZ L xs) (d + 1) mX13_markets 54 [some (.ref o), some (.int i1), some (.int i2), some (.int i3), some (.int i4), none, none, none, none, none, none, none] [] p13.1 else (cI (ZZ L xs) d mX13_in [.long ((i2 : Int32).toInt64), .long 1, .long 60] p13.1).bind fun p25 => if (p25.2 : Int32) = 0 then RS (ZZ L xs) (d + 1) mX13_markets 54 [some (.ref o), some (.int i1), some (.int i2), some (.int i3), some (.int i4), none, none, none, none, none, none, none] [] p25.1 else (cI (ZZ L xs) d mX13_in [.long ((i3 : Int32).toInt64), .long 0, .long 100] p25.1).bind fun p37 => if (p37.2 : Int32) = 0 then RS (ZZ L xs) (d + 1) mX13_markets 54 [some (.ref o), some (.int i1), some (.int i2), some (.int i3), some (.int i4), none, none, none, none, none, none, none] [] p37.1 else (cI (ZZ L xs) d mX13_in [.long ((i4 : Int32).toInt64), .long 0, .long 1] p37.1).bind fun p48 => if ¬ (p48.2 : Int32) = 0 then (fR p48.1 (.ref o) 13 1).bind fun x57 => (eI p48.1 x57 8).bind fun x62 => if ¬ (i4 : Int32) = 0 then (iO p48.1 (.ref o) 13).bind fun b85 => (cI (ZZ L xs) d mX13_allAsked [.ref b85] p48.1).bind fun p85 => RS (ZZ L xs) (d + 1) mX13_markets 88 [some (.ref o), some (.int i1), some (.int i2), some (.int i3), some (.int i4), some (.int x62), some (.int x62), none, none, none, none, none] [.int p85.2] p85.1 else (fR p48.1 (.ref o) 13 1).bind fun x75 => (eI p48.1 x75 6).bind fun x80 => RS (ZZ L xs) (d + 1) mX13_markets 88 [some (.ref o), some (.int i1), some (.int i2), some (.int i3), some (.int i4), some (.int x62), some (.int x62), none, none, none, none, none] [.int x80] p48.1 else RS (ZZ L xs) (d + 1) mX13_markets 54 [some (.ref o), some (.int i1), some (.int i2), some (.int i3), some (.int i4), none, none, none, none, none, none, none] [] p48.1 := by
  refine Eq.trans (q_aload_n dX13_markets_0 (mk0 rfl) rfl rfl) ?_
  refine Eq.trans (q_callV (as := []) dX13_markets_1 (mk0 rfl) rfl rfl rfl (Nat.le_of_ble_eq_true rfl) (Nat.le_of_ble_eq_true rfl)) (bind_cg fun b1 => ?_)
  refine Eq.trans (cI_bind (Or.inr rfl)) (bind_cg fun p1 => ?_)
  show RS (ZZ L xs) (d + 1) mX13_markets 4 [some (.ref o), some (.int i1), some (.int i2), some (.int i3), some (.int i4), none, none, none, none, none, none, none] [.int p1.2] p1.1 = _
  refine Eq.trans (q_if_eq (t := 54) dX13_markets_4 (mk0 rfl) rfl) (ite_cg ?_ ?_)
  · rfl
  · refine Eq.trans (q_iload_n dX13_markets_7 (mk0 rfl) rfl) ?_
    refine Eq.trans (q_i2l dX13_markets_8 (mk0 rfl)) ?_
    refine Eq.trans (q_lconst (v := 1) dX13_markets_9 (mk0 rfl) rfl) ?_
    refine Eq.trans (q_ldc2 (v := 10) dX13_markets_10 (mk0 rfl) rfl) ?_
    refine Eq.trans (q_callS (as := [.long ((i1 : Int32).toInt64), .long 1, .long 10]) dX13_markets_13 (mk0 rfl) rfl (Or.inl rfl) rfl rfl (Nat.le_of_ble_eq_true rfl) (Nat.le_of_ble_eq_true rfl)) ?_
    refine Eq.trans (cI_bind (Or.inr rfl)) (bind_cg fun p13 => ?_)
    show RS (ZZ L xs) (d + 1) mX13_markets 16 [some (.ref o), some (.int i1), some (.int i2), some (.int i3), some (.int i4), none, none, none, none, none, none, none] [.int p13.2] p13.1 = _
    refine Eq.trans (q_if_eq (t := 54) dX13_markets_16 (mk0 rfl) rfl) (ite_cg ?_ ?_)
    · rfl
    · refine Eq.trans (q_iload_n dX13_markets_19 (mk0 rfl) rfl) ?_
      refine Eq.trans (q_i2l dX13_markets_20 (mk0 rfl)) ?_
      refine Eq.trans (q_lconst (v := 1) dX13_markets_21 (mk0 rfl) rfl) ?_
      refine Eq.trans (q_ldc2 (v := 60) dX13_markets_22 (mk0 rfl) rfl) ?_
      refine Eq.trans (q_callS (as := [.long ((i2 : Int32).toInt64), .long 1, .long 60]) dX13_markets_25 (mk0 rfl) rfl (Or.inl rfl) rfl rfl (Nat.le_of_ble_eq_true rfl) (Nat.le_of_ble_eq_true rfl)) ?_
      refine Eq.trans (cI_bind (Or.inr rfl)) (bind_cg fun p25 => ?_)
      show RS (ZZ L xs) (d + 1) mX13_markets 28 [some (.ref o), some (.int i1), some (.int i2), some (.int i3), some (.int i4), none, none, none, none, none, none, none] [.int p25.2] p25.1 = _
      refine Eq.trans (q_if_eq (t := 54) dX13_markets_28 (mk0 rfl) rfl) (ite_cg ?_ ?_)
      · rfl
      · refine Eq.trans (q_iload_n dX13_markets_31 (mk0 rfl) rfl) ?_
        refine Eq.trans (q_i2l dX13_markets_32 (mk0 rfl)) ?_
        refine Eq.trans (q_lconst (v := 0) dX13_markets_33 (mk0 rfl) rfl) ?_
        refine Eq.trans (q_ldc2 (v := 100) dX13_markets_34 (mk0 rfl) rfl) ?_
        refine Eq.trans (q_callS (as := [.long ((i3 : Int32).toInt64), .long 0, .long 100]) dX13_markets_37 (mk0 rfl) rfl (Or.inl rfl) rfl rfl (Nat.le_of_ble_eq_true rfl) (Nat.le_of_ble_eq_true rfl)) ?_
        refine Eq.trans (cI_bind (Or.inr rfl)) (bind_cg fun p37 => ?_)
        show RS (ZZ L xs) (d + 1) mX13_markets 40 [some (.ref o), some (.int i1), some (.int i2), some (.int i3), some (.int i4), none, none, none, none, none, none, none] [.int p37.2] p37.1 = _
        refine Eq.trans (q_if_eq (t := 54) dX13_markets_40 (mk0 rfl) rfl) (ite_cg ?_ ?_)
        · rfl
        · refine Eq.trans (q_iload dX13_markets_43 (mk0 rfl) rfl) ?_
          refine Eq.trans (q_i2l dX13_markets_45 (mk0 rfl)) ?_
          refine Eq.trans (q_lconst (v := 0) dX13_markets_46 (mk0 rfl) rfl) ?_
          refine Eq.trans (q_lconst (v := 1) dX13_markets_47 (mk0 rfl) rfl) ?_
          refine Eq.trans (q_callS (as := [.long ((i4 : Int32).toInt64), .long 0, .long 1]) dX13_markets_48 (mk0 rfl) rfl (Or.inl rfl) rfl rfl (Nat.le_of_ble_eq_true rfl) (Nat.le_of_ble_eq_true rfl)) ?_
          refine Eq.trans (cI_bind (Or.inr rfl)) (bind_cg fun p48 => ?_)
          show RS (ZZ L xs) (d + 1) mX13_markets 51 [some (.ref o), some (.int i1), some (.int i2), some (.int i3), some (.int i4), none, none, none, none, none, none, none] [.int p48.2] p48.1 = _
          refine Eq.trans (q_if_ne (t := 56) dX13_markets_51 (mk0 rfl) rfl) (ite_cg ?_ ?_)
          · refine Eq.trans (q_aload_n dX13_markets_56 (mk0 rfl) rfl rfl) ?_
            refine Eq.trans (q_getR (ci := 13) (k := 1) dX13_markets_57 (mk0 rfl) rfl) (bind_cg2 fun x57 hx57 => ?_)
            have hx57 := fR_isR hx57
            refine Eq.trans (q_bipush (v := 8) dX13_markets_60 (mk0 rfl) rfl) ?_
            refine Eq.trans (q_iaload dX13_markets_62 (mk0 rfl) (no_ext hx57)) (bind_cg fun x62 => ?_)
            refine Eq.trans (q_istore (lv2 := [some (.ref o), some (.int i1), some (.int i2), some (.int i3), some (.int i4), some (.int x62), none, none, none, none, none, none]) dX13_markets_63 (mk0 rfl) (Nat.le_of_ble_eq_true rfl) rfl) ?_
            refine Eq.trans (q_iload dX13_markets_65 (mk0 rfl) rfl) ?_
            refine Eq.trans (q_istore (lv2 := [some (.ref o), some (.int i1), some (.int i2), some (.int i3), some (.int i4), some (.int x62), some (.int x62), none, none, none, none, none]) dX13_markets_67 (mk0 rfl) (Nat.le_of_ble_eq_true rfl) rfl) ?_
            refine Eq.trans (q_iload dX13_markets_69 (mk0 rfl) rfl) ?_
            refine Eq.trans (q_if_ne (t := 84) dX13_markets_71 (mk0 rfl) rfl) (ite_cg ?_ ?_)
            · refine Eq.trans (q_aload_n dX13_markets_84 (mk0 rfl) rfl rfl) ?_
              refine Eq.trans (q_callV (as := []) dX13_markets_85 (mk0 rfl) rfl rfl rfl (Nat.le_of_ble_eq_true rfl) (Nat.le_of_ble_eq_true rfl)) (bind_cg fun b85 => ?_)
              refine Eq.trans (cI_bind (Or.inl rfl)) (bind_cg fun p85 => ?_)
              show RS (ZZ L xs) (d + 1) mX13_markets 88 [some (.ref o), some (.int i1), some (.int i2), some (.int i3), some (.int i4), some (.int x62), some (.int x62), none, none, none, none, none] [.int p85.2] p85.1 = _
              rfl
            · refine Eq.trans (q_aload_n dX13_markets_74 (mk0 rfl) rfl rfl) ?_
              refine Eq.trans (q_getR (ci := 13) (k := 1) dX13_markets_75 (mk0 rfl) rfl) (bind_cg2 fun x75 hx75 => ?_)
              have hx75 := fR_isR hx75
              refine Eq.trans (q_bipush (v := 6) dX13_markets_78 (mk0 rfl) rfl) ?_
              refine Eq.trans (q_iaload dX13_markets_80 (mk0 rfl) (no_ext hx75)) (bind_cg fun x80 => ?_)
              refine Eq.trans (q_goto (t := 88) dX13_markets_81 (mk0 rfl) rfl) ?_
              rfl
          · rfl
set_option maxRecDepth 20000 in
theorem bX13_markets_54 {L : Nat} {xs : Nat → Int32} (d : Nat) (u0 : Option Value) (u1 : Option Value) (u2 : Option Value) (u3 : Option Value) (u4 : Option Value) (u5 : Option Value) (u6 : Option Value) (u7 : Option Value) (u8 : Option Value) (u9 : Option Value) (u10 : Option Value) (u11 : Option Value) (ph : PH) : RS (ZZ L xs) (d + 1) mX13_markets 54 [u0, u1, u2, u3, u4, u5, u6, u7, u8, u9, u10, u11] [] ph = some (ph, some (.int ((-1)))) := by
  refine Eq.trans (q_iconst (v := (-1)) dX13_markets_54 (show mK mX13_markets 54 [u0, u1, u2, u3, u4, u5, u6, u7, u8, u9, u10, u11] = [none, none, none, none, none, none, none, none, none, none, none, none] from rfl) rfl) ?_
  exact q_ireturn dX13_markets_55 (mk0 rfl) rfl
set_option maxRecDepth 20000 in
theorem bX13_markets_88 {L : Nat} {xs : Nat → Int32} (d : Nat) (o : Nat) (i1 : Int32) (i2 : Int32) (i3 : Int32) (i4 : Int32) (i5 : Int32) (i6 : Int32) (u7 : Option Value) (u8 : Option Value) (u9 : Option Value) (u10 : Option Value) (u11 : Option Value) (t0 : Int32) (ph : PH) : RS (ZZ L xs) (d + 1) mX13_markets 88 [some (.ref o), some (.int i1), some (.int i2), some (.int i3), some (.int i4), some (.int i5), some (.int i6), u7, u8, u9, u10, u11] [.int t0] ph = (iO ph (.ref o) 13).bind fun b94 => (cV (ZZ L xs) d mX13_keepsAll [.ref b94] ph).bind fun p94 => RS (ZZ L xs) (d + 1) mX13_markets 100 [some (.ref o), some (.int i1), some (.int i2), some (.int i3), some (.int i4), some (.int i5), some (.int i6), some (.int t0), some (.int 0), some (.int 0), none, none] [] p94 := by
  refine Eq.trans (q_istore (lv2 := [some (.ref o), some (.int i1), some (.int i2), some (.int i3), some (.int i4), some (.int i5), some (.int i6), some (.int t0), none, none, none, none]) dX13_markets_88 (show mK mX13_markets 88 [some (.ref o), some (.int i1), some (.int i2), some (.int i3), some (.int i4), some (.int i5), some (.int i6), u7, u8, u9, u10, u11] = [some (.ref o), some (.int i1), some (.int i2), some (.int i3), some (.int i4), some (.int i5), some (.int i6), none, none, none, none, none] from rfl) (Nat.le_of_ble_eq_true rfl) rfl) ?_
  refine Eq.trans (q_iconst (v := 0) dX13_markets_90 (mk0 rfl) rfl) ?_
  refine Eq.trans (q_istore (lv2 := [some (.ref o), some (.int i1), some (.int i2), some (.int i3), some (.int i4), some (.int i5), some (.int i6), some (.int t0), some (.int 0), none, none, none]) dX13_markets_91 (mk0 rfl) (Nat.le_of_ble_eq_true rfl) rfl) ?_
  refine Eq.trans (q_aload_n dX13_markets_93 (mk0 rfl) rfl rfl) ?_
  refine Eq.trans (q_callV (as := []) dX13_markets_94 (mk0 rfl) rfl rfl rfl (Nat.le_of_ble_eq_true rfl) (Nat.le_of_ble_eq_true rfl)) (bind_cg fun b94 => ?_)
  refine Eq.trans (cV_bind rfl) (bind_cg fun p94 => ?_)
  show RS (ZZ L xs) (d + 1) mX13_markets 97 [some (.ref o), some (.int i1), some (.int i2), some (.int i3), some (.int i4), some (.int i5), some (.int i6), some (.int t0), some (.int 0), none, none, none] [] p94 = _
  refine Eq.trans (q_iconst (v := 0) dX13_markets_97 (mk0 rfl) rfl) ?_
  refine Eq.trans (q_istore (lv2 := [some (.ref o), some (.int i1), some (.int i2), some (.int i3), some (.int i4), some (.int i5), some (.int i6), some (.int t0), some (.int 0), some (.int 0), none, none]) dX13_markets_98 (mk0 rfl) (Nat.le_of_ble_eq_true rfl) rfl) ?_
  rfl
set_option maxRecDepth 20000 in
theorem bX13_markets_100 {L : Nat} {xs : Nat → Int32} (d : Nat) (o : Nat) (i1 : Int32) (i2 : Int32) (i3 : Int32) (i4 : Int32) (i5 : Int32) (i6 : Int32) (i7 : Int32) (i8 : Int32) (i9 : Int32) (u10 : Option Value) (u11 : Option Value) (ph : PH) : RS (ZZ L xs) (d + 1) mX13_markets 100 [some (.ref o), some (.int i1), some (.int i2), some (.int i3), some (.int i4), some (.int i5), some (.int i6), some (.int i7), some (.int i8), some (.int i9), u10, u11] [] ph = if (i1 : Int32) ≤ i9 then (fR ph (.ref o) 13 1).bind fun x230 => (wI ph x230 8 i5).bind fun h237 => some (h237, some (.int i8)) else (fR ph (.ref o) 13 1).bind fun x107 => (wI ph x107 8 i6).bind fun h114 => RS (ZZ L xs) (d + 1) mX13_markets 118 [some (.ref o), some (.int i1), some (.int i2), some (.int i3), some (.int i4), some (.int i5), some (.int i6), some (.int i7), some (.int i8), some (.int i9), some (.int 0), none] [] h114 := by
  refine Eq.trans (q_iload dX13_markets_100 (show mK mX13_markets 100 [some (.ref o), some (.int i1), some (.int i2), some (.int i3), some (.int i4), some (.int i5), some (.int i6), some (.int i7), some (.int i8), some (.int i9), u10, u11] = [some (.ref o), some (.int i1), some (.int i2), some (.int i3), some (.int i4), some (.int i5), some (.int i6), some (.int i7), some (.int i8), some (.int i9), none, none] from rfl) rfl) ?_
  refine Eq.trans (q_iload_n dX13_markets_102 (mk0 rfl) rfl) ?_
  refine Eq.trans (q_icmp_ge (t := 229) dX13_markets_103 (mk0 rfl) rfl) (ite_cg ?_ ?_)
  · refine Eq.trans (q_aload_n dX13_markets_229 (mk0 rfl) rfl rfl) ?_
    refine Eq.trans (q_getR (ci := 13) (k := 1) dX13_markets_230 (mk0 rfl) rfl) (bind_cg2 fun x230 hx230 => ?_)
    have hx230 := fR_isR hx230
    refine Eq.trans (q_bipush (v := 8) dX13_markets_233 (mk0 rfl) rfl) ?_
    refine Eq.trans (q_iload dX13_markets_235 (mk0 rfl) rfl) ?_
    refine Eq.trans (q_iastore dX13_markets_237 (mk0 rfl)) (bind_cg fun h237 => ?_)
    refine Eq.trans (q_iload dX13_markets_238 (mk0 rfl) rfl) ?_
    exact q_ireturn dX13_markets_240 (mk0 rfl) rfl
  · refine Eq.trans (q_aload_n dX13_markets_106 (mk0 rfl) rfl rfl) ?_
    refine Eq.trans (q_getR (ci := 13) (k := 1) dX13_markets_107 (mk0 rfl) rfl) (bind_cg2 fun x107 hx107 => ?_)
    have hx107 := fR_isR hx107
    refine Eq.trans (q_bipush (v := 8) dX13_markets_110 (mk0 rfl) rfl) ?_
    refine Eq.trans (q_iload dX13_markets_112 (mk0 rfl) rfl) ?_
    refine Eq.trans (q_iastore dX13_markets_114 (mk0 rfl)) (bind_cg fun h114 => ?_)
    refine Eq.trans (q_iconst (v := 0) dX13_markets_115 (mk0 rfl) rfl) ?_
    refine Eq.trans (q_istore (lv2 := [some (.ref o), some (.int i1), some (.int i2), some (.int i3), some (.int i4), some (.int i5), some (.int i6), some (.int i7), some (.int i8), some (.int i9), some (.int 0), none]) dX13_markets_116 (mk0 rfl) (Nat.le_of_ble_eq_true rfl) rfl) ?_
    rfl
set_option maxRecDepth 20000 in
theorem bX13_markets_118 {L : Nat} {xs : Nat → Int32} (d : Nat) (o : Nat) (i1 : Int32) (i2 : Int32) (i3 : Int32) (i4 : Int32) (i5 : Int32) (u6 : Option Value) (i7 : Int32) (i8 : Int32) (i9 : Int32) (i10 : Int32) (u11 : Option Value) (ph : PH) : RS (ZZ L xs) (d + 1) mX13_markets 118 [some (.ref o), some (.int i1), some (.int i2), some (.int i3), some (.int i4), some (.int i5), u6, some (.int i7), some (.int i8), some (.int i9), some (.int i10), u11] [] ph = if (i2 : Int32) ≤ i10 then if ¬ (i4 : Int32) = 0 then (iO ph (.ref o) 13).bind fun b201 => (cI (ZZ L xs) d mX13_allAsked [.ref b201] ph).bind fun p201 => RS (ZZ L xs) (d + 1) mX13_markets 204 [some (.ref o), some (.int i1), some (.int i2), some (.int i3), some (.int i4), some (.int i5), none, some (.int i7), some (.int i8), some (.int i9), some (.int i10), none] [.int p201.2, .int i8] p201.1 else (fR ph (.ref o) 13 1).bind fun x191 => (eI ph x191 6).bind fun x196 => RS (ZZ L xs) (d + 1) mX13_markets 204 [some (.ref o), some (.int i1), some (.int i2), some (.int i3), some (.int i4), some (.int i5), none, some (.int i7), some (.int i8), some (.int i9), some (.int i10), none] [.int x196, .int i8] ph else (iO ph (.ref o) 13).bind fun b127 => (cI (ZZ L xs) d mX13_draws [.ref b127, .int 100] ph).bind fun p127 => if (i3 : Int32) ≤ p127.2 then RS (ZZ L xs) (d + 1) mX13_markets 172 [some (.ref o), some (.int i1), some (.int i2), some (.int i3), some (.int i4), some (.int i5), none, some (.int i7), some (.int i8), some (.int i9), some (.int i10), none] [] p127.1 else (fR p127.1 (.ref o) 13 1).bind fun x135 => (eI p127.1 x135 2).bind fun x139 => if (x139 : Int32) ≤ 0 then RS (ZZ L xs) (d + 1) mX13_markets 172 [some (.ref o), some (.int i1), some (.int i2), some (.int i3), some (.int i4), some (.int i5), none, some (.int i7), some (.int i8), some (.int i9), some (.int i10), none] [] p127.1 else (fR p127.1 (.ref o) 13 1).bind fun x145 => (eI p127.1 x145 2).bind fun x149 => (iO p127.1 (.ref o) 13).bind fun b150 => (cI (ZZ L xs) d mX13_draws [.ref b150, .int x149] p127.1).bind fun p150 => (fR p150.1 (.ref o) 13 2).bind fun x156 => (fR p150.1 (.ref o) 13 1).bind fun x163 => (eI p150.1 x163 0).bind fun x167 => (iO p150.1 (.ref o) 13).bind fun b168 => (cI (ZZ L xs) d mX13_draws [.ref b168, .int x167] p150.1).bind fun p168 => (wI p168.1 x156 p150.2 p168.2).bind fun h171 => RS (ZZ L xs) (d + 1) mX13_markets 172 [some (.ref o), some (.int i1), some (.int i2), some (.int i3), some (.int i4), some (.int i5), none, some (.int i7), some (.int i8), some (.int i9), some (.int i10), some (.int p150.2)] [] h171 := by
  refine Eq.trans (q_iload dX13_markets_118 (show mK mX13_markets 118 [some (.ref o), some (.int i1), some (.int i2), some (.int i3), some (.int i4), some (.int i5), u6, some (.int i7), some (.int i8), some (.int i9), some (.int i10), u11] = [some (.ref o), some (.int i1), some (.int i2), some (.int i3), some (.int i4), some (.int i5), none, some (.int i7), some (.int i8), some (.int i9), some (.int i10), none] from rfl) rfl) ?_
  refine Eq.trans (q_iload_n dX13_markets_120 (mk0 rfl) rfl) ?_
  refine Eq.trans (q_icmp_ge (t := 183) dX13_markets_121 (mk0 rfl) rfl) (ite_cg ?_ ?_)
  · refine Eq.trans (q_iload dX13_markets_183 (mk0 rfl) rfl) ?_
    refine Eq.trans (q_iload dX13_markets_185 (mk0 rfl) rfl) ?_
    refine Eq.trans (q_if_ne (t := 200) dX13_markets_187 (mk0 rfl) rfl) (ite_cg ?_ ?_)
    · refine Eq.trans (q_aload_n dX13_markets_200 (mk0 rfl) rfl rfl) ?_
      refine Eq.trans (q_callV (as := []) dX13_markets_201 (mk0 rfl) rfl rfl rfl (Nat.le_of_ble_eq_true rfl) (Nat.le_of_ble_eq_true rfl)) (bind_cg fun b201 => ?_)
      refine Eq.trans (cI_bind (Or.inl rfl)) (bind_cg fun p201 => ?_)
      show RS (ZZ L xs) (d + 1) mX13_markets 204 [some (.ref o), some (.int i1), some (.int i2), some (.int i3), some (.int i4), some (.int i5), none, some (.int i7), some (.int i8), some (.int i9), some (.int i10), none] [.int p201.2, .int i8] p201.1 = _
      rfl
    · refine Eq.trans (q_aload_n dX13_markets_190 (mk0 rfl) rfl rfl) ?_
      refine Eq.trans (q_getR (ci := 13) (k := 1) dX13_markets_191 (mk0 rfl) rfl) (bind_cg2 fun x191 hx191 => ?_)
      have hx191 := fR_isR hx191
      refine Eq.trans (q_bipush (v := 6) dX13_markets_194 (mk0 rfl) rfl) ?_
      refine Eq.trans (q_iaload dX13_markets_196 (mk0 rfl) (no_ext hx191)) (bind_cg fun x196 => ?_)
      refine Eq.trans (q_goto (t := 204) dX13_markets_197 (mk0 rfl) rfl) ?_
      rfl
  · refine Eq.trans (q_aload_n dX13_markets_124 (mk0 rfl) rfl rfl) ?_
    refine Eq.trans (q_bipush (v := 100) dX13_markets_125 (mk0 rfl) rfl) ?_
    refine Eq.trans (q_callV (as := [.int 100]) dX13_markets_127 (mk0 rfl) rfl rfl rfl (Nat.le_of_ble_eq_true rfl) (Nat.le_of_ble_eq_true rfl)) (bind_cg fun b127 => ?_)
    refine Eq.trans (cI_bind (Or.inl rfl)) (bind_cg fun p127 => ?_)
    show RS (ZZ L xs) (d + 1) mX13_markets 130 [some (.ref o), some (.int i1), some (.int i2), some (.int i3), some (.int i4), some (.int i5), none, some (.int i7), some (.int i8), some (.int i9), some (.int i10), none] [.int p127.2] p127.1 = _
    refine Eq.trans (q_iload_n dX13_markets_130 (mk0 rfl) rfl) ?_
    refine Eq.trans (q_icmp_ge (t := 172) dX13_markets_131 (mk0 rfl) rfl) (ite_cg ?_ ?_)
    · rfl
    · refine Eq.trans (q_aload_n dX13_markets_134 (mk0 rfl) rfl rfl) ?_
      refine Eq.trans (q_getR (ci := 13) (k := 1) dX13_markets_135 (mk0 rfl) rfl) (bind_cg2 fun x135 hx135 => ?_)
      have hx135 := fR_isR hx135
      refine Eq.trans (q_iconst (v := 2) dX13_markets_138 (mk0 rfl) rfl) ?_
      refine Eq.trans (q_iaload dX13_markets_139 (mk0 rfl) (no_ext hx135)) (bind_cg fun x139 => ?_)
      refine Eq.trans (q_if_le (t := 172) dX13_markets_140 (mk0 rfl) rfl) (ite_cg ?_ ?_)
      · rfl
      · refine Eq.trans (q_aload_n dX13_markets_143 (mk0 rfl) rfl rfl) ?_
        refine Eq.trans (q_aload_n dX13_markets_144 (mk0 rfl) rfl rfl) ?_
        refine Eq.trans (q_getR (ci := 13) (k := 1) dX13_markets_145 (mk0 rfl) rfl) (bind_cg2 fun x145 hx145 => ?_)
        have hx145 := fR_isR hx145
        refine Eq.trans (q_iconst (v := 2) dX13_markets_148 (mk0 rfl) rfl) ?_
        refine Eq.trans (q_iaload dX13_markets_149 (mk0 rfl) (no_ext hx145)) (bind_cg fun x149 => ?_)
        refine Eq.trans (q_callV (as := [.int x149]) dX13_markets_150 (mk0 rfl) rfl rfl rfl (Nat.le_of_ble_eq_true rfl) (Nat.le_of_ble_eq_true rfl)) (bind_cg fun b150 => ?_)
        refine Eq.trans (cI_bind (Or.inl rfl)) (bind_cg fun p150 => ?_)
        show RS (ZZ L xs) (d + 1) mX13_markets 153 [some (.ref o), some (.int i1), some (.int i2), some (.int i3), some (.int i4), some (.int i5), none, some (.int i7), some (.int i8), some (.int i9), some (.int i10), none] [.int p150.2] p150.1 = _
        refine Eq.trans (q_istore (lv2 := [some (.ref o), some (.int i1), some (.int i2), some (.int i3), some (.int i4), some (.int i5), none, some (.int i7), some (.int i8), some (.int i9), some (.int i10), some (.int p150.2)]) dX13_markets_153 (mk0 rfl) (Nat.le_of_ble_eq_true rfl) rfl) ?_
        refine Eq.trans (q_aload_n dX13_markets_155 (mk0 rfl) rfl rfl) ?_
        refine Eq.trans (q_getR (ci := 13) (k := 2) dX13_markets_156 (mk0 rfl) rfl) (bind_cg2 fun x156 hx156 => ?_)
        have hx156 := fR_isR hx156
        refine Eq.trans (q_iload dX13_markets_159 (mk0 rfl) rfl) ?_
        refine Eq.trans (q_aload_n dX13_markets_161 (mk0 rfl) rfl rfl) ?_
        refine Eq.trans (q_aload_n dX13_markets_162 (mk0 rfl) rfl rfl) ?_
        refine Eq.trans (q_getR (ci := 13) (k := 1) dX13_markets_163 (mk0 rfl) rfl) (bind_cg2 fun x163 hx163 => ?_)
        have hx163 := fR_isR hx163
        refine Eq.trans (q_iconst (v := 0) dX13_markets_166 (mk0 rfl) rfl) ?_
        refine Eq.trans (q_iaload dX13_markets_167 (mk0 rfl) (no_ext hx163)) (bind_cg fun x167 => ?_)
        refine Eq.trans (q_callV (as := [.int x167]) dX13_markets_168 (mk0 rfl) rfl rfl rfl (by simp [catS, ct_i, ct_l, ct_r, ct_n, ct_x, (cat_R hx156)]) (Nat.le_of_ble_eq_true rfl)) (bind_cg fun b168 => ?_)
        refine Eq.trans (cI_bind (Or.inl rfl)) (bind_cg fun p168 => ?_)
        show RS (ZZ L xs) (d + 1) mX13_markets 171 [some (.ref o), some (.int i1), some (.int i2), some (.int i3), some (.int i4), some (.int i5), none, some (.int i7), some (.int i8), some (.int i9), some (.int i10), some (.int p150.2)] [.int p168.2, .int p150.2, x156] p168.1 = _
        refine Eq.trans (q_iastore dX13_markets_171 (mk0 rfl)) (bind_cg fun h171 => ?_)
        rfl
set_option maxRecDepth 20000 in
theorem bX13_markets_172 {L : Nat} {xs : Nat → Int32} (d : Nat) (o : Nat) (i1 : Int32) (i2 : Int32) (i3 : Int32) (i4 : Int32) (i5 : Int32) (u6 : Option Value) (i7 : Int32) (i8 : Int32) (i9 : Int32) (i10 : Int32) (u11 : Option Value) (ph : PH) : RS (ZZ L xs) (d + 1) mX13_markets 172 [some (.ref o), some (.int i1), some (.int i2), some (.int i3), some (.int i4), some (.int i5), u6, some (.int i7), some (.int i8), some (.int i9), some (.int i10), u11] [] ph = (iO ph (.ref o) 13).bind fun b173 => (cI (ZZ L xs) d mX13_goes [.ref b173] ph).bind fun p173 => RS (ZZ L xs) (d + 1) mX13_markets 118 [some (.ref o), some (.int i1), some (.int i2), some (.int i3), some (.int i4), some (.int i5), none, some (.int i7), some (.int i8), some (.int i9), some (.int (i10 + 1)), none] [] p173.1 := by
  refine Eq.trans (q_aload_n dX13_markets_172 (show mK mX13_markets 172 [some (.ref o), some (.int i1), some (.int i2), some (.int i3), some (.int i4), some (.int i5), u6, some (.int i7), some (.int i8), some (.int i9), some (.int i10), u11] = [some (.ref o), some (.int i1), some (.int i2), some (.int i3), some (.int i4), some (.int i5), none, some (.int i7), some (.int i8), some (.int i9), some (.int i10), none] from rfl) rfl rfl) ?_
  refine Eq.trans (q_callV (as := []) dX13_markets_173 (mk0 rfl) rfl rfl rfl (Nat.le_of_ble_eq_true rfl) (Nat.le_of_ble_eq_true rfl)) (bind_cg fun b173 => ?_)
  refine Eq.trans (cI_bind (Or.inl rfl)) (bind_cg fun p173 => ?_)
  show RS (ZZ L xs) (d + 1) mX13_markets 176 [some (.ref o), some (.int i1), some (.int i2), some (.int i3), some (.int i4), some (.int i5), none, some (.int i7), some (.int i8), some (.int i9), some (.int i10), none] [.int p173.2] p173.1 = _
  refine Eq.trans (q_pop dX13_markets_176 (mk0 rfl) rfl) ?_
  refine Eq.trans (q_iinc (v := 1) (lv2 := [some (.ref o), some (.int i1), some (.int i2), some (.int i3), some (.int i4), some (.int i5), none, some (.int i7), some (.int i8), some (.int i9), some (.int (i10 + 1)), none]) dX13_markets_177 (mk0 rfl) rfl rfl rfl) ?_
  refine Eq.trans (q_goto (t := 118) dX13_markets_180 (mk0 rfl) rfl) ?_
  rfl
set_option maxRecDepth 20000 in
theorem bX13_markets_204 {L : Nat} {xs : Nat → Int32} (d : Nat) (o : Nat) (i1 : Int32) (i2 : Int32) (i3 : Int32) (i4 : Int32) (i5 : Int32) (u6 : Option Value) (i7 : Int32) (u8 : Option Value) (i9 : Int32) (u10 : Option Value) (u11 : Option Value) (t0 : Int32) (t1 : Int32) (ph : PH) : RS (ZZ L xs) (d + 1) mX13_markets 204 [some (.ref o), some (.int i1), some (.int i2), some (.int i3), some (.int i4), some (.int i5), u6, some (.int i7), u8, some (.int i9), u10, u11] [.int t0, .int t1] ph = (fR ph (.ref o) 13 1).bind fun x211 => (eI ph x211 8).bind fun x216 => (iO ph (.ref o) 13).bind fun b220 => (cV (ZZ L xs) d mX13_laysBack [.ref b220] ph).bind fun p220 => RS (ZZ L xs) (d + 1) mX13_markets 100 [some (.ref o), some (.int i1), some (.int i2), some (.int i3), some (.int i4), some (.int i5), some (.int x216), some (.int i7), some (.int (t1 + (t0 - i7))), some (.int (i9 + 1)), none, none] [] p220 := by
  refine Eq.trans (q_iload dX13_markets_204 (show mK mX13_markets 204 [some (.ref o), some (.int i1), some (.int i2), some (.int i3), some (.int i4), some (.int i5), u6, some (.int i7), u8, some (.int i9), u10, u11] = [some (.ref o), some (.int i1), some (.int i2), some (.int i3), some (.int i4), some (.int i5), none, some (.int i7), none, some (.int i9), none, none] from rfl) rfl) ?_
  refine Eq.trans (q_isub dX13_markets_206 (mk0 rfl)) ?_
  refine Eq.trans (q_iadd dX13_markets_207 (mk0 rfl)) ?_
  refine Eq.trans (q_istore (lv2 := [some (.ref o), some (.int i1), some (.int i2), some (.int i3), some (.int i4), some (.int i5), none, some (.int i7), some (.int (t1 + (t0 - i7))), some (.int i9), none, none]) dX13_markets_208 (mk0 rfl) (Nat.le_of_ble_eq_true rfl) rfl) ?_
  refine Eq.trans (q_aload_n dX13_markets_210 (mk0 rfl) rfl rfl) ?_
  refine Eq.trans (q_getR (ci := 13) (k := 1) dX13_markets_211 (mk0 rfl) rfl) (bind_cg2 fun x211 hx211 => ?_)
  have hx211 := fR_isR hx211
  refine Eq.trans (q_bipush (v := 8) dX13_markets_214 (mk0 rfl) rfl) ?_
  refine Eq.trans (q_iaload dX13_markets_216 (mk0 rfl) (no_ext hx211)) (bind_cg fun x216 => ?_)
  refine Eq.trans (q_istore (lv2 := [some (.ref o), some (.int i1), some (.int i2), some (.int i3), some (.int i4), some (.int i5), some (.int x216), some (.int i7), some (.int (t1 + (t0 - i7))), some (.int i9), none, none]) dX13_markets_217 (mk0 rfl) (Nat.le_of_ble_eq_true rfl) rfl) ?_
  refine Eq.trans (q_aload_n dX13_markets_219 (mk0 rfl) rfl rfl) ?_
  refine Eq.trans (q_callV (as := []) dX13_markets_220 (mk0 rfl) rfl rfl rfl (Nat.le_of_ble_eq_true rfl) (Nat.le_of_ble_eq_true rfl)) (bind_cg fun b220 => ?_)
  refine Eq.trans (cV_bind rfl) (bind_cg fun p220 => ?_)
  show RS (ZZ L xs) (d + 1) mX13_markets 223 [some (.ref o), some (.int i1), some (.int i2), some (.int i3), some (.int i4), some (.int i5), some (.int x216), some (.int i7), some (.int (t1 + (t0 - i7))), some (.int i9), none, none] [] p220 = _
  refine Eq.trans (q_iinc (v := 1) (lv2 := [some (.ref o), some (.int i1), some (.int i2), some (.int i3), some (.int i4), some (.int i5), some (.int x216), some (.int i7), some (.int (t1 + (t0 - i7))), some (.int (i9 + 1)), none, none]) dX13_markets_223 (mk0 rfl) rfl rfl rfl) ?_
  refine Eq.trans (q_goto (t := 100) dX13_markets_226 (mk0 rfl) rfl) ?_
  rfl
set_option maxRecDepth 20000 in
theorem bX13_count_0 {L : Nat} {xs : Nat → Int32} (d : Nat) (o : Nat) (i1 : Int32) (ph : PH) : RS (ZZ L xs) (d + 1) mX13_count 0 [some (.ref o), some (.int i1)] [] ph = if (i1 : Int32) = 0 then RS (ZZ L xs) (d + 1) mX13_count 72 [some (.ref o), some (.int i1)] [] ph else if (i1 : Int32) = 1 then RS (ZZ L xs) (d + 1) mX13_count 79 [some (.ref o), some (.int i1)] [] ph else if (i1 : Int32) = 2 then RS (ZZ L xs) (d + 1) mX13_count 86 [some (.ref o), some (.int i1)] [] ph else if (i1 : Int32) = 3 then RS (ZZ L xs) (d + 1) mX13_count 93 [some (.ref o), some (.int i1)] [] ph else if (i1 : Int32) = 4 then RS (ZZ L xs) (d + 1) mX13_count 100 [some (.ref o), some (.int i1)] [] ph else if (i1 : Int32) = 5 then RS (ZZ L xs) (d + 1) mX13_count 105 [some (.ref o), some (.int i1)] [] ph else if (i1 : Int32) = 6 then RS (ZZ L xs) (d + 1) mX13_count 113 [some (.ref o), some (.int i1)] [] ph else if (i1 : Int32) = 7 then RS (ZZ L xs) (d + 1) mX13_count 120 [some (.ref o), some (.int i1)] [] ph else if (i1 : Int32) = 8 then RS (ZZ L xs) (d + 1) mX13_count 127 [some (.ref o), some (.int i1)] [] ph else if (i1 : Int32) = 9 then RS (ZZ L xs) (d + 1) mX13_count 135 [some (.ref o), some (.int i1)] [] ph else if (i1 : Int32) = 10 then RS (ZZ L xs) (d + 1) mX13_count 140 [some (.ref o), some (.int i1)] [] ph else if (i1 : Int32) = 11 then RS (ZZ L xs) (d + 1) mX13_count 148 [some (.ref o), some (.int i1)] [] ph else if (i1 : Int32) = 12 then RS (ZZ L xs) (d + 1) mX13_count 153 [some (.ref o), some (.int i1)] [] ph else if (i1 : Int32) = 13 then RS (ZZ L xs) (d + 1) mX13_count 161 [some (.ref o), some (.int i1)] [] ph else RS (ZZ L xs) (d + 1) mX13_count 166 [some (.ref o), some (.int i1)] [] ph := by
  refine Eq.trans (q_iload_n dX13_count_0 (mk0 rfl) rfl) ?_
  refine Eq.trans (q_tableswitch dX13_count_1 (mk0 rfl)) ?_
  generalize (i1 : Int32) = y1
  by_cases hy0 : y1 = 0
  · rw [if_pos hy0, hy0]; rfl
  rw [if_neg hy0]
  by_cases hy1 : y1 = 1
  · rw [if_pos hy1, hy1]; rfl
  rw [if_neg hy1]
  by_cases hy2 : y1 = 2
  · rw [if_pos hy2, hy2]; rfl
  rw [if_neg hy2]
  by_cases hy3 : y1 = 3
  · rw [if_pos hy3, hy3]; rfl
  rw [if_neg hy3]
  by_cases hy4 : y1 = 4
  · rw [if_pos hy4, hy4]; rfl
  rw [if_neg hy4]
  by_cases hy5 : y1 = 5
  · rw [if_pos hy5, hy5]; rfl
  rw [if_neg hy5]
  by_cases hy6 : y1 = 6
  · rw [if_pos hy6, hy6]; rfl
  rw [if_neg hy6]
  by_cases hy7 : y1 = 7
  · rw [if_pos hy7, hy7]; rfl
  rw [if_neg hy7]
  by_cases hy8 : y1 = 8
  · rw [if_pos hy8, hy8]; rfl
  rw [if_neg hy8]
  by_cases hy9 : y1 = 9
  · rw [if_pos hy9, hy9]; rfl
  rw [if_neg hy9]
  by_cases hy10 : y1 = 10
  · rw [if_pos hy10, hy10]; rfl
  rw [if_neg hy10]
  by_cases hy11 : y1 = 11
  · rw [if_pos hy11, hy11]; rfl
  rw [if_neg hy11]
  by_cases hy12 : y1 = 12
  · rw [if_pos hy12, hy12]; rfl
  rw [if_neg hy12]
  by_cases hy13 : y1 = 13
  · rw [if_pos hy13, hy13]; rfl
  rw [if_neg hy13]
  have ny0 := i32_ne hy0 (n := 0) rfl
  have ny1 := i32_ne hy1 (n := 1) rfl
  have ny2 := i32_ne hy2 (n := 2) rfl
  have ny3 := i32_ne hy3 (n := 3) rfl
  have ny4 := i32_ne hy4 (n := 4) rfl
  have ny5 := i32_ne hy5 (n := 5) rfl
  have ny6 := i32_ne hy6 (n := 6) rfl
  have ny7 := i32_ne hy7 (n := 7) rfl
  have ny8 := i32_ne hy8 (n := 8) rfl
  have ny9 := i32_ne hy9 (n := 9) rfl
  have ny10 := i32_ne hy10 (n := 10) rfl
  have ny11 := i32_ne hy11 (n := 11) rfl
  have ny12 := i32_ne hy12 (n := 12) rfl
  have ny13 := i32_ne hy13 (n := 13) rfl
  rw [sw_out (t := 166) (by omega) rfl]
  rfl
set_option maxRecDepth 20000 in
theorem bX13_count_72 {L : Nat} {xs : Nat → Int32} (d : Nat) (o : Nat) (u1 : Option Value) (ph : PH) : RS (ZZ L xs) (d + 1) mX13_count 72 [some (.ref o), u1] [] ph = (fR ph (.ref o) 13 1).bind fun x73 => (eI ph x73 0).bind fun x77 => some (ph, some (.int x77)) := by
  refine Eq.trans (q_aload_n dX13_count_72 (show mK mX13_count 72 [some (.ref o), u1] = [some (.ref o), none] from rfl) rfl rfl) ?_
  refine Eq.trans (q_getR (ci := 13) (k := 1) dX13_count_73 (mk0 rfl) rfl) (bind_cg2 fun x73 hx73 => ?_)
  have hx73 := fR_isR hx73
  refine Eq.trans (q_iconst (v := 0) dX13_count_76 (mk0 rfl) rfl) ?_
  refine Eq.trans (q_iaload dX13_count_77 (mk0 rfl) (no_ext hx73)) (bind_cg fun x77 => ?_)
  exact q_ireturn dX13_count_78 (mk0 rfl) rfl
set_option maxRecDepth 20000 in
theorem bX13_count_79 {L : Nat} {xs : Nat → Int32} (d : Nat) (o : Nat) (u1 : Option Value) (ph : PH) : RS (ZZ L xs) (d + 1) mX13_count 79 [some (.ref o), u1] [] ph = (fR ph (.ref o) 13 1).bind fun x80 => (eI ph x80 1).bind fun x84 => some (ph, some (.int x84)) := by
  refine Eq.trans (q_aload_n dX13_count_79 (show mK mX13_count 79 [some (.ref o), u1] = [some (.ref o), none] from rfl) rfl rfl) ?_
  refine Eq.trans (q_getR (ci := 13) (k := 1) dX13_count_80 (mk0 rfl) rfl) (bind_cg2 fun x80 hx80 => ?_)
  have hx80 := fR_isR hx80
  refine Eq.trans (q_iconst (v := 1) dX13_count_83 (mk0 rfl) rfl) ?_
  refine Eq.trans (q_iaload dX13_count_84 (mk0 rfl) (no_ext hx80)) (bind_cg fun x84 => ?_)
  exact q_ireturn dX13_count_85 (mk0 rfl) rfl
set_option maxRecDepth 20000 in
theorem bX13_count_86 {L : Nat} {xs : Nat → Int32} (d : Nat) (o : Nat) (u1 : Option Value) (ph : PH) : RS (ZZ L xs) (d + 1) mX13_count 86 [some (.ref o), u1] [] ph = (fR ph (.ref o) 13 1).bind fun x87 => (eI ph x87 2).bind fun x91 => some (ph, some (.int x91)) := by
  refine Eq.trans (q_aload_n dX13_count_86 (show mK mX13_count 86 [some (.ref o), u1] = [some (.ref o), none] from rfl) rfl rfl) ?_
  refine Eq.trans (q_getR (ci := 13) (k := 1) dX13_count_87 (mk0 rfl) rfl) (bind_cg2 fun x87 hx87 => ?_)
  have hx87 := fR_isR hx87
  refine Eq.trans (q_iconst (v := 2) dX13_count_90 (mk0 rfl) rfl) ?_
  refine Eq.trans (q_iaload dX13_count_91 (mk0 rfl) (no_ext hx87)) (bind_cg fun x91 => ?_)
  exact q_ireturn dX13_count_92 (mk0 rfl) rfl
set_option maxRecDepth 20000 in
theorem bX13_count_93 {L : Nat} {xs : Nat → Int32} (d : Nat) (o : Nat) (u1 : Option Value) (ph : PH) : RS (ZZ L xs) (d + 1) mX13_count 93 [some (.ref o), u1] [] ph = (fR ph (.ref o) 13 1).bind fun x94 => (eI ph x94 3).bind fun x98 => some (ph, some (.int x98)) := by
  refine Eq.trans (q_aload_n dX13_count_93 (show mK mX13_count 93 [some (.ref o), u1] = [some (.ref o), none] from rfl) rfl rfl) ?_
  refine Eq.trans (q_getR (ci := 13) (k := 1) dX13_count_94 (mk0 rfl) rfl) (bind_cg2 fun x94 hx94 => ?_)
  have hx94 := fR_isR hx94
  refine Eq.trans (q_iconst (v := 3) dX13_count_97 (mk0 rfl) rfl) ?_
  refine Eq.trans (q_iaload dX13_count_98 (mk0 rfl) (no_ext hx94)) (bind_cg fun x98 => ?_)
  exact q_ireturn dX13_count_99 (mk0 rfl) rfl
set_option maxRecDepth 20000 in
theorem bX13_count_100 {L : Nat} {xs : Nat → Int32} (d : Nat) (o : Nat) (u1 : Option Value) (ph : PH) : RS (ZZ L xs) (d + 1) mX13_count 100 [some (.ref o), u1] [] ph = (fI ph (.ref o) 13 32).bind fun x101 => some (ph, some (.int x101)) := by
  refine Eq.trans (q_aload_n dX13_count_100 (show mK mX13_count 100 [some (.ref o), u1] = [some (.ref o), none] from rfl) rfl rfl) ?_
  refine Eq.trans (q_getI (ci := 13) (k := 32) dX13_count_101 (mk0 rfl) rfl) (bind_cg fun x101 => ?_)
  exact q_ireturn dX13_count_104 (mk0 rfl) rfl
set_option maxRecDepth 20000 in
theorem bX13_count_105 {L : Nat} {xs : Nat → Int32} (d : Nat) (o : Nat) (u1 : Option Value) (ph : PH) : RS (ZZ L xs) (d + 1) mX13_count 105 [some (.ref o), u1] [] ph = (fR ph (.ref o) 13 1).bind fun x106 => (eI ph x106 9).bind fun x111 => some (ph, some (.int x111)) := by
  refine Eq.trans (q_aload_n dX13_count_105 (show mK mX13_count 105 [some (.ref o), u1] = [some (.ref o), none] from rfl) rfl rfl) ?_
  refine Eq.trans (q_getR (ci := 13) (k := 1) dX13_count_106 (mk0 rfl) rfl) (bind_cg2 fun x106 hx106 => ?_)
  have hx106 := fR_isR hx106
  refine Eq.trans (q_bipush (v := 9) dX13_count_109 (mk0 rfl) rfl) ?_
  refine Eq.trans (q_iaload dX13_count_111 (mk0 rfl) (no_ext hx106)) (bind_cg fun x111 => ?_)
  exact q_ireturn dX13_count_112 (mk0 rfl) rfl
set_option maxRecDepth 20000 in
theorem bX13_count_113 {L : Nat} {xs : Nat → Int32} (d : Nat) (o : Nat) (u1 : Option Value) (ph : PH) : RS (ZZ L xs) (d + 1) mX13_count 113 [some (.ref o), u1] [] ph = (fR ph (.ref o) 13 1).bind fun x114 => (eI ph x114 4).bind fun x118 => some (ph, some (.int x118)) := by
  refine Eq.trans (q_aload_n dX13_count_113 (show mK mX13_count 113 [some (.ref o), u1] = [some (.ref o), none] from rfl) rfl rfl) ?_
  refine Eq.trans (q_getR (ci := 13) (k := 1) dX13_count_114 (mk0 rfl) rfl) (bind_cg2 fun x114 hx114 => ?_)
  have hx114 := fR_isR hx114
  refine Eq.trans (q_iconst (v := 4) dX13_count_117 (mk0 rfl) rfl) ?_
  refine Eq.trans (q_iaload dX13_count_118 (mk0 rfl) (no_ext hx114)) (bind_cg fun x118 => ?_)
  exact q_ireturn dX13_count_119 (mk0 rfl) rfl
set_option maxRecDepth 20000 in
theorem bX13_count_120 {L : Nat} {xs : Nat → Int32} (d : Nat) (o : Nat) (u1 : Option Value) (ph : PH) : RS (ZZ L xs) (d + 1) mX13_count 120 [some (.ref o), u1] [] ph = (fR ph (.ref o) 13 1).bind fun x121 => (eI ph x121 5).bind fun x125 => some (ph, some (.int x125)) := by
  refine Eq.trans (q_aload_n dX13_count_120 (show mK mX13_count 120 [some (.ref o), u1] = [some (.ref o), none] from rfl) rfl rfl) ?_
  refine Eq.trans (q_getR (ci := 13) (k := 1) dX13_count_121 (mk0 rfl) rfl) (bind_cg2 fun x121 hx121 => ?_)
  have hx121 := fR_isR hx121
  refine Eq.trans (q_iconst (v := 5) dX13_count_124 (mk0 rfl) rfl) ?_
  refine Eq.trans (q_iaload dX13_count_125 (mk0 rfl) (no_ext hx121)) (bind_cg fun x125 => ?_)
  exact q_ireturn dX13_count_126 (mk0 rfl) rfl
set_option maxRecDepth 20000 in
theorem bX13_count_127 {L : Nat} {xs : Nat → Int32} (d : Nat) (o : Nat) (u1 : Option Value) (ph : PH) : RS (ZZ L xs) (d + 1) mX13_count 127 [some (.ref o), u1] [] ph = (fR ph (.ref o) 13 1).bind fun x128 => (eI ph x128 6).bind fun x133 => some (ph, some (.int x133)) := by
  refine Eq.trans (q_aload_n dX13_count_127 (show mK mX13_count 127 [some (.ref o), u1] = [some (.ref o), none] from rfl) rfl rfl) ?_
  refine Eq.trans (q_getR (ci := 13) (k := 1) dX13_count_128 (mk0 rfl) rfl) (bind_cg2 fun x128 hx128 => ?_)
  have hx128 := fR_isR hx128
  refine Eq.trans (q_bipush (v := 6) dX13_count_131 (mk0 rfl) rfl) ?_
  refine Eq.trans (q_iaload dX13_count_133 (mk0 rfl) (no_ext hx128)) (bind_cg fun x133 => ?_)
  exact q_ireturn dX13_count_134 (mk0 rfl) rfl
set_option maxRecDepth 20000 in
theorem bX13_count_135 {L : Nat} {xs : Nat → Int32} (d : Nat) (o : Nat) (u1 : Option Value) (ph : PH) : RS (ZZ L xs) (d + 1) mX13_count 135 [some (.ref o), u1] [] ph = (iO ph (.ref o) 13).bind fun b136 => (cI (ZZ L xs) d mX13_allAsked [.ref b136] ph).bind fun p136 => some (p136.1, some (.int p136.2)) := by
  refine Eq.trans (q_aload_n dX13_count_135 (show mK mX13_count 135 [some (.ref o), u1] = [some (.ref o), none] from rfl) rfl rfl) ?_
  refine Eq.trans (q_callV (as := []) dX13_count_136 (mk0 rfl) rfl rfl rfl (Nat.le_of_ble_eq_true rfl) (Nat.le_of_ble_eq_true rfl)) (bind_cg fun b136 => ?_)
  refine Eq.trans (cI_bind (Or.inl rfl)) (bind_cg fun p136 => ?_)
  show RS (ZZ L xs) (d + 1) mX13_count 139 [some (.ref o), none] [.int p136.2] p136.1 = _
  exact q_ireturn dX13_count_139 (mk0 rfl) rfl
set_option maxRecDepth 20000 in
theorem bX13_count_140 {L : Nat} {xs : Nat → Int32} (d : Nat) (o : Nat) (u1 : Option Value) (ph : PH) : RS (ZZ L xs) (d + 1) mX13_count 140 [some (.ref o), u1] [] ph = (fR ph (.ref o) 13 1).bind fun x141 => (eI ph x141 7).bind fun x146 => some (ph, some (.int x146)) := by
  refine Eq.trans (q_aload_n dX13_count_140 (show mK mX13_count 140 [some (.ref o), u1] = [some (.ref o), none] from rfl) rfl rfl) ?_
  refine Eq.trans (q_getR (ci := 13) (k := 1) dX13_count_141 (mk0 rfl) rfl) (bind_cg2 fun x141 hx141 => ?_)
  have hx141 := fR_isR hx141
  refine Eq.trans (q_bipush (v := 7) dX13_count_144 (mk0 rfl) rfl) ?_
  refine Eq.trans (q_iaload dX13_count_146 (mk0 rfl) (no_ext hx141)) (bind_cg fun x146 => ?_)
  exact q_ireturn dX13_count_147 (mk0 rfl) rfl
set_option maxRecDepth 20000 in
theorem bX13_count_148 {L : Nat} {xs : Nat → Int32} (d : Nat) (o : Nat) (u1 : Option Value) (ph : PH) : RS (ZZ L xs) (d + 1) mX13_count 148 [some (.ref o), u1] [] ph = (fI ph (.ref o) 13 51).bind fun x149 => some (ph, some (.int x149)) := by
  refine Eq.trans (q_aload_n dX13_count_148 (show mK mX13_count 148 [some (.ref o), u1] = [some (.ref o), none] from rfl) rfl rfl) ?_
  refine Eq.trans (q_getI (ci := 13) (k := 51) dX13_count_149 (mk0 rfl) rfl) (bind_cg fun x149 => ?_)
  exact q_ireturn dX13_count_152 (mk0 rfl) rfl
set_option maxRecDepth 20000 in
theorem bX13_count_153 {L : Nat} {xs : Nat → Int32} (d : Nat) (o : Nat) (u1 : Option Value) (ph : PH) : RS (ZZ L xs) (d + 1) mX13_count 153 [some (.ref o), u1] [] ph = (fR ph (.ref o) 13 1).bind fun x154 => (eI ph x154 8).bind fun x159 => some (ph, some (.int x159)) := by
  refine Eq.trans (q_aload_n dX13_count_153 (show mK mX13_count 153 [some (.ref o), u1] = [some (.ref o), none] from rfl) rfl rfl) ?_
  refine Eq.trans (q_getR (ci := 13) (k := 1) dX13_count_154 (mk0 rfl) rfl) (bind_cg2 fun x154 hx154 => ?_)
  have hx154 := fR_isR hx154
  refine Eq.trans (q_bipush (v := 8) dX13_count_157 (mk0 rfl) rfl) ?_
  refine Eq.trans (q_iaload dX13_count_159 (mk0 rfl) (no_ext hx154)) (bind_cg fun x159 => ?_)
  exact q_ireturn dX13_count_160 (mk0 rfl) rfl
set_option maxRecDepth 20000 in
theorem bX13_count_161 {L : Nat} {xs : Nat → Int32} (d : Nat) (o : Nat) (u1 : Option Value) (ph : PH) : RS (ZZ L xs) (d + 1) mX13_count 161 [some (.ref o), u1] [] ph = (fI ph (.ref o) 13 28).bind fun x162 => some (ph, some (.int x162)) := by
  refine Eq.trans (q_aload_n dX13_count_161 (show mK mX13_count 161 [some (.ref o), u1] = [some (.ref o), none] from rfl) rfl rfl) ?_
  refine Eq.trans (q_getI (ci := 13) (k := 28) dX13_count_162 (mk0 rfl) rfl) (bind_cg fun x162 => ?_)
  exact q_ireturn dX13_count_165 (mk0 rfl) rfl
set_option maxRecDepth 20000 in
theorem bX13_count_166 {L : Nat} {xs : Nat → Int32} (d : Nat) (u0 : Option Value) (u1 : Option Value) (ph : PH) : RS (ZZ L xs) (d + 1) mX13_count 166 [u0, u1] [] ph = some (ph, some (.int ((-1)))) := by
  refine Eq.trans (q_iconst (v := (-1)) dX13_count_166 (show mK mX13_count 166 [u0, u1] = [none, none] from rfl) rfl) ?_
  exact q_ireturn dX13_count_167 (mk0 rfl) rfl
set_option maxRecDepth 20000 in
theorem bX13_carryRow_0 {L : Nat} {xs : Nat → Int32} (d : Nat) (o : Nat) (v1 : Value) (hv1 : isR v1 = true) (ph : PH) : RS (ZZ L xs) (d + 1) mX13_carryRow 0 [some (.ref o), some (v1), none] [] ph = RS (ZZ L xs) (d + 1) mX13_carryRow 2 [some (.ref o), some (v1), some (.int 0)] [] ph := by
  refine Eq.trans (q_iconst (v := 0) dX13_carryRow_0 (mk0 rfl) rfl) ?_
  refine Eq.trans (q_istore_n (lv2 := [some (.ref o), some (v1), some (.int 0)]) dX13_carryRow_1 (mk0 rfl) (Nat.le_of_ble_eq_true rfl) (by simp [s1, s2, s0, (cat_R hv1)] <;> rfl)) ?_
  rfl
set_option maxRecDepth 20000 in
theorem bX13_carryRow_2 {L : Nat} {xs : Nat → Int32} (d : Nat) (o : Nat) (v1 : Value) (i2 : Int32) (hv1 : isR v1 = true) (ph : PH) : RS (ZZ L xs) (d + 1) mX13_carryRow 2 [some (.ref o), some (v1), some (.int i2)] [] ph = (nA ph v1).bind fun x4 => if (x4 : Int32) ≤ i2 then some (ph, none) else (fZ ph (.ref o) 13 62).bind fun x9 => if (x9 : Int32) = 0 then (fR ph (.ref o) 13 59).bind fun x31 => (fI ph (.ref o) 13 61).bind fun x35 => (eI ph v1 i2).bind fun x40 => (wI ph x31 x35 x40).bind fun h41 => RS (ZZ L xs) (d + 1) mX13_carryRow 42 [some (.ref o), some (v1), some (.int i2)] [] h41 else (fR ph (.ref o) 13 59).bind fun x18 => (fI ph (.ref o) 13 61).bind fun x22 => (eI ph x18 x22).bind fun x25 => (wI ph v1 i2 x25).bind fun h26 => RS (ZZ L xs) (d + 1) mX13_carryRow 42 [some (.ref o), some (v1), some (.int i2)] [] h26 := by
  refine Eq.trans (q_iload_n dX13_carryRow_2 (mk0 rfl) rfl) ?_
  refine Eq.trans (q_aload_n dX13_carryRow_3 (mk0 rfl) rfl (isA_R hv1)) ?_
  refine Eq.trans (q_alen dX13_carryRow_4 (mk0 rfl) (no_ext hv1)) (bind_cg fun x4 => ?_)
  refine Eq.trans (q_icmp_ge (t := 58) dX13_carryRow_5 (mk0 rfl) rfl) (ite_cg ?_ ?_)
  · exact q_return dX13_carryRow_58 (mk0 rfl) rfl
  · refine Eq.trans (q_aload_n dX13_carryRow_8 (mk0 rfl) rfl rfl) ?_
    refine Eq.trans (q_getZ (ci := 13) (k := 62) dX13_carryRow_9 (mk0 rfl) rfl) (bind_cg fun x9 => ?_)
    refine Eq.trans (q_if_eq (t := 30) dX13_carryRow_12 (mk0 rfl) rfl) (ite_cg ?_ ?_)
    · refine Eq.trans (q_aload_n dX13_carryRow_30 (mk0 rfl) rfl rfl) ?_
      refine Eq.trans (q_getR (ci := 13) (k := 59) dX13_carryRow_31 (mk0 rfl) rfl) (bind_cg2 fun x31 hx31 => ?_)
      have hx31 := fR_isR hx31
      refine Eq.trans (q_aload_n dX13_carryRow_34 (mk0 rfl) rfl rfl) ?_
      refine Eq.trans (q_getI (ci := 13) (k := 61) dX13_carryRow_35 (mk0 rfl) rfl) (bind_cg fun x35 => ?_)
      refine Eq.trans (q_aload_n dX13_carryRow_38 (mk0 rfl) rfl (isA_R hv1)) ?_
      refine Eq.trans (q_iload_n dX13_carryRow_39 (mk0 rfl) rfl) ?_
      refine Eq.trans (q_iaload dX13_carryRow_40 (mk0 rfl) (no_ext hv1)) (bind_cg fun x40 => ?_)
      refine Eq.trans (q_iastore dX13_carryRow_41 (mk0 rfl)) (bind_cg fun h41 => ?_)
      rfl
    · refine Eq.trans (q_aload_n dX13_carryRow_15 (mk0 rfl) rfl (isA_R hv1)) ?_
      refine Eq.trans (q_iload_n dX13_carryRow_16 (mk0 rfl) rfl) ?_
      refine Eq.trans (q_aload_n dX13_carryRow_17 (mk0 rfl) rfl rfl) ?_
      refine Eq.trans (q_getR (ci := 13) (k := 59) dX13_carryRow_18 (mk0 rfl) rfl) (bind_cg2 fun x18 hx18 => ?_)
      have hx18 := fR_isR hx18
      refine Eq.trans (q_aload_n dX13_carryRow_21 (mk0 rfl) rfl rfl) ?_
      refine Eq.trans (q_getI (ci := 13) (k := 61) dX13_carryRow_22 (mk0 rfl) rfl) (bind_cg fun x22 => ?_)
      refine Eq.trans (q_iaload dX13_carryRow_25 (mk0 rfl) (no_ext hx18)) (bind_cg fun x25 => ?_)
      refine Eq.trans (q_iastore dX13_carryRow_26 (mk0 rfl)) (bind_cg fun h26 => ?_)
      refine Eq.trans (q_goto (t := 42) dX13_carryRow_27 (mk0 rfl) rfl) ?_
      rfl
set_option maxRecDepth 20000 in
theorem bX13_carryRow_42 {L : Nat} {xs : Nat → Int32} (d : Nat) (o : Nat) (v1 : Value) (i2 : Int32) (hv1 : isR v1 = true) (ph : PH) : RS (ZZ L xs) (d + 1) mX13_carryRow 42 [some (.ref o), some (v1), some (.int i2)] [] ph = (fI ph (.ref o) 13 61).bind fun x44 => (fP ph (.ref o) 13 61 (.int (x44 + 1))).bind fun h49 => RS (ZZ L xs) (d + 1) mX13_carryRow 2 [some (.ref o), some (v1), some (.int (i2 + 1))] [] h49 := by
  refine Eq.trans (q_aload_n dX13_carryRow_42 (mk0 rfl) rfl rfl) ?_
  refine Eq.trans (q_dup dX13_carryRow_43 (mk0 rfl) rfl) ?_
  refine Eq.trans (q_getI (ci := 13) (k := 61) dX13_carryRow_44 (mk0 rfl) rfl) (bind_cg fun x44 => ?_)
  refine Eq.trans (q_iconst (v := 1) dX13_carryRow_47 (mk0 rfl) rfl) ?_
  refine Eq.trans (q_iadd dX13_carryRow_48 (mk0 rfl)) ?_
  refine Eq.trans (q_put (ci := 13) (k := 61) (kd := 0) dX13_carryRow_49 (mk0 rfl) rfl rfl (fun h => by cases h)) (bind_cg fun h49 => ?_)
  refine Eq.trans (q_iinc (v := 1) (lv2 := [some (.ref o), some (v1), some (.int (i2 + 1))]) dX13_carryRow_52 (mk0 rfl) rfl rfl (by simp [s1, s2, s0, (cat_R hv1)] <;> rfl)) ?_
  refine Eq.trans (q_goto (t := 2) dX13_carryRow_55 (mk0 rfl) rfl) ?_
  rfl
set_option maxRecDepth 20000 in
theorem bX13_carriesAll_0 {L : Nat} {xs : Nat → Int32} (d : Nat) (o : Nat) (i1 : Int32) (i2 : Int32) (ph : PH) : RS (ZZ L xs) (d + 1) mX13_carriesAll 0 [some (.ref o), some (.int i1), some (.int i2)] [] ph = (fP ph (.ref o) 13 61 (.int (1900 * i1))).bind fun h6 => if (i2 : Int32) = 0 ∨ (i2 : Int32) = 1 then (fP h6 (.ref o) 13 62 (.int i2)).bind fun h11 => (fR h11 (.ref o) 13 1).bind fun x16 => (iO h11 (.ref o) 13).bind fun b19 => (cV (ZZ L xs) d mX13_carryRow [.ref b19, x16] h11).bind fun p19 => (fR p19 (.ref o) 13 2).bind fun x24 => (iO p19 (.ref o) 13).bind fun b27 => (cV (ZZ L xs) d mX13_carryRow [.ref b27, x24] p19).bind fun p27 => (fR p27 (.ref o) 13 3).bind fun x32 => (iO p27 (.ref o) 13).bind fun b35 => (cV (ZZ L xs) d mX13_carryRow [.ref b35, x32] p27).bind fun p35 => (fR p35 (.ref o) 13 4).bind fun x40 => (iO p35 (.ref o) 13).bind fun b43 => (cV (ZZ L xs) d mX13_carryRow [.ref b43, x40] p35).bind fun p43 => (fR p43 (.ref o) 13 5).bind fun x48 => (iO p43 (.ref o) 13).bind fun b51 => (cV (ZZ L xs) d mX13_carryRow [.ref b51, x48] p43).bind fun p51 => (fR p51 (.ref o) 13 6).bind fun x56 => (iO p51 (.ref o) 13).bind fun b59 => (cV (ZZ L xs) d mX13_carryRow [.ref b59, x56] p51).bind fun p59 => (fR p59 (.ref o) 13 7).bind fun x64 => (iO p59 (.ref o) 13).bind fun b67 => (cV (ZZ L xs) d mX13_carryRow [.ref b67, x64] p59).bind fun p67 => (fR p67 (.ref o) 13 8).bind fun x72 => (iO p67 (.ref o) 13).bind fun b75 => (cV (ZZ L xs) d mX13_carryRow [.ref b75, x72] p67).bind fun p75 => (fR p75 (.ref o) 13 9).bind fun x80 => (iO p75 (.ref o) 13).bind fun b83 => (cV (ZZ L xs) d mX13_carryRow [.ref b83, x80] p75).bind fun p83 => (fR p83 (.ref o) 13 10).bind fun x88 => (iO p83 (.ref o) 13).bind fun b91 => (cV (ZZ L xs) d mX13_carryRow [.ref b91, x88] p83).bind fun p91 => if ¬ (i1 : Int32) = 4 then (fR p91 (.ref o) 13 50).bind fun x101 => (fI p91 (.ref o) 13 51).bind fun x106 => (wI p91 x101 0 x106).bind fun h109 => (fR h109 (.ref o) 13 50).bind fun x112 => (iO h109 (.ref o) 13).bind fun b115 => (cV (ZZ L xs) d mX13_carryRow [.ref b115, x112] h109).bind fun p115 => (fR p115 (.ref o) 13 50).bind fun x120 => (eI p115 x120 0).bind fun x124 => (fP p115 (.ref o) 13 51 (.int x124)).bind fun h125 => (fR h125 (.ref o) 13 11).bind fun x130 => (iO h125 (.ref o) 13).bind fun b133 => (cV (ZZ L xs) d mX13_carryRow [.ref b133, x130] h125).bind fun p133 => (fR p133 (.ref o) 13 12).bind fun x138 => (iO p133 (.ref o) 13).bind fun b141 => (cV (ZZ L xs) d mX13_carryRow [.ref b141, x138] p133).bind fun p141 => (fR p141 (.ref o) 13 13).bind fun x146 => (iO p141 (.ref o) 13).bind fun b149 => (cV (ZZ L xs) d mX13_carryRow [.ref b149, x146] p141).bind fun p149 => (fR p149 (.ref o) 13 14).bind fun x154 => (iO p149 (.ref o) 13).bind fun b157 => (cV (ZZ L xs) d mX13_carryRow [.ref b157, x154] p149).bind fun p157 => (fR p157 (.ref o) 13 15).bind fun x162 => (iO p157 (.ref o) 13).bind fun b165 => (cV (ZZ L xs) d mX13_carryRow [.ref b165, x162] p157).bind fun p165 => (fR p165 (.ref o) 13 16).bind fun x170 => (iO p165 (.ref o) 13).bind fun b173 => (cV (ZZ L xs) d mX13_carryRow [.ref b173, x170] p165).bind fun p173 => (fR p173 (.ref o) 13 17).bind fun x178 => (iO p173 (.ref o) 13).bind fun b181 => (cV (ZZ L xs) d mX13_carryRow [.ref b181, x178] p173).bind fun p181 => (fR p181 (.ref o) 13 18).bind fun x186 => (iO p181 (.ref o) 13).bind fun b189 => (cV (ZZ L xs) d mX13_carryRow [.ref b189, x186] p181).bind fun p189 => (fR p189 (.ref o) 13 19).bind fun x194 => (iO p189 (.ref o) 13).bind fun b197 => (cV (ZZ L xs) d mX13_carryRow [.ref b197, x194] p189).bind fun p197 => (fR p197 (.ref o) 13 49).bind fun x202 => (iO p197 (.ref o) 13).bind fun b205 => (cV (ZZ L xs) d mX13_carryRow [.ref b205, x202] p197).bind fun p205 => some (p205, none) else some (p91, none) else none := by
  refine Eq.trans (q_aload_n dX13_carriesAll_0 (mk0 rfl) rfl rfl) ?_
  refine Eq.trans (q_sipush (v := 1900) dX13_carriesAll_1 (mk0 rfl) rfl) ?_
  refine Eq.trans (q_iload_n dX13_carriesAll_4 (mk0 rfl) rfl) ?_
  refine Eq.trans (q_imul dX13_carriesAll_5 (mk0 rfl)) ?_
  refine Eq.trans (q_put (ci := 13) (k := 61) (kd := 0) dX13_carriesAll_6 (mk0 rfl) rfl rfl (fun h => by cases h)) (bind_cg fun h6 => ?_)
  refine Eq.trans (q_aload_n dX13_carriesAll_9 (mk0 rfl) rfl rfl) ?_
  refine Eq.trans (q_iload_n dX13_carriesAll_10 (mk0 rfl) rfl) ?_
  refine Eq.trans (q_putZ (ci := 13) (k := 62) dX13_carriesAll_11 (mk0 rfl) rfl) (ite_cg (bind_cg fun h11 => ?_) rfl)
  refine Eq.trans (q_aload_n dX13_carriesAll_14 (mk0 rfl) rfl rfl) ?_
  refine Eq.trans (q_aload_n dX13_carriesAll_15 (mk0 rfl) rfl rfl) ?_
  refine Eq.trans (q_getR (ci := 13) (k := 1) dX13_carriesAll_16 (mk0 rfl) rfl) (bind_cg2 fun x16 hx16 => ?_)
  have hx16 := fR_isR hx16
  refine Eq.trans (q_callV (as := [x16]) dX13_carriesAll_19 (mk0 rfl) rfl rfl rfl (Nat.le_of_ble_eq_true rfl) (by simp [eA, ct_i, ct_l, ct_r, ct_n, ct_x, mX13_carryRow, (cat_R hx16)])) (bind_cg fun b19 => ?_)
  refine Eq.trans (cV_bind rfl) (bind_cg fun p19 => ?_)
  show RS (ZZ L xs) (d + 1) mX13_carriesAll 22 [some (.ref o), some (.int i1), some (.int i2)] [] p19 = _
  refine Eq.trans (q_aload_n dX13_carriesAll_22 (mk0 rfl) rfl rfl) ?_
  refine Eq.trans (q_aload_n dX13_carriesAll_23 (mk0 rfl) rfl rfl) ?_
  refine Eq.trans (q_getR (ci := 13) (k := 2) dX13_carriesAll_24 (mk0 rfl) rfl) (bind_cg2 fun x24 hx24 => ?_)
  have hx24 := fR_isR hx24
  refine Eq.trans (q_callV (as := [x24]) dX13_carriesAll_27 (mk0 rfl) rfl rfl rfl (Nat.le_of_ble_eq_true rfl) (by simp [eA, ct_i, ct_l, ct_r, ct_n, ct_x, mX13_carryRow, (cat_R hx24)])) (bind_cg fun b27 => ?_)
  refine Eq.trans (cV_bind rfl) (bind_cg fun p27 => ?_)
  show RS (ZZ L xs) (d + 1) mX13_carriesAll 30 [some (.ref o), some (.int i1), some (.int i2)] [] p27 = _
  refine Eq.trans (q_aload_n dX13_carriesAll_30 (mk0 rfl) rfl rfl) ?_
  refine Eq.trans (q_aload_n dX13_carriesAll_31 (mk0 rfl) rfl rfl) ?_
  refine Eq.trans (q_getR (ci := 13) (k := 3) dX13_carriesAll_32 (mk0 rfl) rfl) (bind_cg2 fun x32 hx32 => ?_)
  have hx32 := fR_isR hx32
  refine Eq.trans (q_callV (as := [x32]) dX13_carriesAll_35 (mk0 rfl) rfl rfl rfl (Nat.le_of_ble_eq_true rfl) (by simp [eA, ct_i, ct_l, ct_r, ct_n, ct_x, mX13_carryRow, (cat_R hx32)])) (bind_cg fun b35 => ?_)
  refine Eq.trans (cV_bind rfl) (bind_cg fun p35 => ?_)
  show RS (ZZ L xs) (d + 1) mX13_carriesAll 38 [some (.ref o), some (.int i1), some (.int i2)] [] p35 = _
  refine Eq.trans (q_aload_n dX13_carriesAll_38 (mk0 rfl) rfl rfl) ?_
  refine Eq.trans (q_aload_n dX13_carriesAll_39 (mk0 rfl) rfl rfl) ?_
  refine Eq.trans (q_getR (ci := 13) (k := 4) dX13_carriesAll_40 (mk0 rfl) rfl) (bind_cg2 fun x40 hx40 => ?_)
  have hx40 := fR_isR hx40
  refine Eq.trans (q_callV (as := [x40]) dX13_carriesAll_43 (mk0 rfl) rfl rfl rfl (Nat.le_of_ble_eq_true rfl) (by simp [eA, ct_i, ct_l, ct_r, ct_n, ct_x, mX13_carryRow, (cat_R hx40)])) (bind_cg fun b43 => ?_)
  refine Eq.trans (cV_bind rfl) (bind_cg fun p43 => ?_)
  show RS (ZZ L xs) (d + 1) mX13_carriesAll 46 [some (.ref o), some (.int i1), some (.int i2)] [] p43 = _
  refine Eq.trans (q_aload_n dX13_carriesAll_46 (mk0 rfl) rfl rfl) ?_
  refine Eq.trans (q_aload_n dX13_carriesAll_47 (mk0 rfl) rfl rfl) ?_
  refine Eq.trans (q_getR (ci := 13) (k := 5) dX13_carriesAll_48 (mk0 rfl) rfl) (bind_cg2 fun x48 hx48 => ?_)
  have hx48 := fR_isR hx48
  refine Eq.trans (q_callV (as := [x48]) dX13_carriesAll_51 (mk0 rfl) rfl rfl rfl (Nat.le_of_ble_eq_true rfl) (by simp [eA, ct_i, ct_l, ct_r, ct_n, ct_x, mX13_carryRow, (cat_R hx48)])) (bind_cg fun b51 => ?_)
  refine Eq.trans (cV_bind rfl) (bind_cg fun p51 => ?_)
  show RS (ZZ L xs) (d + 1) mX13_carriesAll 54 [some (.ref o), some (.int i1), some (.int i2)] [] p51 = _
  refine Eq.trans (q_aload_n dX13_carriesAll_54 (mk0 rfl) rfl rfl) ?_
  refine Eq.trans (q_aload_n dX13_carriesAll_55 (mk0 rfl) rfl rfl) ?_
  refine Eq.trans (q_getR (ci := 13) (k := 6) dX13_carriesAll_56 (mk0 rfl) rfl) (bind_cg2 fun x56 hx56 => ?_)
  have hx56 := fR_isR hx56
  refine Eq.trans (q_callV (as := [x56]) dX13_carriesAll_59 (mk0 rfl) rfl rfl rfl (Nat.le_of_ble_eq_true rfl) (by simp [eA, ct_i, ct_l, ct_r, ct_n, ct_x, mX13_carryRow, (cat_R hx56)])) (bind_cg fun b59 => ?_)
  refine Eq.trans (cV_bind rfl) (bind_cg fun p59 => ?_)
  show RS (ZZ L xs) (d + 1) mX13_carriesAll 62 [some (.ref o), some (.int i1), some (.int i2)] [] p59 = _
  refine Eq.trans (q_aload_n dX13_carriesAll_62 (mk0 rfl) rfl rfl) ?_
  refine Eq.trans (q_aload_n dX13_carriesAll_63 (mk0 rfl) rfl rfl) ?_
  refine Eq.trans (q_getR (ci := 13) (k := 7) dX13_carriesAll_64 (mk0 rfl) rfl) (bind_cg2 fun x64 hx64 => ?_)
  have hx64 := fR_isR hx64
  refine Eq.trans (q_callV (as := [x64]) dX13_carriesAll_67 (mk0 rfl) rfl rfl rfl (Nat.le_of_ble_eq_true rfl) (by simp [eA, ct_i, ct_l, ct_r, ct_n, ct_x, mX13_carryRow, (cat_R hx64)])) (bind_cg fun b67 => ?_)
  refine Eq.trans (cV_bind rfl) (bind_cg fun p67 => ?_)
  show RS (ZZ L xs) (d + 1) mX13_carriesAll 70 [some (.ref o), some (.int i1), some (.int i2)] [] p67 = _
  refine Eq.trans (q_aload_n dX13_carriesAll_70 (mk0 rfl) rfl rfl) ?_
  refine Eq.trans (q_aload_n dX13_carriesAll_71 (mk0 rfl) rfl rfl) ?_
  refine Eq.trans (q_getR (ci := 13) (k := 8) dX13_carriesAll_72 (mk0 rfl) rfl) (bind_cg2 fun x72 hx72 => ?_)
  have hx72 := fR_isR hx72
  refine Eq.trans (q_callV (as := [x72]) dX13_carriesAll_75 (mk0 rfl) rfl rfl rfl (Nat.le_of_ble_eq_true rfl) (by simp [eA, ct_i, ct_l, ct_r, ct_n, ct_x, mX13_carryRow, (cat_R hx72)])) (bind_cg fun b75 => ?_)
  refine Eq.trans (cV_bind rfl) (bind_cg fun p75 => ?_)
  show RS (ZZ L xs) (d + 1) mX13_carriesAll 78 [some (.ref o), some (.int i1), some (.int i2)] [] p75 = _
  refine Eq.trans (q_aload_n dX13_carriesAll_78 (mk0 rfl) rfl rfl) ?_
  refine Eq.trans (q_aload_n dX13_carriesAll_79 (mk0 rfl) rfl rfl) ?_
  refine Eq.trans (q_getR (ci := 13) (k := 9) dX13_carriesAll_80 (mk0 rfl) rfl) (bind_cg2 fun x80 hx80 => ?_)
  have hx80 := fR_isR hx80
  refine Eq.trans (q_callV (as := [x80]) dX13_carriesAll_83 (mk0 rfl) rfl rfl rfl (Nat.le_of_ble_eq_true rfl) (by simp [eA, ct_i, ct_l, ct_r, ct_n, ct_x, mX13_carryRow, (cat_R hx80)])) (bind_cg fun b83 => ?_)
  refine Eq.trans (cV_bind rfl) (bind_cg fun p83 => ?_)
  show RS (ZZ L xs) (d + 1) mX13_carriesAll 86 [some (.ref o), some (.int i1), some (.int i2)] [] p83 = _
  refine Eq.trans (q_aload_n dX13_carriesAll_86 (mk0 rfl) rfl rfl) ?_
  refine Eq.trans (q_aload_n dX13_carriesAll_87 (mk0 rfl) rfl rfl) ?_
  refine Eq.trans (q_getR (ci := 13) (k := 10) dX13_carriesAll_88 (mk0 rfl) rfl) (bind_cg2 fun x88 hx88 => ?_)
  have hx88 := fR_isR hx88
  refine Eq.trans (q_callV (as := [x88]) dX13_carriesAll_91 (mk0 rfl) rfl rfl rfl (Nat.le_of_ble_eq_true rfl) (by simp [eA, ct_i, ct_l, ct_r, ct_n, ct_x, mX13_carryRow, (cat_R hx88)])) (bind_cg fun b91 => ?_)
  refine Eq.trans (cV_bind rfl) (bind_cg fun p91 => ?_)
  show RS (ZZ L xs) (d + 1) mX13_carriesAll 94 [some (.ref o), some (.int i1), some (.int i2)] [] p91 = _
  refine Eq.trans (q_iload_n dX13_carriesAll_94 (mk0 rfl) rfl) ?_
  refine Eq.trans (q_iconst (v := 4) dX13_carriesAll_95 (mk0 rfl) rfl) ?_
  refine Eq.trans (q_icmp_ne (t := 100) dX13_carriesAll_96 (mk0 rfl) rfl) (ite_cg ?_ ?_)
  · refine Eq.trans (q_aload_n dX13_carriesAll_100 (mk0 rfl) rfl rfl) ?_
    refine Eq.trans (q_getR (ci := 13) (k := 50) dX13_carriesAll_101 (mk0 rfl) rfl) (bind_cg2 fun x101 hx101 => ?_)
    have hx101 := fR_isR hx101
    refine Eq.trans (q_iconst (v := 0) dX13_carriesAll_104 (mk0 rfl) rfl) ?_
    refine Eq.trans (q_aload_n dX13_carriesAll_105 (mk0 rfl) rfl rfl) ?_
    refine Eq.trans (q_getI (ci := 13) (k := 51) dX13_carriesAll_106 (mk0 rfl) rfl) (bind_cg fun x106 => ?_)
    refine Eq.trans (q_iastore dX13_carriesAll_109 (mk0 rfl)) (bind_cg fun h109 => ?_)
    refine Eq.trans (q_aload_n dX13_carriesAll_110 (mk0 rfl) rfl rfl) ?_
    refine Eq.trans (q_aload_n dX13_carriesAll_111 (mk0 rfl) rfl rfl) ?_
    refine Eq.trans (q_getR (ci := 13) (k := 50) dX13_carriesAll_112 (mk0 rfl) rfl) (bind_cg2 fun x112 hx112 => ?_)
    have hx112 := fR_isR hx112
    refine Eq.trans (q_callV (as := [x112]) dX13_carriesAll_115 (mk0 rfl) rfl rfl rfl (Nat.le_of_ble_eq_true rfl) (by simp [eA, ct_i, ct_l, ct_r, ct_n, ct_x, mX13_carryRow, (cat_R hx112)])) (bind_cg fun b115 => ?_)
    refine Eq.trans (cV_bind rfl) (bind_cg fun p115 => ?_)
    show RS (ZZ L xs) (d + 1) mX13_carriesAll 118 [some (.ref o), some (.int i1), some (.int i2)] [] p115 = _
    refine Eq.trans (q_aload_n dX13_carriesAll_118 (mk0 rfl) rfl rfl) ?_
    refine Eq.trans (q_aload_n dX13_carriesAll_119 (mk0 rfl) rfl rfl) ?_
    refine Eq.trans (q_getR (ci := 13) (k := 50) dX13_carriesAll_120 (mk0 rfl) rfl) (bind_cg2 fun x120 hx120 => ?_)
    have hx120 := fR_isR hx120
    refine Eq.trans (q_iconst (v := 0) dX13_carriesAll_123 (mk0 rfl) rfl) ?_
    refine Eq.trans (q_iaload dX13_carriesAll_124 (mk0 rfl) (no_ext hx120)) (bind_cg fun x124 => ?_)
    refine Eq.trans (q_put (ci := 13) (k := 51) (kd := 0) dX13_carriesAll_125 (mk0 rfl) rfl rfl (fun h => by cases h)) (bind_cg fun h125 => ?_)
    refine Eq.trans (q_aload_n dX13_carriesAll_128 (mk0 rfl) rfl rfl) ?_
    refine Eq.trans (q_aload_n dX13_carriesAll_129 (mk0 rfl) rfl rfl) ?_
    refine Eq.trans (q_getR (ci := 13) (k := 11) dX13_carriesAll_130 (mk0 rfl) rfl) (bind_cg2 fun x130 hx130 => ?_)
    have hx130 := fR_isR hx130
    refine Eq.trans (q_callV (as := [x130]) dX13_carriesAll_133 (mk0 rfl) rfl rfl rfl (Nat.le_of_ble_eq_true rfl) (by simp [eA, ct_i, ct_l, ct_r, ct_n, ct_x, mX13_carryRow, (cat_R hx130)])) (bind_cg fun b133 => ?_)
    refine Eq.trans (cV_bind rfl) (bind_cg fun p133 => ?_)
    show RS (ZZ L xs) (d + 1) mX13_carriesAll 136 [some (.ref o), some (.int i1), some (.int i2)] [] p133 = _
    refine Eq.trans (q_aload_n dX13_carriesAll_136 (mk0 rfl) rfl rfl) ?_
    refine Eq.trans (q_aload_n dX13_carriesAll_137 (mk0 rfl) rfl rfl) ?_
    refine Eq.trans (q_getR (ci := 13) (k := 12) dX13_carriesAll_138 (mk0 rfl) rfl) (bind_cg2 fun x138 hx138 => ?_)
    have hx138 := fR_isR hx138
    refine Eq.trans (q_callV (as := [x138]) dX13_carriesAll_141 (mk0 rfl) rfl rfl rfl (Nat.le_of_ble_eq_true rfl) (by simp [eA, ct_i, ct_l, ct_r, ct_n, ct_x, mX13_carryRow, (cat_R hx138)])) (bind_cg fun b141 => ?_)
    refine Eq.trans (cV_bind rfl) (bind_cg fun p141 => ?_)
    show RS (ZZ L xs) (d + 1) mX13_carriesAll 144 [some (.ref o), some (.int i1), some (.int i2)] [] p141 = _
    refine Eq.trans (q_aload_n dX13_carriesAll_144 (mk0 rfl) rfl rfl) ?_
    refine Eq.trans (q_aload_n dX13_carriesAll_145 (mk0 rfl) rfl rfl) ?_
    refine Eq.trans (q_getR (ci := 13) (k := 13) dX13_carriesAll_146 (mk0 rfl) rfl) (bind_cg2 fun x146 hx146 => ?_)
    have hx146 := fR_isR hx146
    refine Eq.trans (q_callV (as := [x146]) dX13_carriesAll_149 (mk0 rfl) rfl rfl rfl (Nat.le_of_ble_eq_true rfl) (by simp [eA, ct_i, ct_l, ct_r, ct_n, ct_x, mX13_carryRow, (cat_R hx146)])) (bind_cg fun b149 => ?_)
    refine Eq.trans (cV_bind rfl) (bind_cg fun p149 => ?_)
    show RS (ZZ L xs) (d + 1) mX13_carriesAll 152 [some (.ref o), some (.int i1), some (.int i2)] [] p149 = _
    refine Eq.trans (q_aload_n dX13_carriesAll_152 (mk0 rfl) rfl rfl) ?_
    refine Eq.trans (q_aload_n dX13_carriesAll_153 (mk0 rfl) rfl rfl) ?_
    refine Eq.trans (q_getR (ci := 13) (k := 14) dX13_carriesAll_154 (mk0 rfl) rfl) (bind_cg2 fun x154 hx154 => ?_)
    have hx154 := fR_isR hx154
    refine Eq.trans (q_callV (as := [x154]) dX13_carriesAll_157 (mk0 rfl) rfl rfl rfl (Nat.le_of_ble_eq_true rfl) (by simp [eA, ct_i, ct_l, ct_r, ct_n, ct_x, mX13_carryRow, (cat_R hx154)])) (bind_cg fun b157 => ?_)
    refine Eq.trans (cV_bind rfl) (bind_cg fun p157 => ?_)
    show RS (ZZ L xs) (d + 1) mX13_carriesAll 160 [some (.ref o), some (.int i1), some (.int i2)] [] p157 = _
    refine Eq.trans (q_aload_n dX13_carriesAll_160 (mk0 rfl) rfl rfl) ?_
    refine Eq.trans (q_aload_n dX13_carriesAll_161 (mk0 rfl) rfl rfl) ?_
    refine Eq.trans (q_getR (ci := 13) (k := 15) dX13_carriesAll_162 (mk0 rfl) rfl) (bind_cg2 fun x162 hx162 => ?_)
    have hx162 := fR_isR hx162
    refine Eq.trans (q_callV (as := [x162]) dX13_carriesAll_165 (mk0 rfl) rfl rfl rfl (Nat.le_of_ble_eq_true rfl) (by simp [eA, ct_i, ct_l, ct_r, ct_n, ct_x, mX13_carryRow, (cat_R hx162)])) (bind_cg fun b165 => ?_)
    refine Eq.trans (cV_bind rfl) (bind_cg fun p165 => ?_)
    show RS (ZZ L xs) (d + 1) mX13_carriesAll 168 [some (.ref o), some (.int i1), some (.int i2)] [] p165 = _
    refine Eq.trans (q_aload_n dX13_carriesAll_168 (mk0 rfl) rfl rfl) ?_
    refine Eq.trans (q_aload_n dX13_carriesAll_169 (mk0 rfl) rfl rfl) ?_
    refine Eq.trans (q_getR (ci := 13) (k := 16) dX13_carriesAll_170 (mk0 rfl) rfl) (bind_cg2 fun x170 hx170 => ?_)
    have hx170 := fR_isR hx170
    refine Eq.trans (q_callV (as := [x170]) dX13_carriesAll_173 (mk0 rfl) rfl rfl rfl (Nat.le_of_ble_eq_true rfl) (by simp [eA, ct_i, ct_l, ct_r, ct_n, ct_x, mX13_carryRow, (cat_R hx170)])) (bind_cg fun b173 => ?_)
    refine Eq.trans (cV_bind rfl) (bind_cg fun p173 => ?_)
    show RS (ZZ L xs) (d + 1) mX13_carriesAll 176 [some (.ref o), some (.int i1), some (.int i2)] [] p173 = _
    refine Eq.trans (q_aload_n dX13_carriesAll_176 (mk0 rfl) rfl rfl) ?_
    refine Eq.trans (q_aload_n dX13_carriesAll_177 (mk0 rfl) rfl rfl) ?_
    refine Eq.trans (q_getR (ci := 13) (k := 17) dX13_carriesAll_178 (mk0 rfl) rfl) (bind_cg2 fun x178 hx178 => ?_)
    have hx178 := fR_isR hx178
    refine Eq.trans (q_callV (as := [x178]) dX13_carriesAll_181 (mk0 rfl) rfl rfl rfl (Nat.le_of_ble_eq_true rfl) (by simp [eA, ct_i, ct_l, ct_r, ct_n, ct_x, mX13_carryRow, (cat_R hx178)])) (bind_cg fun b181 => ?_)
    refine Eq.trans (cV_bind rfl) (bind_cg fun p181 => ?_)
    show RS (ZZ L xs) (d + 1) mX13_carriesAll 184 [some (.ref o), some (.int i1), some (.int i2)] [] p181 = _
    refine Eq.trans (q_aload_n dX13_carriesAll_184 (mk0 rfl) rfl rfl) ?_
    refine Eq.trans (q_aload_n dX13_carriesAll_185 (mk0 rfl) rfl rfl) ?_
    refine Eq.trans (q_getR (ci := 13) (k := 18) dX13_carriesAll_186 (mk0 rfl) rfl) (bind_cg2 fun x186 hx186 => ?_)
    have hx186 := fR_isR hx186
    refine Eq.trans (q_callV (as := [x186]) dX13_carriesAll_189 (mk0 rfl) rfl rfl rfl (Nat.le_of_ble_eq_true rfl) (by simp [eA, ct_i, ct_l, ct_r, ct_n, ct_x, mX13_carryRow, (cat_R hx186)])) (bind_cg fun b189 => ?_)
    refine Eq.trans (cV_bind rfl) (bind_cg fun p189 => ?_)
    show RS (ZZ L xs) (d + 1) mX13_carriesAll 192 [some (.ref o), some (.int i1), some (.int i2)] [] p189 = _
    refine Eq.trans (q_aload_n dX13_carriesAll_192 (mk0 rfl) rfl rfl) ?_
    refine Eq.trans (q_aload_n dX13_carriesAll_193 (mk0 rfl) rfl rfl) ?_
    refine Eq.trans (q_getR (ci := 13) (k := 19) dX13_carriesAll_194 (mk0 rfl) rfl) (bind_cg2 fun x194 hx194 => ?_)
    have hx194 := fR_isR hx194
    refine Eq.trans (q_callV (as := [x194]) dX13_carriesAll_197 (mk0 rfl) rfl rfl rfl (Nat.le_of_ble_eq_true rfl) (by simp [eA, ct_i, ct_l, ct_r, ct_n, ct_x, mX13_carryRow, (cat_R hx194)])) (bind_cg fun b197 => ?_)
    refine Eq.trans (cV_bind rfl) (bind_cg fun p197 => ?_)
    show RS (ZZ L xs) (d + 1) mX13_carriesAll 200 [some (.ref o), some (.int i1), some (.int i2)] [] p197 = _
    refine Eq.trans (q_aload_n dX13_carriesAll_200 (mk0 rfl) rfl rfl) ?_
    refine Eq.trans (q_aload_n dX13_carriesAll_201 (mk0 rfl) rfl rfl) ?_
    refine Eq.trans (q_getR (ci := 13) (k := 49) dX13_carriesAll_202 (mk0 rfl) rfl) (bind_cg2 fun x202 hx202 => ?_)
    have hx202 := fR_isR hx202
    refine Eq.trans (q_callV (as := [x202]) dX13_carriesAll_205 (mk0 rfl) rfl rfl rfl (Nat.le_of_ble_eq_true rfl) (by simp [eA, ct_i, ct_l, ct_r, ct_n, ct_x, mX13_carryRow, (cat_R hx202)])) (bind_cg fun b205 => ?_)
    refine Eq.trans (cV_bind rfl) (bind_cg fun p205 => ?_)
    show RS (ZZ L xs) (d + 1) mX13_carriesAll 208 [some (.ref o), some (.int i1), some (.int i2)] [] p205 = _
    exact q_return dX13_carriesAll_208 (mk0 rfl) rfl
  · exact q_return dX13_carriesAll_99 (mk0 rfl) rfl
set_option maxRecDepth 20000 in
theorem bX13_image_0 {L : Nat} {xs : Nat → Int32} (d : Nat) (o : Nat) (i1 : Int32) (ph : PH) : RS (ZZ L xs) (d + 1) mX13_image 0 [some (.ref o), some (.int i1)] [] ph = (cI (ZZ L xs) d mX13_in [.long ((i1 : Int32).toInt64), .long 0, .long 3] ph).bind fun p6 => if ¬ (p6.2 : Int32) = 0 then (fR p6.1 (.ref o) 13 60).bind fun x15 => (wB p6.1 x15 i1 1).bind fun h20 => (iO h20 (.ref o) 13).bind fun b24 => (cV (ZZ L xs) d mX13_carriesAll [.ref b24, .int i1, .int 0] h20).bind fun p24 => (fR p24 (.ref o) 13 1).bind fun x28 => (eI p24 x28 4).bind fun x32 => some (p24, some (.int x32)) else some (p6.1, some (.int ((-1)))) := by
  refine Eq.trans (q_iload_n dX13_image_0 (mk0 rfl) rfl) ?_
  refine Eq.trans (q_i2l dX13_image_1 (mk0 rfl)) ?_
  refine Eq.trans (q_lconst (v := 0) dX13_image_2 (mk0 rfl) rfl) ?_
  refine Eq.trans (q_ldc2 (v := 3) dX13_image_3 (mk0 rfl) rfl) ?_
  refine Eq.trans (q_callS (as := [.long ((i1 : Int32).toInt64), .long 0, .long 3]) dX13_image_6 (mk0 rfl) rfl (Or.inl rfl) rfl rfl (Nat.le_of_ble_eq_true rfl) (Nat.le_of_ble_eq_true rfl)) ?_
  refine Eq.trans (cI_bind (Or.inr rfl)) (bind_cg fun p6 => ?_)
  show RS (ZZ L xs) (d + 1) mX13_image 9 [some (.ref o), some (.int i1)] [.int p6.2] p6.1 = _
  refine Eq.trans (q_if_ne (t := 14) dX13_image_9 (mk0 rfl) rfl) (ite_cg ?_ ?_)
  · refine Eq.trans (q_aload_n dX13_image_14 (mk0 rfl) rfl rfl) ?_
    refine Eq.trans (q_getR (ci := 13) (k := 60) dX13_image_15 (mk0 rfl) rfl) (bind_cg2 fun x15 hx15 => ?_)
    have hx15 := fR_isR hx15
    refine Eq.trans (q_iload_n dX13_image_18 (mk0 rfl) rfl) ?_
    refine Eq.trans (q_iconst (v := 1) dX13_image_19 (mk0 rfl) rfl) ?_
    refine Eq.trans (q_bastore dX13_image_20 (mk0 rfl)) (bind_cg fun h20 => ?_)
    refine Eq.trans (q_aload_n dX13_image_21 (mk0 rfl) rfl rfl) ?_
    refine Eq.trans (q_iload_n dX13_image_22 (mk0 rfl) rfl) ?_
    refine Eq.trans (q_iconst (v := 0) dX13_image_23 (mk0 rfl) rfl) ?_
    refine Eq.trans (q_callV (as := [.int i1, .int 0]) dX13_image_24 (mk0 rfl) rfl rfl rfl (Nat.le_of_ble_eq_true rfl) (Nat.le_of_ble_eq_true rfl)) (bind_cg fun b24 => ?_)
    refine Eq.trans (cV_bind rfl) (bind_cg fun p24 => ?_)
    show RS (ZZ L xs) (d + 1) mX13_image 27 [some (.ref o), some (.int i1)] [] p24 = _
    refine Eq.trans (q_aload_n dX13_image_27 (mk0 rfl) rfl rfl) ?_
    refine Eq.trans (q_getR (ci := 13) (k := 1) dX13_image_28 (mk0 rfl) rfl) (bind_cg2 fun x28 hx28 => ?_)
    have hx28 := fR_isR hx28
    refine Eq.trans (q_iconst (v := 4) dX13_image_31 (mk0 rfl) rfl) ?_
    refine Eq.trans (q_iaload dX13_image_32 (mk0 rfl) (no_ext hx28)) (bind_cg fun x32 => ?_)
    exact q_ireturn dX13_image_33 (mk0 rfl) rfl
  · refine Eq.trans (q_iconst (v := (-1)) dX13_image_12 (mk0 rfl) rfl) ?_
    exact q_ireturn dX13_image_13 (mk0 rfl) rfl
set_option maxRecDepth 20000 in
theorem bX13_back_0 {L : Nat} {xs : Nat → Int32} (d : Nat) (o : Nat) (i1 : Int32) (ph : PH) : RS (ZZ L xs) (d + 1) mX13_back 0 [some (.ref o), some (.int i1)] [] ph = (cI (ZZ L xs) d mX13_in [.long ((i1 : Int32).toInt64), .long 0, .long 3] ph).bind fun p6 => if (p6.2 : Int32) = 0 then RS (ZZ L xs) (d + 1) mX13_back 21 [some (.ref o), some (.int i1)] [] p6.1 else (fR p6.1 (.ref o) 13 60).bind fun x13 => (eB p6.1 x13 i1).bind fun x17 => if ¬ (x17 : Int32) = 0 then (iO p6.1 (.ref o) 13).bind fun b26 => (cV (ZZ L xs) d mX13_carriesAll [.ref b26, .int i1, .int 1] p6.1).bind fun p26 => (fR p26 (.ref o) 13 1).bind fun x30 => (eI p26 x30 4).bind fun x34 => some (p26, some (.int x34)) else RS (ZZ L xs) (d + 1) mX13_back 21 [some (.ref o), some (.int i1)] [] p6.1 := by
  refine Eq.trans (q_iload_n dX13_back_0 (mk0 rfl) rfl) ?_
  refine Eq.trans (q_i2l dX13_back_1 (mk0 rfl)) ?_
  refine Eq.trans (q_lconst (v := 0) dX13_back_2 (mk0 rfl) rfl) ?_
  refine Eq.trans (q_ldc2 (v := 3) dX13_back_3 (mk0 rfl) rfl) ?_
  refine Eq.trans (q_callS (as := [.long ((i1 : Int32).toInt64), .long 0, .long 3]) dX13_back_6 (mk0 rfl) rfl (Or.inl rfl) rfl rfl (Nat.le_of_ble_eq_true rfl) (Nat.le_of_ble_eq_true rfl)) ?_
  refine Eq.trans (cI_bind (Or.inr rfl)) (bind_cg fun p6 => ?_)
  show RS (ZZ L xs) (d + 1) mX13_back 9 [some (.ref o), some (.int i1)] [.int p6.2] p6.1 = _
  refine Eq.trans (q_if_eq (t := 21) dX13_back_9 (mk0 rfl) rfl) (ite_cg ?_ ?_)
  · rfl
  · refine Eq.trans (q_aload_n dX13_back_12 (mk0 rfl) rfl rfl) ?_
    refine Eq.trans (q_getR (ci := 13) (k := 60) dX13_back_13 (mk0 rfl) rfl) (bind_cg2 fun x13 hx13 => ?_)
    have hx13 := fR_isR hx13
    refine Eq.trans (q_iload_n dX13_back_16 (mk0 rfl) rfl) ?_
    refine Eq.trans (q_baload dX13_back_17 (mk0 rfl)) (bind_cg fun x17 => ?_)
    refine Eq.trans (q_if_ne (t := 23) dX13_back_18 (mk0 rfl) rfl) (ite_cg ?_ ?_)
    · refine Eq.trans (q_aload_n dX13_back_23 (mk0 rfl) rfl rfl) ?_
      refine Eq.trans (q_iload_n dX13_back_24 (mk0 rfl) rfl) ?_
      refine Eq.trans (q_iconst (v := 1) dX13_back_25 (mk0 rfl) rfl) ?_
      refine Eq.trans (q_callV (as := [.int i1, .int 1]) dX13_back_26 (mk0 rfl) rfl rfl rfl (Nat.le_of_ble_eq_true rfl) (Nat.le_of_ble_eq_true rfl)) (bind_cg fun b26 => ?_)
      refine Eq.trans (cV_bind rfl) (bind_cg fun p26 => ?_)
      show RS (ZZ L xs) (d + 1) mX13_back 29 [some (.ref o), some (.int i1)] [] p26 = _
      refine Eq.trans (q_aload_n dX13_back_29 (mk0 rfl) rfl rfl) ?_
      refine Eq.trans (q_getR (ci := 13) (k := 1) dX13_back_30 (mk0 rfl) rfl) (bind_cg2 fun x30 hx30 => ?_)
      have hx30 := fR_isR hx30
      refine Eq.trans (q_iconst (v := 4) dX13_back_33 (mk0 rfl) rfl) ?_
      refine Eq.trans (q_iaload dX13_back_34 (mk0 rfl) (no_ext hx30)) (bind_cg fun x34 => ?_)
      exact q_ireturn dX13_back_35 (mk0 rfl) rfl
    · rfl
set_option maxRecDepth 20000 in
theorem bX13_back_21 {L : Nat} {xs : Nat → Int32} (d : Nat) (u0 : Option Value) (u1 : Option Value) (ph : PH) : RS (ZZ L xs) (d + 1) mX13_back 21 [u0, u1] [] ph = some (ph, some (.int ((-1)))) := by
  refine Eq.trans (q_iconst (v := (-1)) dX13_back_21 (show mK mX13_back 21 [u0, u1] = [none, none] from rfl) rfl) ?_
  exact q_ireturn dX13_back_22 (mk0 rfl) rfl
