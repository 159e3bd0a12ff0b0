set_option maxRecDepth 20000 in
theorem bX12_init_0 {L : Nat} {xs : Nat → Int32} (d : Nat) (o : Nat) (ph : PH) : RS (ZZ L xs) (d + 1) mX12_init 0 [some (.ref o), none, none, none] [] ph = (dR (.ref ph.length)).bind fun b8 => (cV (ZZ L xs) d mX8_init [.ref b8] (ph ++ [.inr (8, [.null, .int 0, .int 0, .int 0, .int 0, .int 0, .int 0])])).bind fun p8 => (dR (.ref p8.length)).bind fun b16 => (cV (ZZ L xs) d mX6_init [.ref b16] (p8 ++ [.inr (6, [.null, .null, .null, .int 0, .int 0, .int 0, .null, .null, .null])])).bind fun p16 => (dR (.ref p16.length)).bind fun b24 => (cV (ZZ L xs) d mX0_init [.ref b24] (p16 ++ [.inr (0, [.null, .null, .null, .null, .null, .int 0])])).bind fun p24 => (fP p24 (.ref o) 12 0 (.ref ph.length)).bind fun h30 => (dR (.ref h30.length)).bind fun b39 => (cV (ZZ L xs) d mX10_init [.ref b39, .ref ph.length] (h30 ++ [.inr (10, [.null])])).bind fun p39 => (fP p39 (.ref o) 12 1 (.ref h30.length)).bind fun h42 => (dR (.ref h42.length)).bind fun b51 => (cV (ZZ L xs) d mX5_init [.ref b51, .ref ph.length] (h42 ++ [.inr (5, [.null, .null])])).bind fun p51 => (fP p51 (.ref o) 12 2 (.ref h42.length)).bind fun h54 => (fP (h54 ++ [nwR 4 ((6 : Int32).toNatClampNeg)]) (.ref o) 12 3 (.ref h54.length)).bind fun h63 => (fP h63 (.ref o) 12 4 (.int 0)).bind fun h68 => (dR (.ref h68.length)).bind fun b76 => (cV (ZZ L xs) d mX4_init [.ref b76] (h68 ++ [.inr (4, [.int 0, .null, .null, .int 0, .null, .null, .int 0, .int 0, .null, .null])])).bind fun p76 => (fP p76 (.ref o) 12 5 (.ref h68.length)).bind fun h79 => (fP h79 (.ref o) 12 6 (.ref p8.length)).bind fun h84 => (fP (h84 ++ [nwR 6 ((4 : Int32).toNatClampNeg)]) (.ref o) 12 7 (.ref h84.length)).bind fun h92 => (fP h92 (.ref o) 12 8 (.ref p16.length)).bind fun h97 => (dR (.ref h97.length)).bind fun b107 => (cV (ZZ L xs) d mX2_init [.ref b107, .ref p8.length, .ref p16.length] (h97 ++ [.inr (2, [.null, .null, .null, .null, .null, .null, .int 0, .int 0, .int 0, .int 0, .int 0])])).bind fun p107 => (fP p107 (.ref o) 12 9 (.ref h97.length)).bind fun h110 => (dR (.ref h110.length)).bind fun b120 => (cV (ZZ L xs) d mX1_init [.ref b120, .ref p8.length, .ref p16.length] (h110 ++ [.inr (1, [.null, .null, .null, .null])])).bind fun p120 => (fP p120 (.ref o) 12 10 (.ref h110.length)).bind fun h123 => some (h123, none) := by
  refine Eq.trans (q_aload_n dX12_init_0 (mk0 rfl) rfl rfl) ?_
  refine Eq.trans (q_obj dX12_init_1 (mk0 rfl) rfl (Nat.le_of_ble_eq_true rfl)) ?_
  refine Eq.trans (q_new dX12_init_4 (mk0 rfl) rfl) ?_
  refine Eq.trans (q_dup dX12_init_7 (mk0 rfl) rfl) ?_
  refine Eq.trans (q_callI (as := []) dX12_init_8 (mk0 rfl) rfl (Or.inr rfl) rfl rfl (Nat.le_of_ble_eq_true rfl) (Nat.le_of_ble_eq_true rfl)) (bind_cg fun b8 => ?_)
  refine Eq.trans (cV_bind rfl) (bind_cg fun p8 => ?_)
  show RS (ZZ L xs) (d + 1) mX12_init 11 [some (.ref o), none, none, none] [.ref ph.length] p8 = _
  refine Eq.trans (q_astore_n (lv2 := [some (.ref o), some (.ref ph.length), none, none]) dX12_init_11 (mk0 rfl) (Nat.le_of_ble_eq_true rfl) rfl rfl) ?_
  refine Eq.trans (q_new dX12_init_12 (mk0 rfl) rfl) ?_
  refine Eq.trans (q_dup dX12_init_15 (mk0 rfl) rfl) ?_
  refine Eq.trans (q_callI (as := []) dX12_init_16 (mk0 rfl) rfl (Or.inr rfl) rfl rfl (Nat.le_of_ble_eq_true rfl) (Nat.le_of_ble_eq_true rfl)) (bind_cg fun b16 => ?_)
  refine Eq.trans (cV_bind rfl) (bind_cg fun p16 => ?_)
  show RS (ZZ L xs) (d + 1) mX12_init 19 [some (.ref o), some (.ref ph.length), none, none] [.ref p8.length] p16 = _
  refine Eq.trans (q_astore_n (lv2 := [some (.ref o), some (.ref ph.length), some (.ref p8.length), none]) dX12_init_19 (mk0 rfl) (Nat.le_of_ble_eq_true rfl) rfl rfl) ?_
  refine Eq.trans (q_new dX12_init_20 (mk0 rfl) rfl) ?_
  refine Eq.trans (q_dup dX12_init_23 (mk0 rfl) rfl) ?_
  refine Eq.trans (q_callI (as := []) dX12_init_24 (mk0 rfl) rfl (Or.inr rfl) rfl rfl (Nat.le_of_ble_eq_true rfl) (Nat.le_of_ble_eq_true rfl)) (bind_cg fun b24 => ?_)
  refine Eq.trans (cV_bind rfl) (bind_cg fun p24 => ?_)
  show RS (ZZ L xs) (d + 1) mX12_init 27 [some (.ref o), some (.ref ph.length), some (.ref p8.length), none] [.ref p16.length] p24 = _
  refine Eq.trans (q_astore_n (lv2 := [some (.ref o), some (.ref ph.length), some (.ref p8.length), some (.ref p16.length)]) dX12_init_27 (mk0 rfl) (Nat.le_of_ble_eq_true rfl) rfl rfl) ?_
  refine Eq.trans (q_aload_n dX12_init_28 (mk0 rfl) rfl rfl) ?_
  refine Eq.trans (q_aload_n dX12_init_29 (mk0 rfl) rfl rfl) ?_
  refine Eq.trans (q_put (ci := 12) (k := 0) (kd := 2) dX12_init_30 (mk0 rfl) rfl rfl (fun _ => ⟨rfl, rfl⟩)) (bind_cg fun h30 => ?_)
  refine Eq.trans (q_aload_n dX12_init_33 (mk0 rfl) rfl rfl) ?_
  refine Eq.trans (q_new dX12_init_34 (mk0 rfl) rfl) ?_
  refine Eq.trans (q_dup dX12_init_37 (mk0 rfl) rfl) ?_
  refine Eq.trans (q_aload_n dX12_init_38 (mk0 rfl) rfl rfl) ?_
  refine Eq.trans (q_callI (as := [.ref ph.length]) dX12_init_39 (mk0 rfl) rfl (Or.inl rfl) rfl rfl (Nat.le_of_ble_eq_true rfl) (Nat.le_of_ble_eq_true rfl)) (bind_cg fun b39 => ?_)
  refine Eq.trans (cV_bind rfl) (bind_cg fun p39 => ?_)
  show RS (ZZ L xs) (d + 1) mX12_init 42 [some (.ref o), some (.ref ph.length), some (.ref p8.length), some (.ref p16.length)] [.ref h30.length, .ref o] p39 = _
  refine Eq.trans (q_put (ci := 12) (k := 1) (kd := 2) dX12_init_42 (mk0 rfl) rfl rfl (fun _ => ⟨rfl, rfl⟩)) (bind_cg fun h42 => ?_)
  refine Eq.trans (q_aload_n dX12_init_45 (mk0 rfl) rfl rfl) ?_
  refine Eq.trans (q_new dX12_init_46 (mk0 rfl) rfl) ?_
  refine Eq.trans (q_dup dX12_init_49 (mk0 rfl) rfl) ?_
  refine Eq.trans (q_aload_n dX12_init_50 (mk0 rfl) rfl rfl) ?_
  refine Eq.trans (q_callI (as := [.ref ph.length]) dX12_init_51 (mk0 rfl) rfl (Or.inl rfl) rfl rfl (Nat.le_of_ble_eq_true rfl) (Nat.le_of_ble_eq_true rfl)) (bind_cg fun b51 => ?_)
  refine Eq.trans (cV_bind rfl) (bind_cg fun p51 => ?_)
  show RS (ZZ L xs) (d + 1) mX12_init 54 [some (.ref o), some (.ref ph.length), some (.ref p8.length), some (.ref p16.length)] [.ref h42.length, .ref o] p51 = _
  refine Eq.trans (q_put (ci := 12) (k := 2) (kd := 2) dX12_init_54 (mk0 rfl) rfl rfl (fun _ => ⟨rfl, rfl⟩)) (bind_cg fun h54 => ?_)
  refine Eq.trans (q_aload_n dX12_init_57 (mk0 rfl) rfl rfl) ?_
  refine Eq.trans (q_bipush (v := 6) dX12_init_58 (mk0 rfl) rfl) ?_
  refine Eq.trans (q_anewarray (t := 4) dX12_init_60 (mk0 rfl) rfl ⟨by decide, by decide, by decide⟩) ?_
  refine Eq.trans (q_put (ci := 12) (k := 3) (kd := 2) dX12_init_63 (mk0 rfl) rfl rfl (fun _ => ⟨rfl, rfl⟩)) (bind_cg fun h63 => ?_)
  refine Eq.trans (q_aload_n dX12_init_66 (mk0 rfl) rfl rfl) ?_
  refine Eq.trans (q_iconst (v := 0) dX12_init_67 (mk0 rfl) rfl) ?_
  refine Eq.trans (q_put (ci := 12) (k := 4) (kd := 0) dX12_init_68 (mk0 rfl) rfl rfl (fun h => by cases h)) (bind_cg fun h68 => ?_)
  refine Eq.trans (q_aload_n dX12_init_71 (mk0 rfl) rfl rfl) ?_
  refine Eq.trans (q_new dX12_init_72 (mk0 rfl) rfl) ?_
  refine Eq.trans (q_dup dX12_init_75 (mk0 rfl) rfl) ?_
  refine Eq.trans (q_callI (as := []) dX12_init_76 (mk0 rfl) rfl (Or.inr rfl) rfl rfl (Nat.le_of_ble_eq_true rfl) (Nat.le_of_ble_eq_true rfl)) (bind_cg fun b76 => ?_)
  refine Eq.trans (cV_bind rfl) (bind_cg fun p76 => ?_)
  show RS (ZZ L xs) (d + 1) mX12_init 79 [some (.ref o), some (.ref ph.length), some (.ref p8.length), some (.ref p16.length)] [.ref h68.length, .ref o] p76 = _
  refine Eq.trans (q_put (ci := 12) (k := 5) (kd := 2) dX12_init_79 (mk0 rfl) rfl rfl (fun h => by cases h)) (bind_cg fun h79 => ?_)
  refine Eq.trans (q_aload_n dX12_init_82 (mk0 rfl) rfl rfl) ?_
  refine Eq.trans (q_aload_n dX12_init_83 (mk0 rfl) rfl rfl) ?_
  refine Eq.trans (q_put (ci := 12) (k := 6) (kd := 2) dX12_init_84 (mk0 rfl) rfl rfl (fun _ => ⟨rfl, rfl⟩)) (bind_cg fun h84 => ?_)
  refine Eq.trans (q_aload_n dX12_init_87 (mk0 rfl) rfl rfl) ?_
  refine Eq.trans (q_iconst (v := 4) dX12_init_88 (mk0 rfl) rfl) ?_
  refine Eq.trans (q_anewarray (t := 6) dX12_init_89 (mk0 rfl) rfl ⟨by decide, by decide, by decide⟩) ?_
  refine Eq.trans (q_put (ci := 12) (k := 7) (kd := 2) dX12_init_92 (mk0 rfl) rfl rfl (fun _ => ⟨rfl, rfl⟩)) (bind_cg fun h92 => ?_)
  refine Eq.trans (q_aload_n dX12_init_95 (mk0 rfl) rfl rfl) ?_
  refine Eq.trans (q_aload_n dX12_init_96 (mk0 rfl) rfl rfl) ?_
  refine Eq.trans (q_put (ci := 12) (k := 8) (kd := 2) dX12_init_97 (mk0 rfl) rfl rfl (fun _ => ⟨rfl, rfl⟩)) (bind_cg fun h97 => ?_)
  refine Eq.trans (q_aload_n dX12_init_100 (mk0 rfl) rfl rfl) ?_
  refine Eq.trans (q_new dX12_init_101 (mk0 rfl) rfl) ?_
  refine Eq.trans (q_dup dX12_init_104 (mk0 rfl) rfl) ?_
  refine Eq.trans (q_aload_n dX12_init_105 (mk0 rfl) rfl rfl) ?_
  refine Eq.trans (q_aload_n dX12_init_106 (mk0 rfl) rfl rfl) ?_
  refine Eq.trans (q_callI (as := [.ref p8.length, .ref p16.length]) dX12_init_107 (mk0 rfl) rfl (Or.inl rfl) rfl rfl (Nat.le_of_ble_eq_true rfl) (Nat.le_of_ble_eq_true rfl)) (bind_cg fun b107 => ?_)
  refine Eq.trans (cV_bind rfl) (bind_cg fun p107 => ?_)
  show RS (ZZ L xs) (d + 1) mX12_init 110 [some (.ref o), some (.ref ph.length), some (.ref p8.length), some (.ref p16.length)] [.ref h97.length, .ref o] p107 = _
  refine Eq.trans (q_put (ci := 12) (k := 9) (kd := 2) dX12_init_110 (mk0 rfl) rfl rfl (fun _ => ⟨rfl, rfl⟩)) (bind_cg fun h110 => ?_)
  refine Eq.trans (q_aload_n dX12_init_113 (mk0 rfl) rfl rfl) ?_
  refine Eq.trans (q_new dX12_init_114 (mk0 rfl) rfl) ?_
  refine Eq.trans (q_dup dX12_init_117 (mk0 rfl) rfl) ?_
  refine Eq.trans (q_aload_n dX12_init_118 (mk0 rfl) rfl rfl) ?_
  refine Eq.trans (q_aload_n dX12_init_119 (mk0 rfl) rfl rfl) ?_
  refine Eq.trans (q_callI (as := [.ref p8.length, .ref p16.length]) dX12_init_120 (mk0 rfl) rfl (Or.inl rfl) rfl rfl (Nat.le_of_ble_eq_true rfl) (Nat.le_of_ble_eq_true rfl)) (bind_cg fun b120 => ?_)
  refine Eq.trans (cV_bind rfl) (bind_cg fun p120 => ?_)
  show RS (ZZ L xs) (d + 1) mX12_init 123 [some (.ref o), some (.ref ph.length), some (.ref p8.length), some (.ref p16.length)] [.ref h110.length, .ref o] p120 = _
  refine Eq.trans (q_put (ci := 12) (k := 10) (kd := 2) dX12_init_123 (mk0 rfl) rfl rfl (fun _ => ⟨rfl, rfl⟩)) (bind_cg fun h123 => ?_)
  exact q_return dX12_init_126 (mk0 rfl) rfl
set_option maxRecDepth 20000 in
theorem bX12_feed_0 {L : Nat} {xs : Nat → Int32} (d : Nat) (o : Nat) (i1 : Int32) (i2 : Int32) (i3 : Int32) (i4 : Int32) (i5 : Int32) (ph : PH) : RS (ZZ L xs) (d + 1) mX12_feed 0 [some (.ref o), some (.int i1), some (.int i2), some (.int i3), some (.int i4), some (.int i5)] [] ph = (fR ph (.ref o) 12 0).bind fun x1 => (fI ph x1 8 1).bind fun x4 => if (x4 + 20 : Int32) ≤ 400 then (fR ph (.ref o) 12 0).bind fun x19 => (iO ph x19 8).bind fun b23 => (cV (ZZ L xs) d mX8_add [.ref b23, .int i1] ph).bind fun p23 => (fR p23 (.ref o) 12 0).bind fun x27 => (iO p23 x27 8).bind fun b31 => (cV (ZZ L xs) d mX8_add [.ref b31, .int i2] p23).bind fun p31 => (fR p31 (.ref o) 12 0).bind fun x35 => (iO p31 x35 8).bind fun b39 => (cV (ZZ L xs) d mX8_add [.ref b39, .int i3] p31).bind fun p39 => (fR p39 (.ref o) 12 0).bind fun x43 => (iO p39 x43 8).bind fun b48 => (cV (ZZ L xs) d mX8_add [.ref b48, .int i4] p39).bind fun p48 => (fR p48 (.ref o) 12 0).bind fun x52 => (iO p48 x52 8).bind fun b57 => (cV (ZZ L xs) d mX8_add [.ref b57, .int i5] p48).bind fun p57 => (fR p57 (.ref o) 12 0).bind fun x61 => (fI p57 x61 8 1).bind fun x64 => some (p57, some (.int x64)) else some (ph, some (.int ((-1)))) := by
  refine Eq.trans (q_aload_n dX12_feed_0 (mk0 rfl) rfl rfl) ?_
  refine Eq.trans (q_getR (ci := 12) (k := 0) dX12_feed_1 (mk0 rfl) rfl) (bind_cg2 fun x1 hx1 => ?_)
  have hx1 := fR_isR hx1
  refine Eq.trans (q_getI (ci := 8) (k := 1) dX12_feed_4 (mk0 rfl) rfl) (bind_cg fun x4 => ?_)
  refine Eq.trans (q_bipush (v := 20) dX12_feed_7 (mk0 rfl) rfl) ?_
  refine Eq.trans (q_iadd dX12_feed_9 (mk0 rfl)) ?_
  refine Eq.trans (q_sipush (v := 400) dX12_feed_10 (mk0 rfl) rfl) ?_
  refine Eq.trans (q_icmp_le (t := 18) dX12_feed_13 (mk0 rfl) rfl) (ite_cg ?_ ?_)
  · refine Eq.trans (q_aload_n dX12_feed_18 (mk0 rfl) rfl rfl) ?_
    refine Eq.trans (q_getR (ci := 12) (k := 0) dX12_feed_19 (mk0 rfl) rfl) (bind_cg2 fun x19 hx19 => ?_)
    have hx19 := fR_isR hx19
    refine Eq.trans (q_iload_n dX12_feed_22 (mk0 rfl) rfl) ?_
    refine Eq.trans (q_callV (as := [.int i1]) dX12_feed_23 (mk0 rfl) rfl rfl rfl (Nat.le_of_ble_eq_true rfl) (Nat.le_of_ble_eq_true rfl)) (bind_cg fun b23 => ?_)
    refine Eq.trans (cV_bind rfl) (bind_cg fun p23 => ?_)
    show RS (ZZ L xs) (d + 1) mX12_feed 26 [some (.ref o), some (.int i1), some (.int i2), some (.int i3), some (.int i4), some (.int i5)] [] p23 = _
    refine Eq.trans (q_aload_n dX12_feed_26 (mk0 rfl) rfl rfl) ?_
    refine Eq.trans (q_getR (ci := 12) (k := 0) dX12_feed_27 (mk0 rfl) rfl) (bind_cg2 fun x27 hx27 => ?_)
    have hx27 := fR_isR hx27
    refine Eq.trans (q_iload_n dX12_feed_30 (mk0 rfl) rfl) ?_
    refine Eq.trans (q_callV (as := [.int i2]) dX12_feed_31 (mk0 rfl) rfl rfl rfl (Nat.le_of_ble_eq_true rfl) (Nat.le_of_ble_eq_true rfl)) (bind_cg fun b31 => ?_)
    refine Eq.trans (cV_bind rfl) (bind_cg fun p31 => ?_)
    show RS (ZZ L xs) (d + 1) mX12_feed 34 [some (.ref o), some (.int i1), some (.int i2), some (.int i3), some (.int i4), some (.int i5)] [] p31 = _
    refine Eq.trans (q_aload_n dX12_feed_34 (mk0 rfl) rfl rfl) ?_
    refine Eq.trans (q_getR (ci := 12) (k := 0) dX12_feed_35 (mk0 rfl) rfl) (bind_cg2 fun x35 hx35 => ?_)
    have hx35 := fR_isR hx35
    refine Eq.trans (q_iload_n dX12_feed_38 (mk0 rfl) rfl) ?_
    refine Eq.trans (q_callV (as := [.int i3]) dX12_feed_39 (mk0 rfl) rfl rfl rfl (Nat.le_of_ble_eq_true rfl) (Nat.le_of_ble_eq_true rfl)) (bind_cg fun b39 => ?_)
    refine Eq.trans (cV_bind rfl) (bind_cg fun p39 => ?_)
    show RS (ZZ L xs) (d + 1) mX12_feed 42 [some (.ref o), some (.int i1), some (.int i2), some (.int i3), some (.int i4), some (.int i5)] [] p39 = _
    refine Eq.trans (q_aload_n dX12_feed_42 (mk0 rfl) rfl rfl) ?_
    refine Eq.trans (q_getR (ci := 12) (k := 0) dX12_feed_43 (mk0 rfl) rfl) (bind_cg2 fun x43 hx43 => ?_)
    have hx43 := fR_isR hx43
    refine Eq.trans (q_iload dX12_feed_46 (mk0 rfl) rfl) ?_
    refine Eq.trans (q_callV (as := [.int i4]) dX12_feed_48 (mk0 rfl) rfl rfl rfl (Nat.le_of_ble_eq_true rfl) (Nat.le_of_ble_eq_true rfl)) (bind_cg fun b48 => ?_)
    refine Eq.trans (cV_bind rfl) (bind_cg fun p48 => ?_)
    show RS (ZZ L xs) (d + 1) mX12_feed 51 [some (.ref o), some (.int i1), some (.int i2), some (.int i3), some (.int i4), some (.int i5)] [] p48 = _
    refine Eq.trans (q_aload_n dX12_feed_51 (mk0 rfl) rfl rfl) ?_
    refine Eq.trans (q_getR (ci := 12) (k := 0) dX12_feed_52 (mk0 rfl) rfl) (bind_cg2 fun x52 hx52 => ?_)
    have hx52 := fR_isR hx52
    refine Eq.trans (q_iload dX12_feed_55 (mk0 rfl) rfl) ?_
    refine Eq.trans (q_callV (as := [.int i5]) dX12_feed_57 (mk0 rfl) rfl rfl rfl (Nat.le_of_ble_eq_true rfl) (Nat.le_of_ble_eq_true rfl)) (bind_cg fun b57 => ?_)
    refine Eq.trans (cV_bind rfl) (bind_cg fun p57 => ?_)
    show RS (ZZ L xs) (d + 1) mX12_feed 60 [some (.ref o), some (.int i1), some (.int i2), some (.int i3), some (.int i4), some (.int i5)] [] p57 = _
    refine Eq.trans (q_aload_n dX12_feed_60 (mk0 rfl) rfl rfl) ?_
    refine Eq.trans (q_getR (ci := 12) (k := 0) dX12_feed_61 (mk0 rfl) rfl) (bind_cg2 fun x61 hx61 => ?_)
    have hx61 := fR_isR hx61
    refine Eq.trans (q_getI (ci := 8) (k := 1) dX12_feed_64 (mk0 rfl) rfl) (bind_cg fun x64 => ?_)
    exact q_ireturn dX12_feed_67 (mk0 rfl) rfl
  · refine Eq.trans (q_iconst (v := (-1)) dX12_feed_16 (mk0 rfl) rfl) ?_
    exact q_ireturn dX12_feed_17 (mk0 rfl) rfl
set_option maxRecDepth 20000 in
theorem bX12_end_0 {L : Nat} {xs : Nat → Int32} (d : Nat) (o : Nat) (i1 : Int32) (ph : PH) : RS (ZZ L xs) (d + 1) mX12_end 0 [some (.ref o), some (.int i1)] [] ph = if (i1 : Int32) < 0 then RS (ZZ L xs) (d + 1) mX12_end 15 [some (.ref o), some (.int i1)] [] ph else (fR ph (.ref o) 12 0).bind fun x6 => (fI ph x6 8 1).bind fun x9 => if (i1 : Int32) ≤ x9 then (fR ph (.ref o) 12 0).bind fun x18 => (fP ph x18 8 1 (.int i1)).bind fun h22 => some (h22, some (.int i1)) else RS (ZZ L xs) (d + 1) mX12_end 15 [some (.ref o), some (.int i1)] [] ph := by
  refine Eq.trans (q_iload_n dX12_end_0 (mk0 rfl) rfl) ?_
  refine Eq.trans (q_if_lt (t := 15) dX12_end_1 (mk0 rfl) rfl) (ite_cg ?_ ?_)
  · rfl
  · refine Eq.trans (q_iload_n dX12_end_4 (mk0 rfl) rfl) ?_
    refine Eq.trans (q_aload_n dX12_end_5 (mk0 rfl) rfl rfl) ?_
    refine Eq.trans (q_getR (ci := 12) (k := 0) dX12_end_6 (mk0 rfl) rfl) (bind_cg2 fun x6 hx6 => ?_)
    have hx6 := fR_isR hx6
    refine Eq.trans (q_getI (ci := 8) (k := 1) dX12_end_9 (mk0 rfl) rfl) (bind_cg fun x9 => ?_)
    refine Eq.trans (q_icmp_le (t := 17) dX12_end_12 (mk0 rfl) rfl) (ite_cg ?_ ?_)
    · refine Eq.trans (q_aload_n dX12_end_17 (mk0 rfl) rfl rfl) ?_
      refine Eq.trans (q_getR (ci := 12) (k := 0) dX12_end_18 (mk0 rfl) rfl) (bind_cg2 fun x18 hx18 => ?_)
      have hx18 := fR_isR hx18
      refine Eq.trans (q_iload_n dX12_end_21 (mk0 rfl) rfl) ?_
      refine Eq.trans (q_put (ci := 8) (k := 1) (kd := 0) dX12_end_22 (mk0 rfl) rfl rfl (fun h => by cases h)) (bind_cg fun h22 => ?_)
      refine Eq.trans (q_iload_n dX12_end_25 (mk0 rfl) rfl) ?_
      exact q_ireturn dX12_end_26 (mk0 rfl) rfl
    · rfl
set_option maxRecDepth 20000 in
theorem bX12_end_15 {L : Nat} {xs : Nat → Int32} (d : Nat) (u0 : Option Value) (u1 : Option Value) (ph : PH) : RS (ZZ L xs) (d + 1) mX12_end 15 [u0, u1] [] ph = some (ph, some (.int ((-1)))) := by
  refine Eq.trans (q_iconst (v := (-1)) dX12_end_15 (show mK mX12_end 15 [u0, u1] = [none, none] from rfl) rfl) ?_
  exact q_ireturn dX12_end_16 (mk0 rfl) rfl
set_option maxRecDepth 20000 in
theorem bX12_town_0 {L : Nat} {xs : Nat → Int32} (d : Nat) (o : Nat) (ph : PH) : RS (ZZ L xs) (d + 1) mX12_town 0 [some (.ref o), none] [] ph = (fR ph (.ref o) 12 1).bind fun x1 => (iO ph x1 10).bind fun b4 => (cR (ZZ L xs) d mX10_read [.ref b4] ph).bind fun p4 => (fR p4.1 (.ref o) 12 0).bind fun x9 => (fP p4.1 x9 8 1 (.int 0)).bind fun h13 => (isN p4.2).bind fun z17 => if z17 = true then (fR h13 (.ref o) 12 0).bind fun x23 => (fI h13 x23 8 4).bind fun x26 => some (h13, some (.int (((-2)) - x26))) else (fR h13 (.ref o) 12 6).bind fun x32 => (iO h13 x32 6).bind fun b36 => (cV (ZZ L xs) d mX6_move [.ref b36, p4.2] h13).bind fun p36 => (fI p36 p4.2 9 2).bind fun x40 => some (p36, some (.int x40)) := by
  refine Eq.trans (q_aload_n dX12_town_0 (mk0 rfl) rfl rfl) ?_
  refine Eq.trans (q_getR (ci := 12) (k := 1) dX12_town_1 (mk0 rfl) rfl) (bind_cg2 fun x1 hx1 => ?_)
  have hx1 := fR_isR hx1
  refine Eq.trans (q_callV (as := []) dX12_town_4 (mk0 rfl) rfl rfl rfl (Nat.le_of_ble_eq_true rfl) (Nat.le_of_ble_eq_true rfl)) (bind_cg fun b4 => ?_)
  refine Eq.trans (cR_bind rfl) (bind_cg2 fun p4 hp4 => ?_)
  have hp4 := cR_isA hp4
  show RS (ZZ L xs) (d + 1) mX12_town 7 [some (.ref o), none] [p4.2] p4.1 = _
  refine Eq.trans (q_astore_n (lv2 := [some (.ref o), some (p4.2)]) dX12_town_7 (mk0 rfl) (Nat.le_of_ble_eq_true rfl) hp4 rfl) ?_
  refine Eq.trans (q_aload_n dX12_town_8 (mk0 rfl) rfl rfl) ?_
  refine Eq.trans (q_getR (ci := 12) (k := 0) dX12_town_9 (mk0 rfl) rfl) (bind_cg2 fun x9 hx9 => ?_)
  have hx9 := fR_isR hx9
  refine Eq.trans (q_iconst (v := 0) dX12_town_12 (mk0 rfl) rfl) ?_
  refine Eq.trans (q_put (ci := 8) (k := 1) (kd := 0) dX12_town_13 (mk0 rfl) rfl rfl (fun h => by cases h)) (bind_cg fun h13 => ?_)
  refine Eq.trans (q_aload_n dX12_town_16 (mk0 rfl) rfl hp4) ?_
  refine Eq.trans (q_ifnonnull (t := 31) dX12_town_17 (mk0 rfl) rfl) (bind_cg fun z17 => ite_cg ?_ ?_)
  · refine Eq.trans (q_bipush (v := (-2)) dX12_town_20 (mk0 rfl) rfl) ?_
    refine Eq.trans (q_aload_n dX12_town_22 (mk0 rfl) rfl rfl) ?_
    refine Eq.trans (q_getR (ci := 12) (k := 0) dX12_town_23 (mk0 rfl) rfl) (bind_cg2 fun x23 hx23 => ?_)
    have hx23 := fR_isR hx23
    refine Eq.trans (q_getI (ci := 8) (k := 4) dX12_town_26 (mk0 rfl) rfl) (bind_cg fun x26 => ?_)
    refine Eq.trans (q_isub dX12_town_29 (mk0 rfl)) ?_
    exact q_ireturn dX12_town_30 (mk0 rfl) rfl
  · refine Eq.trans (q_aload_n dX12_town_31 (mk0 rfl) rfl rfl) ?_
    refine Eq.trans (q_getR (ci := 12) (k := 6) dX12_town_32 (mk0 rfl) rfl) (bind_cg2 fun x32 hx32 => ?_)
    have hx32 := fR_isR hx32
    refine Eq.trans (q_aload_n dX12_town_35 (mk0 rfl) rfl hp4) ?_
    refine Eq.trans (q_callV (as := [p4.2]) dX12_town_36 (mk0 rfl) rfl rfl rfl (Nat.le_of_ble_eq_true rfl) (by simp [eA, ct_i, ct_l, ct_r, ct_n, ct_x, mX6_move, (cat_A hp4)])) (bind_cg fun b36 => ?_)
    refine Eq.trans (cV_bind rfl) (bind_cg fun p36 => ?_)
    show RS (ZZ L xs) (d + 1) mX12_town 39 [some (.ref o), some (p4.2)] [] p36 = _
    refine Eq.trans (q_aload_n dX12_town_39 (mk0 rfl) rfl hp4) ?_
    refine Eq.trans (q_getI (ci := 9) (k := 2) dX12_town_40 (mk0 rfl) rfl) (bind_cg fun x40 => ?_)
    exact q_ireturn dX12_town_43 (mk0 rfl) rfl
set_option maxRecDepth 20000 in
theorem bX12_rule_0 {L : Nat} {xs : Nat → Int32} (d : Nat) (o : Nat) (ph : PH) : RS (ZZ L xs) (d + 1) mX12_rule 0 [some (.ref o), none] [] ph = (fI ph (.ref o) 12 4).bind fun x1 => if (x1 : Int32) < 6 then (fR ph (.ref o) 12 2).bind fun x12 => (fR ph (.ref o) 12 5).bind fun x16 => (iO ph x12 5).bind fun b19 => (cI (ZZ L xs) d mX5_read [.ref b19, x16] ph).bind fun p19 => (fR p19.1 (.ref o) 12 0).bind fun x24 => (fP p19.1 x24 8 1 (.int 0)).bind fun h28 => if ¬ (p19.2 : Int32) = 0 then (fR h28 (.ref o) 12 3).bind fun x47 => (fI h28 (.ref o) 12 4).bind fun x51 => (fR h28 (.ref o) 12 5).bind fun x55 => (wR h28 x47 x51 x55).bind fun h58 => (dR (.ref h58.length)).bind fun b64 => (cV (ZZ L xs) d mX4_init [.ref b64] (h58 ++ [.inr (4, [.int 0, .null, .null, .int 0, .null, .null, .int 0, .int 0, .null, .null])])).bind fun p64 => (fP p64 (.ref o) 12 5 (.ref h58.length)).bind fun h67 => (fI h67 (.ref o) 12 4).bind fun x72 => (fP h67 (.ref o) 12 4 (.int (x72 + 1))).bind fun h77 => (fI h77 (.ref o) 12 4).bind fun x81 => some (h77, some (.int (x81 - 1))) else (fR h28 (.ref o) 12 0).bind fun x38 => (fI h28 x38 8 4).bind fun x41 => some (h28, some (.int (((-2)) - x41))) else some (ph, some (.int ((-1)))) := by
  refine Eq.trans (q_aload_n dX12_rule_0 (mk0 rfl) rfl rfl) ?_
  refine Eq.trans (q_getI (ci := 12) (k := 4) dX12_rule_1 (mk0 rfl) rfl) (bind_cg fun x1 => ?_)
  refine Eq.trans (q_bipush (v := 6) dX12_rule_4 (mk0 rfl) rfl) ?_
  refine Eq.trans (q_icmp_lt (t := 11) dX12_rule_6 (mk0 rfl) rfl) (ite_cg ?_ ?_)
  · refine Eq.trans (q_aload_n dX12_rule_11 (mk0 rfl) rfl rfl) ?_
    refine Eq.trans (q_getR (ci := 12) (k := 2) dX12_rule_12 (mk0 rfl) rfl) (bind_cg2 fun x12 hx12 => ?_)
    have hx12 := fR_isR hx12
    refine Eq.trans (q_aload_n dX12_rule_15 (mk0 rfl) rfl rfl) ?_
    refine Eq.trans (q_getR (ci := 12) (k := 5) dX12_rule_16 (mk0 rfl) rfl) (bind_cg2 fun x16 hx16 => ?_)
    have hx16 := fR_isR hx16
    refine Eq.trans (q_callV (as := [x16]) dX12_rule_19 (mk0 rfl) rfl rfl rfl (Nat.le_of_ble_eq_true rfl) (by simp [eA, ct_i, ct_l, ct_r, ct_n, ct_x, mX5_read, (cat_R hx16)])) (bind_cg fun b19 => ?_)
    refine Eq.trans (cI_bind (Or.inr rfl)) (bind_cg fun p19 => ?_)
    show RS (ZZ L xs) (d + 1) mX12_rule 22 [some (.ref o), none] [.int p19.2] p19.1 = _
    refine Eq.trans (q_istore_n (lv2 := [some (.ref o), some (.int p19.2)]) dX12_rule_22 (mk0 rfl) (Nat.le_of_ble_eq_true rfl) rfl) ?_
    refine Eq.trans (q_aload_n dX12_rule_23 (mk0 rfl) rfl rfl) ?_
    refine Eq.trans (q_getR (ci := 12) (k := 0) dX12_rule_24 (mk0 rfl) rfl) (bind_cg2 fun x24 hx24 => ?_)
    have hx24 := fR_isR hx24
    refine Eq.trans (q_iconst (v := 0) dX12_rule_27 (mk0 rfl) rfl) ?_
    refine Eq.trans (q_put (ci := 8) (k := 1) (kd := 0) dX12_rule_28 (mk0 rfl) rfl rfl (fun h => by cases h)) (bind_cg fun h28 => ?_)
    refine Eq.trans (q_iload_n dX12_rule_31 (mk0 rfl) rfl) ?_
    refine Eq.trans (q_if_ne (t := 46) dX12_rule_32 (mk0 rfl) rfl) (ite_cg ?_ ?_)
    · refine Eq.trans (q_aload_n dX12_rule_46 (mk0 rfl) rfl rfl) ?_
      refine Eq.trans (q_getR (ci := 12) (k := 3) dX12_rule_47 (mk0 rfl) rfl) (bind_cg2 fun x47 hx47 => ?_)
      have hx47 := fR_isR hx47
      refine Eq.trans (q_aload_n dX12_rule_50 (mk0 rfl) rfl rfl) ?_
      refine Eq.trans (q_getI (ci := 12) (k := 4) dX12_rule_51 (mk0 rfl) rfl) (bind_cg fun x51 => ?_)
      refine Eq.trans (q_aload_n dX12_rule_54 (mk0 rfl) rfl rfl) ?_
      refine Eq.trans (q_getR (ci := 12) (k := 5) dX12_rule_55 (mk0 rfl) rfl) (bind_cg2 fun x55 hx55 => ?_)
      have hx55 := fR_isR hx55
      refine Eq.trans (q_aastore dX12_rule_58 (mk0 rfl)) (bind_cg fun h58 => ?_)
      refine Eq.trans (q_aload_n dX12_rule_59 (mk0 rfl) rfl rfl) ?_
      refine Eq.trans (q_new dX12_rule_60 (mk0 rfl) rfl) ?_
      refine Eq.trans (q_dup dX12_rule_63 (mk0 rfl) rfl) ?_
      refine Eq.trans (q_callI (as := []) dX12_rule_64 (mk0 rfl) rfl (Or.inr rfl) rfl rfl (Nat.le_of_ble_eq_true rfl) (Nat.le_of_ble_eq_true rfl)) (bind_cg fun b64 => ?_)
      refine Eq.trans (cV_bind rfl) (bind_cg fun p64 => ?_)
      show RS (ZZ L xs) (d + 1) mX12_rule 67 [some (.ref o), some (.int p19.2)] [.ref h58.length, .ref o] p64 = _
      refine Eq.trans (q_put (ci := 12) (k := 5) (kd := 2) dX12_rule_67 (mk0 rfl) rfl rfl (fun h => by cases h)) (bind_cg fun h67 => ?_)
      refine Eq.trans (q_aload_n dX12_rule_70 (mk0 rfl) rfl rfl) ?_
      refine Eq.trans (q_dup dX12_rule_71 (mk0 rfl) rfl) ?_
      refine Eq.trans (q_getI (ci := 12) (k := 4) dX12_rule_72 (mk0 rfl) rfl) (bind_cg fun x72 => ?_)
      refine Eq.trans (q_iconst (v := 1) dX12_rule_75 (mk0 rfl) rfl) ?_
      refine Eq.trans (q_iadd dX12_rule_76 (mk0 rfl)) ?_
      refine Eq.trans (q_put (ci := 12) (k := 4) (kd := 0) dX12_rule_77 (mk0 rfl) rfl rfl (fun h => by cases h)) (bind_cg fun h77 => ?_)
      refine Eq.trans (q_aload_n dX12_rule_80 (mk0 rfl) rfl rfl) ?_
      refine Eq.trans (q_getI (ci := 12) (k := 4) dX12_rule_81 (mk0 rfl) rfl) (bind_cg fun x81 => ?_)
      refine Eq.trans (q_iconst (v := 1) dX12_rule_84 (mk0 rfl) rfl) ?_
      refine Eq.trans (q_isub dX12_rule_85 (mk0 rfl)) ?_
      exact q_ireturn dX12_rule_86 (mk0 rfl) rfl
    · refine Eq.trans (q_bipush (v := (-2)) dX12_rule_35 (mk0 rfl) rfl) ?_
      refine Eq.trans (q_aload_n dX12_rule_37 (mk0 rfl) rfl rfl) ?_
      refine Eq.trans (q_getR (ci := 12) (k := 0) dX12_rule_38 (mk0 rfl) rfl) (bind_cg2 fun x38 hx38 => ?_)
      have hx38 := fR_isR hx38
      refine Eq.trans (q_getI (ci := 8) (k := 4) dX12_rule_41 (mk0 rfl) rfl) (bind_cg fun x41 => ?_)
      refine Eq.trans (q_isub dX12_rule_44 (mk0 rfl)) ?_
      exact q_ireturn dX12_rule_45 (mk0 rfl) rfl
  · refine Eq.trans (q_iconst (v := (-1)) dX12_rule_9 (mk0 rfl) rfl) ?_
    exact q_ireturn dX12_rule_10 (mk0 rfl) rfl
set_option maxRecDepth 20000 in
theorem bX12_force_0 {L : Nat} {xs : Nat → Int32} (d : Nat) (o : Nat) (i1 : Int32) (ph : PH) : RS (ZZ L xs) (d + 1) mX12_force 0 [some (.ref o), some (.int i1), none] [] ph = if (i1 : Int32) < (-1) then RS (ZZ L xs) (d + 1) mX12_force 13 [some (.ref o), some (.int i1), none] [] ph else (fI ph (.ref o) 12 4).bind fun x7 => if (i1 : Int32) < x7 then (fR ph (.ref o) 12 6).bind fun x17 => (fI ph x17 6 3).bind fun x20 => (fR ph (.ref o) 12 6).bind fun x25 => (fP ph x25 6 3 (.int i1)).bind fun h29 => some (h29, some (.int x20)) else RS (ZZ L xs) (d + 1) mX12_force 13 [some (.ref o), some (.int i1), none] [] ph := by
  refine Eq.trans (q_iload_n dX12_force_0 (mk0 rfl) rfl) ?_
  refine Eq.trans (q_iconst (v := (-1)) dX12_force_1 (mk0 rfl) rfl) ?_
  refine Eq.trans (q_icmp_lt (t := 13) dX12_force_2 (mk0 rfl) rfl) (ite_cg ?_ ?_)
  · rfl
  · refine Eq.trans (q_iload_n dX12_force_5 (mk0 rfl) rfl) ?_
    refine Eq.trans (q_aload_n dX12_force_6 (mk0 rfl) rfl rfl) ?_
    refine Eq.trans (q_getI (ci := 12) (k := 4) dX12_force_7 (mk0 rfl) rfl) (bind_cg fun x7 => ?_)
    refine Eq.trans (q_icmp_lt (t := 16) dX12_force_10 (mk0 rfl) rfl) (ite_cg ?_ ?_)
    · refine Eq.trans (q_aload_n dX12_force_16 (mk0 rfl) rfl rfl) ?_
      refine Eq.trans (q_getR (ci := 12) (k := 6) dX12_force_17 (mk0 rfl) rfl) (bind_cg2 fun x17 hx17 => ?_)
      have hx17 := fR_isR hx17
      refine Eq.trans (q_getI (ci := 6) (k := 3) dX12_force_20 (mk0 rfl) rfl) (bind_cg fun x20 => ?_)
      refine Eq.trans (q_istore_n (lv2 := [some (.ref o), some (.int i1), some (.int x20)]) dX12_force_23 (mk0 rfl) (Nat.le_of_ble_eq_true rfl) rfl) ?_
      refine Eq.trans (q_aload_n dX12_force_24 (mk0 rfl) rfl rfl) ?_
      refine Eq.trans (q_getR (ci := 12) (k := 6) dX12_force_25 (mk0 rfl) rfl) (bind_cg2 fun x25 hx25 => ?_)
      have hx25 := fR_isR hx25
      refine Eq.trans (q_iload_n dX12_force_28 (mk0 rfl) rfl) ?_
      refine Eq.trans (q_put (ci := 6) (k := 3) (kd := 0) dX12_force_29 (mk0 rfl) rfl rfl (fun h => by cases h)) (bind_cg fun h29 => ?_)
      refine Eq.trans (q_iload_n dX12_force_32 (mk0 rfl) rfl) ?_
      exact q_ireturn dX12_force_33 (mk0 rfl) rfl
    · rfl
set_option maxRecDepth 20000 in
theorem bX12_force_13 {L : Nat} {xs : Nat → Int32} (d : Nat) (u0 : Option Value) (u1 : Option Value) (u2 : Option Value) (ph : PH) : RS (ZZ L xs) (d + 1) mX12_force 13 [u0, u1, u2] [] ph = some (ph, some (.int ((-2)))) := by
  refine Eq.trans (q_bipush (v := (-2)) dX12_force_13 (show mK mX12_force 13 [u0, u1, u2] = [none, none, none] from rfl) rfl) ?_
  exact q_ireturn dX12_force_15 (mk0 rfl) rfl
set_option maxRecDepth 20000 in
theorem bX12_person_0 {L : Nat} {xs : Nat → Int32} (d : Nat) (o : Nat) (i1 : Int32) (i2 : Int32) (ph : PH) : RS (ZZ L xs) (d + 1) mX12_person 0 [some (.ref o), some (.int i1), some (.int i2)] [] ph = (iO ph (.ref o) 12).bind fun b2 => (cI (ZZ L xs) d mX12_isPerson [.ref b2, .int i1] ph).bind fun p2 => if ¬ (p2.2 : Int32) = 0 then if (i2 : Int32) = 0 then RS (ZZ L xs) (d + 1) mX12_person 48 [some (.ref o), some (.int i1), some (.int i2)] [] p2.1 else if (i2 : Int32) = 1 then RS (ZZ L xs) (d + 1) mX12_person 61 [some (.ref o), some (.int i1), some (.int i2)] [] p2.1 else if (i2 : Int32) = 2 then RS (ZZ L xs) (d + 1) mX12_person 74 [some (.ref o), some (.int i1), some (.int i2)] [] p2.1 else if (i2 : Int32) = 3 then RS (ZZ L xs) (d + 1) mX12_person 89 [some (.ref o), some (.int i1), some (.int i2)] [] p2.1 else if (i2 : Int32) = 4 then RS (ZZ L xs) (d + 1) mX12_person 102 [some (.ref o), some (.int i1), some (.int i2)] [] p2.1 else if (i2 : Int32) = 5 then RS (ZZ L xs) (d + 1) mX12_person 115 [some (.ref o), some (.int i1), some (.int i2)] [] p2.1 else RS (ZZ L xs) (d + 1) mX12_person 128 [some (.ref o), some (.int i1), some (.int i2)] [] p2.1 else some (p2.1, some (.int ((-1)))) := by
  refine Eq.trans (q_aload_n dX12_person_0 (mk0 rfl) rfl rfl) ?_
  refine Eq.trans (q_iload_n dX12_person_1 (mk0 rfl) rfl) ?_
  refine Eq.trans (q_callV (as := [.int i1]) dX12_person_2 (mk0 rfl) rfl rfl rfl (Nat.le_of_ble_eq_true rfl) (Nat.le_of_ble_eq_true rfl)) (bind_cg fun b2 => ?_)
  refine Eq.trans (cI_bind (Or.inr rfl)) (bind_cg fun p2 => ?_)
  show RS (ZZ L xs) (d + 1) mX12_person 5 [some (.ref o), some (.int i1), some (.int i2)] [.int p2.2] p2.1 = _
  refine Eq.trans (q_if_ne (t := 10) dX12_person_5 (mk0 rfl) rfl) (ite_cg ?_ ?_)
  · refine Eq.trans (q_iload_n dX12_person_10 (mk0 rfl) rfl) ?_
    refine Eq.trans (q_tableswitch dX12_person_11 (mk0 rfl)) ?_
    generalize (i2 : Int32) = y11
    by_cases hy0 : y11 = 0
    · rw [if_pos hy0, hy0]; rfl
    rw [if_neg hy0]
    by_cases hy1 : y11 = 1
    · rw [if_pos hy1, hy1]; rfl
    rw [if_neg hy1]
    by_cases hy2 : y11 = 2
    · rw [if_pos hy2, hy2]; rfl
    rw [if_neg hy2]
    by_cases hy3 : y11 = 3
    · rw [if_pos hy3, hy3]; rfl
    rw [if_neg hy3]
    by_cases hy4 : y11 = 4
    · rw [if_pos hy4, hy4]; rfl
    rw [if_neg hy4]
    by_cases hy5 : y11 = 5
    · rw [if_pos hy5, hy5]; rfl
    rw [if_neg hy5]
    have ny0 := i32_ne hy0 (n := 0) rfl
    have ny1 := i32_ne hy1 (n := 1) rfl
    have ny2 := i32_ne hy2 (n := 2) rfl
    have ny3 := i32_ne hy3 (n := 3) rfl
    have ny4 := i32_ne hy4 (n := 4) rfl
    have ny5 := i32_ne hy5 (n := 5) rfl
    rw [sw_out (t := 128) (by omega) rfl]
    rfl
  · refine Eq.trans (q_iconst (v := (-1)) dX12_person_8 (mk0 rfl) rfl) ?_
    exact q_ireturn dX12_person_9 (mk0 rfl) rfl
set_option maxRecDepth 20000 in
theorem bX12_person_48 {L : Nat} {xs : Nat → Int32} (d : Nat) (o : Nat) (i1 : Int32) (u2 : Option Value) (ph : PH) : RS (ZZ L xs) (d + 1) mX12_person 48 [some (.ref o), some (.int i1), u2] [] ph = (fR ph (.ref o) 12 6).bind fun x49 => (fR ph x49 6 1).bind fun x52 => (fR ph x52 7 4).bind fun x55 => (eI ph x55 i1).bind fun x59 => some (ph, some (.int x59)) := by
  refine Eq.trans (q_aload_n dX12_person_48 (show mK mX12_person 48 [some (.ref o), some (.int i1), u2] = [some (.ref o), some (.int i1), none] from rfl) rfl rfl) ?_
  refine Eq.trans (q_getR (ci := 12) (k := 6) dX12_person_49 (mk0 rfl) rfl) (bind_cg2 fun x49 hx49 => ?_)
  have hx49 := fR_isR hx49
  refine Eq.trans (q_getR (ci := 6) (k := 1) dX12_person_52 (mk0 rfl) rfl) (bind_cg2 fun x52 hx52 => ?_)
  have hx52 := fR_isR hx52
  refine Eq.trans (q_getR (ci := 7) (k := 4) dX12_person_55 (mk0 rfl) rfl) (bind_cg2 fun x55 hx55 => ?_)
  have hx55 := fR_isR hx55
  refine Eq.trans (q_iload_n dX12_person_58 (mk0 rfl) rfl) ?_
  refine Eq.trans (q_iaload dX12_person_59 (mk0 rfl) (no_ext hx55)) (bind_cg fun x59 => ?_)
  exact q_ireturn dX12_person_60 (mk0 rfl) rfl
set_option maxRecDepth 20000 in
theorem bX12_person_61 {L : Nat} {xs : Nat → Int32} (d : Nat) (o : Nat) (i1 : Int32) (u2 : Option Value) (ph : PH) : RS (ZZ L xs) (d + 1) mX12_person 61 [some (.ref o), some (.int i1), u2] [] ph = (fR ph (.ref o) 12 6).bind fun x62 => (fR ph x62 6 1).bind fun x65 => (fR ph x65 7 5).bind fun x68 => (eI ph x68 i1).bind fun x72 => some (ph, some (.int x72)) := by
  refine Eq.trans (q_aload_n dX12_person_61 (show mK mX12_person 61 [some (.ref o), some (.int i1), u2] = [some (.ref o), some (.int i1), none] from rfl) rfl rfl) ?_
  refine Eq.trans (q_getR (ci := 12) (k := 6) dX12_person_62 (mk0 rfl) rfl) (bind_cg2 fun x62 hx62 => ?_)
  have hx62 := fR_isR hx62
  refine Eq.trans (q_getR (ci := 6) (k := 1) dX12_person_65 (mk0 rfl) rfl) (bind_cg2 fun x65 hx65 => ?_)
  have hx65 := fR_isR hx65
  refine Eq.trans (q_getR (ci := 7) (k := 5) dX12_person_68 (mk0 rfl) rfl) (bind_cg2 fun x68 hx68 => ?_)
  have hx68 := fR_isR hx68
  refine Eq.trans (q_iload_n dX12_person_71 (mk0 rfl) rfl) ?_
  refine Eq.trans (q_iaload dX12_person_72 (mk0 rfl) (no_ext hx68)) (bind_cg fun x72 => ?_)
  exact q_ireturn dX12_person_73 (mk0 rfl) rfl
set_option maxRecDepth 20000 in
theorem bX12_person_74 {L : Nat} {xs : Nat → Int32} (d : Nat) (o : Nat) (i1 : Int32) (u2 : Option Value) (ph : PH) : RS (ZZ L xs) (d + 1) mX12_person 74 [some (.ref o), some (.int i1), u2] [] ph = (fR ph (.ref o) 12 6).bind fun x75 => (fR ph x75 6 0).bind fun x78 => (fI ph x78 9 5).bind fun x81 => some (ph, some (.int ((iShr x81 i1) &&& 1))) := by
  refine Eq.trans (q_aload_n dX12_person_74 (show mK mX12_person 74 [some (.ref o), some (.int i1), u2] = [some (.ref o), some (.int i1), none] from rfl) rfl rfl) ?_
  refine Eq.trans (q_getR (ci := 12) (k := 6) dX12_person_75 (mk0 rfl) rfl) (bind_cg2 fun x75 hx75 => ?_)
  have hx75 := fR_isR hx75
  refine Eq.trans (q_getR (ci := 6) (k := 0) dX12_person_78 (mk0 rfl) rfl) (bind_cg2 fun x78 hx78 => ?_)
  have hx78 := fR_isR hx78
  refine Eq.trans (q_getI (ci := 9) (k := 5) dX12_person_81 (mk0 rfl) rfl) (bind_cg fun x81 => ?_)
  refine Eq.trans (q_iload_n dX12_person_84 (mk0 rfl) rfl) ?_
  refine Eq.trans (q_ishr dX12_person_85 (mk0 rfl)) ?_
  refine Eq.trans (q_iconst (v := 1) dX12_person_86 (mk0 rfl) rfl) ?_
  refine Eq.trans (q_iand dX12_person_87 (mk0 rfl)) ?_
  exact q_ireturn dX12_person_88 (mk0 rfl) rfl
set_option maxRecDepth 20000 in
theorem bX12_person_89 {L : Nat} {xs : Nat → Int32} (d : Nat) (o : Nat) (i1 : Int32) (u2 : Option Value) (ph : PH) : RS (ZZ L xs) (d + 1) mX12_person 89 [some (.ref o), some (.int i1), u2] [] ph = (fR ph (.ref o) 12 6).bind fun x90 => (fR ph x90 6 1).bind fun x93 => (fR ph x93 7 6).bind fun x96 => (eI ph x96 i1).bind fun x100 => some (ph, some (.int x100)) := by
  refine Eq.trans (q_aload_n dX12_person_89 (show mK mX12_person 89 [some (.ref o), some (.int i1), u2] = [some (.ref o), some (.int i1), none] from rfl) rfl rfl) ?_
  refine Eq.trans (q_getR (ci := 12) (k := 6) dX12_person_90 (mk0 rfl) rfl) (bind_cg2 fun x90 hx90 => ?_)
  have hx90 := fR_isR hx90
  refine Eq.trans (q_getR (ci := 6) (k := 1) dX12_person_93 (mk0 rfl) rfl) (bind_cg2 fun x93 hx93 => ?_)
  have hx93 := fR_isR hx93
  refine Eq.trans (q_getR (ci := 7) (k := 6) dX12_person_96 (mk0 rfl) rfl) (bind_cg2 fun x96 hx96 => ?_)
  have hx96 := fR_isR hx96
  refine Eq.trans (q_iload_n dX12_person_99 (mk0 rfl) rfl) ?_
  refine Eq.trans (q_iaload dX12_person_100 (mk0 rfl) (no_ext hx96)) (bind_cg fun x100 => ?_)
  exact q_ireturn dX12_person_101 (mk0 rfl) rfl
set_option maxRecDepth 20000 in
theorem bX12_person_102 {L : Nat} {xs : Nat → Int32} (d : Nat) (o : Nat) (i1 : Int32) (u2 : Option Value) (ph : PH) : RS (ZZ L xs) (d + 1) mX12_person 102 [some (.ref o), some (.int i1), u2] [] ph = (fR ph (.ref o) 12 6).bind fun x103 => (fR ph x103 6 1).bind fun x106 => (fR ph x106 7 7).bind fun x109 => (eI ph x109 i1).bind fun x113 => some (ph, some (.int x113)) := by
  refine Eq.trans (q_aload_n dX12_person_102 (show mK mX12_person 102 [some (.ref o), some (.int i1), u2] = [some (.ref o), some (.int i1), none] from rfl) rfl rfl) ?_
  refine Eq.trans (q_getR (ci := 12) (k := 6) dX12_person_103 (mk0 rfl) rfl) (bind_cg2 fun x103 hx103 => ?_)
  have hx103 := fR_isR hx103
  refine Eq.trans (q_getR (ci := 6) (k := 1) dX12_person_106 (mk0 rfl) rfl) (bind_cg2 fun x106 hx106 => ?_)
  have hx106 := fR_isR hx106
  refine Eq.trans (q_getR (ci := 7) (k := 7) dX12_person_109 (mk0 rfl) rfl) (bind_cg2 fun x109 hx109 => ?_)
  have hx109 := fR_isR hx109
  refine Eq.trans (q_iload_n dX12_person_112 (mk0 rfl) rfl) ?_
  refine Eq.trans (q_iaload dX12_person_113 (mk0 rfl) (no_ext hx109)) (bind_cg fun x113 => ?_)
  exact q_ireturn dX12_person_114 (mk0 rfl) rfl
set_option maxRecDepth 20000 in
theorem bX12_person_115 {L : Nat} {xs : Nat → Int32} (d : Nat) (o : Nat) (i1 : Int32) (u2 : Option Value) (ph : PH) : RS (ZZ L xs) (d + 1) mX12_person 115 [some (.ref o), some (.int i1), u2] [] ph = (fR ph (.ref o) 12 6).bind fun x116 => (fR ph x116 6 1).bind fun x119 => (fR ph x119 7 8).bind fun x122 => (eI ph x122 i1).bind fun x126 => some (ph, some (.int x126)) := by
  refine Eq.trans (q_aload_n dX12_person_115 (show mK mX12_person 115 [some (.ref o), some (.int i1), u2] = [some (.ref o), some (.int i1), none] from rfl) rfl rfl) ?_
  refine Eq.trans (q_getR (ci := 12) (k := 6) dX12_person_116 (mk0 rfl) rfl) (bind_cg2 fun x116 hx116 => ?_)
  have hx116 := fR_isR hx116
  refine Eq.trans (q_getR (ci := 6) (k := 1) dX12_person_119 (mk0 rfl) rfl) (bind_cg2 fun x119 hx119 => ?_)
  have hx119 := fR_isR hx119
  refine Eq.trans (q_getR (ci := 7) (k := 8) dX12_person_122 (mk0 rfl) rfl) (bind_cg2 fun x122 hx122 => ?_)
  have hx122 := fR_isR hx122
  refine Eq.trans (q_iload_n dX12_person_125 (mk0 rfl) rfl) ?_
  refine Eq.trans (q_iaload dX12_person_126 (mk0 rfl) (no_ext hx122)) (bind_cg fun x126 => ?_)
  exact q_ireturn dX12_person_127 (mk0 rfl) rfl
set_option maxRecDepth 20000 in
theorem bX12_person_128 {L : Nat} {xs : Nat → Int32} (d : Nat) (u0 : Option Value) (u1 : Option Value) (u2 : Option Value) (ph : PH) : RS (ZZ L xs) (d + 1) mX12_person 128 [u0, u1, u2] [] ph = some (ph, some (.int ((-1)))) := by
  refine Eq.trans (q_iconst (v := (-1)) dX12_person_128 (show mK mX12_person 128 [u0, u1, u2] = [none, none, none] from rfl) rfl) ?_
  exact q_ireturn dX12_person_129 (mk0 rfl) rfl
set_option maxRecDepth 20000 in
theorem bX12_stranger_0 {L : Nat} {xs : Nat → Int32} (d : Nat) (o : Nat) (i1 : Int32) (i2 : Int32) (ph : PH) : RS (ZZ L xs) (d + 1) mX12_stranger 0 [some (.ref o), some (.int i1), some (.int i2)] [] ph = (iO ph (.ref o) 12).bind fun b2 => (cI (ZZ L xs) d mX12_isStranger [.ref b2, .int i1] ph).bind fun p2 => if ¬ (p2.2 : Int32) = 0 then if (i2 : Int32) = 0 then RS (ZZ L xs) (d + 1) mX12_stranger 44 [some (.ref o), some (.int i1), some (.int i2)] [] p2.1 else if (i2 : Int32) = 1 then RS (ZZ L xs) (d + 1) mX12_stranger 57 [some (.ref o), some (.int i1), some (.int i2)] [] p2.1 else if (i2 : Int32) = 2 then RS (ZZ L xs) (d + 1) mX12_stranger 70 [some (.ref o), some (.int i1), some (.int i2)] [] p2.1 else if (i2 : Int32) = 3 then RS (ZZ L xs) (d + 1) mX12_stranger 83 [some (.ref o), some (.int i1), some (.int i2)] [] p2.1 else RS (ZZ L xs) (d + 1) mX12_stranger 96 [some (.ref o), some (.int i1), some (.int i2)] [] p2.1 else some (p2.1, some (.int ((-2)))) := by
  refine Eq.trans (q_aload_n dX12_stranger_0 (mk0 rfl) rfl rfl) ?_
  refine Eq.trans (q_iload_n dX12_stranger_1 (mk0 rfl) rfl) ?_
  refine Eq.trans (q_callV (as := [.int i1]) dX12_stranger_2 (mk0 rfl) rfl rfl rfl (Nat.le_of_ble_eq_true rfl) (Nat.le_of_ble_eq_true rfl)) (bind_cg fun b2 => ?_)
  refine Eq.trans (cI_bind (Or.inr rfl)) (bind_cg fun p2 => ?_)
  show RS (ZZ L xs) (d + 1) mX12_stranger 5 [some (.ref o), some (.int i1), some (.int i2)] [.int p2.2] p2.1 = _
  refine Eq.trans (q_if_ne (t := 11) dX12_stranger_5 (mk0 rfl) rfl) (ite_cg ?_ ?_)
  · refine Eq.trans (q_iload_n dX12_stranger_11 (mk0 rfl) rfl) ?_
    refine Eq.trans (q_tableswitch dX12_stranger_12 (mk0 rfl)) ?_
    generalize (i2 : Int32) = y12
    by_cases hy0 : y12 = 0
    · rw [if_pos hy0, hy0]; rfl
    rw [if_neg hy0]
    by_cases hy1 : y12 = 1
    · rw [if_pos hy1, hy1]; rfl
    rw [if_neg hy1]
    by_cases hy2 : y12 = 2
    · rw [if_pos hy2, hy2]; rfl
    rw [if_neg hy2]
    by_cases hy3 : y12 = 3
    · rw [if_pos hy3, hy3]; rfl
    rw [if_neg hy3]
    have ny0 := i32_ne hy0 (n := 0) rfl
    have ny1 := i32_ne hy1 (n := 1) rfl
    have ny2 := i32_ne hy2 (n := 2) rfl
    have ny3 := i32_ne hy3 (n := 3) rfl
    rw [sw_out (t := 96) (by omega) rfl]
    rfl
  · refine Eq.trans (q_bipush (v := (-2)) dX12_stranger_8 (mk0 rfl) rfl) ?_
    exact q_ireturn dX12_stranger_10 (mk0 rfl) rfl
set_option maxRecDepth 20000 in
theorem bX12_stranger_44 {L : Nat} {xs : Nat → Int32} (d : Nat) (o : Nat) (i1 : Int32) (u2 : Option Value) (ph : PH) : RS (ZZ L xs) (d + 1) mX12_stranger 44 [some (.ref o), some (.int i1), u2] [] ph = (fR ph (.ref o) 12 6).bind fun x45 => (fR ph x45 6 0).bind fun x48 => (fR ph x48 9 8).bind fun x51 => (eI ph x51 i1).bind fun x55 => some (ph, some (.int x55)) := by
  refine Eq.trans (q_aload_n dX12_stranger_44 (show mK mX12_stranger 44 [some (.ref o), some (.int i1), u2] = [some (.ref o), some (.int i1), none] from rfl) rfl rfl) ?_
  refine Eq.trans (q_getR (ci := 12) (k := 6) dX12_stranger_45 (mk0 rfl) rfl) (bind_cg2 fun x45 hx45 => ?_)
  have hx45 := fR_isR hx45
  refine Eq.trans (q_getR (ci := 6) (k := 0) dX12_stranger_48 (mk0 rfl) rfl) (bind_cg2 fun x48 hx48 => ?_)
  have hx48 := fR_isR hx48
  refine Eq.trans (q_getR (ci := 9) (k := 8) dX12_stranger_51 (mk0 rfl) rfl) (bind_cg2 fun x51 hx51 => ?_)
  have hx51 := fR_isR hx51
  refine Eq.trans (q_iload_n dX12_stranger_54 (mk0 rfl) rfl) ?_
  refine Eq.trans (q_iaload dX12_stranger_55 (mk0 rfl) (no_ext hx51)) (bind_cg fun x55 => ?_)
  exact q_ireturn dX12_stranger_56 (mk0 rfl) rfl
set_option maxRecDepth 20000 in
theorem bX12_stranger_57 {L : Nat} {xs : Nat → Int32} (d : Nat) (o : Nat) (i1 : Int32) (u2 : Option Value) (ph : PH) : RS (ZZ L xs) (d + 1) mX12_stranger 57 [some (.ref o), some (.int i1), u2] [] ph = (fR ph (.ref o) 12 6).bind fun x58 => (fR ph x58 6 0).bind fun x61 => (fR ph x61 9 9).bind fun x64 => (eI ph x64 i1).bind fun x68 => some (ph, some (.int x68)) := by
  refine Eq.trans (q_aload_n dX12_stranger_57 (show mK mX12_stranger 57 [some (.ref o), some (.int i1), u2] = [some (.ref o), some (.int i1), none] from rfl) rfl rfl) ?_
  refine Eq.trans (q_getR (ci := 12) (k := 6) dX12_stranger_58 (mk0 rfl) rfl) (bind_cg2 fun x58 hx58 => ?_)
  have hx58 := fR_isR hx58
  refine Eq.trans (q_getR (ci := 6) (k := 0) dX12_stranger_61 (mk0 rfl) rfl) (bind_cg2 fun x61 hx61 => ?_)
  have hx61 := fR_isR hx61
  refine Eq.trans (q_getR (ci := 9) (k := 9) dX12_stranger_64 (mk0 rfl) rfl) (bind_cg2 fun x64 hx64 => ?_)
  have hx64 := fR_isR hx64
  refine Eq.trans (q_iload_n dX12_stranger_67 (mk0 rfl) rfl) ?_
  refine Eq.trans (q_iaload dX12_stranger_68 (mk0 rfl) (no_ext hx64)) (bind_cg fun x68 => ?_)
  exact q_ireturn dX12_stranger_69 (mk0 rfl) rfl
set_option maxRecDepth 20000 in
theorem bX12_stranger_70 {L : Nat} {xs : Nat → Int32} (d : Nat) (o : Nat) (i1 : Int32) (u2 : Option Value) (ph : PH) : RS (ZZ L xs) (d + 1) mX12_stranger 70 [some (.ref o), some (.int i1), u2] [] ph = (fR ph (.ref o) 12 6).bind fun x71 => (fR ph x71 6 0).bind fun x74 => (fR ph x74 9 10).bind fun x77 => (eI ph x77 i1).bind fun x81 => some (ph, some (.int x81)) := by
  refine Eq.trans (q_aload_n dX12_stranger_70 (show mK mX12_stranger 70 [some (.ref o), some (.int i1), u2] = [some (.ref o), some (.int i1), none] from rfl) rfl rfl) ?_
  refine Eq.trans (q_getR (ci := 12) (k := 6) dX12_stranger_71 (mk0 rfl) rfl) (bind_cg2 fun x71 hx71 => ?_)
  have hx71 := fR_isR hx71
  refine Eq.trans (q_getR (ci := 6) (k := 0) dX12_stranger_74 (mk0 rfl) rfl) (bind_cg2 fun x74 hx74 => ?_)
  have hx74 := fR_isR hx74
  refine Eq.trans (q_getR (ci := 9) (k := 10) dX12_stranger_77 (mk0 rfl) rfl) (bind_cg2 fun x77 hx77 => ?_)
  have hx77 := fR_isR hx77
  refine Eq.trans (q_iload_n dX12_stranger_80 (mk0 rfl) rfl) ?_
  refine Eq.trans (q_iaload dX12_stranger_81 (mk0 rfl) (no_ext hx77)) (bind_cg fun x81 => ?_)
  exact q_ireturn dX12_stranger_82 (mk0 rfl) rfl
set_option maxRecDepth 20000 in
theorem bX12_stranger_83 {L : Nat} {xs : Nat → Int32} (d : Nat) (o : Nat) (i1 : Int32) (u2 : Option Value) (ph : PH) : RS (ZZ L xs) (d + 1) mX12_stranger 83 [some (.ref o), some (.int i1), u2] [] ph = (fR ph (.ref o) 12 6).bind fun x84 => (fR ph x84 6 1).bind fun x87 => (fR ph x87 7 9).bind fun x90 => (eI ph x90 i1).bind fun x94 => some (ph, some (.int x94)) := by
  refine Eq.trans (q_aload_n dX12_stranger_83 (show mK mX12_stranger 83 [some (.ref o), some (.int i1), u2] = [some (.ref o), some (.int i1), none] from rfl) rfl rfl) ?_
  refine Eq.trans (q_getR (ci := 12) (k := 6) dX12_stranger_84 (mk0 rfl) rfl) (bind_cg2 fun x84 hx84 => ?_)
  have hx84 := fR_isR hx84
  refine Eq.trans (q_getR (ci := 6) (k := 1) dX12_stranger_87 (mk0 rfl) rfl) (bind_cg2 fun x87 hx87 => ?_)
  have hx87 := fR_isR hx87
  refine Eq.trans (q_getR (ci := 7) (k := 9) dX12_stranger_90 (mk0 rfl) rfl) (bind_cg2 fun x90 hx90 => ?_)
  have hx90 := fR_isR hx90
  refine Eq.trans (q_iload_n dX12_stranger_93 (mk0 rfl) rfl) ?_
  refine Eq.trans (q_iaload dX12_stranger_94 (mk0 rfl) (no_ext hx90)) (bind_cg fun x94 => ?_)
  exact q_ireturn dX12_stranger_95 (mk0 rfl) rfl
set_option maxRecDepth 20000 in
theorem bX12_stranger_96 {L : Nat} {xs : Nat → Int32} (d : Nat) (u0 : Option Value) (u1 : Option Value) (u2 : Option Value) (ph : PH) : RS (ZZ L xs) (d + 1) mX12_stranger 96 [u0, u1, u2] [] ph = some (ph, some (.int ((-2)))) := by
  refine Eq.trans (q_bipush (v := (-2)) dX12_stranger_96 (show mK mX12_stranger 96 [u0, u1, u2] = [none, none, none] from rfl) rfl) ?_
  exact q_ireturn dX12_stranger_98 (mk0 rfl) rfl
set_option maxRecDepth 20000 in
theorem bX12_streets_0 {L : Nat} {xs : Nat → Int32} (d : Nat) (o : Nat) (i1 : Int32) (ph : PH) : RS (ZZ L xs) (d + 1) mX12_streets 0 [some (.ref o), some (.int i1)] [] ph = (iO ph (.ref o) 12).bind fun b2 => (cI (ZZ L xs) d mX12_isPlace [.ref b2, .int i1] ph).bind fun p2 => if (p2.2 : Int32) = 0 then RS (ZZ L xs) (d + 1) mX12_streets 26 [some (.ref o), some (.int i1)] [.int ((-1))] p2.1 else (fR p2.1 (.ref o) 12 6).bind fun x9 => (fR p2.1 x9 6 1).bind fun x12 => (fL p2.1 x12 7 3).bind fun x15 => (cI (ZZ L xs) d mX11_neighbours [.long x15, .int i1] p2.1).bind fun p19 => RS (ZZ L xs) (d + 1) mX12_streets 26 [some (.ref o), some (.int i1)] [.int p19.2] p19.1 := by
  refine Eq.trans (q_aload_n dX12_streets_0 (mk0 rfl) rfl rfl) ?_
  refine Eq.trans (q_iload_n dX12_streets_1 (mk0 rfl) rfl) ?_
  refine Eq.trans (q_callV (as := [.int i1]) dX12_streets_2 (mk0 rfl) rfl rfl rfl (Nat.le_of_ble_eq_true rfl) (Nat.le_of_ble_eq_true rfl)) (bind_cg fun b2 => ?_)
  refine Eq.trans (cI_bind (Or.inr rfl)) (bind_cg fun p2 => ?_)
  show RS (ZZ L xs) (d + 1) mX12_streets 5 [some (.ref o), some (.int i1)] [.int p2.2] p2.1 = _
  refine Eq.trans (q_if_eq (t := 25) dX12_streets_5 (mk0 rfl) rfl) (ite_cg ?_ ?_)
  · refine Eq.trans (q_iconst (v := (-1)) dX12_streets_25 (mk0 rfl) rfl) ?_
    rfl
  · refine Eq.trans (q_aload_n dX12_streets_8 (mk0 rfl) rfl rfl) ?_
    refine Eq.trans (q_getR (ci := 12) (k := 6) dX12_streets_9 (mk0 rfl) rfl) (bind_cg2 fun x9 hx9 => ?_)
    have hx9 := fR_isR hx9
    refine Eq.trans (q_getR (ci := 6) (k := 1) dX12_streets_12 (mk0 rfl) rfl) (bind_cg2 fun x12 hx12 => ?_)
    have hx12 := fR_isR hx12
    refine Eq.trans (q_getL (ci := 7) (k := 3) dX12_streets_15 (mk0 rfl) rfl) (bind_cg fun x15 => ?_)
    refine Eq.trans (q_iload_n dX12_streets_18 (mk0 rfl) rfl) ?_
    refine Eq.trans (q_callS (as := [.long x15, .int i1]) dX12_streets_19 (mk0 rfl) rfl (Or.inl rfl) rfl rfl (Nat.le_of_ble_eq_true rfl) (Nat.le_of_ble_eq_true rfl)) ?_
    refine Eq.trans (cI_bind (Or.inl rfl)) (bind_cg fun p19 => ?_)
    show RS (ZZ L xs) (d + 1) mX12_streets 22 [some (.ref o), some (.int i1)] [.int p19.2] p19.1 = _
    refine Eq.trans (q_goto (t := 26) dX12_streets_22 (mk0 rfl) rfl) ?_
    rfl
set_option maxRecDepth 20000 in
theorem bX12_streets_26 {L : Nat} {xs : Nat → Int32} (d : Nat) (u0 : Option Value) (u1 : Option Value) (t0 : Int32) (ph : PH) : RS (ZZ L xs) (d + 1) mX12_streets 26 [u0, u1] [.int t0] ph = some (ph, some (.int t0)) := by
  exact q_ireturn dX12_streets_26 (show mK mX12_streets 26 [u0, u1] = [none, none] from rfl) rfl
set_option maxRecDepth 20000 in
theorem bX12_before_0 {L : Nat} {xs : Nat → Int32} (d : Nat) (o : Nat) (i1 : Int32) (i2 : Int32) (ph : PH) : RS (ZZ L xs) (d + 1) mX12_before 0 [some (.ref o), some (.int i1), some (.int i2)] [] ph = (iO ph (.ref o) 12).bind fun b2 => (cI (ZZ L xs) d mX12_isStranger [.ref b2, .int i1] ph).bind fun p2 => if (p2.2 : Int32) = 0 then RS (ZZ L xs) (d + 1) mX12_before 16 [some (.ref o), some (.int i1), some (.int i2)] [] p2.1 else (iO p2.1 (.ref o) 12).bind fun b10 => (cI (ZZ L xs) d mX12_isPerson [.ref b10, .int i2] p2.1).bind fun p10 => if ¬ (p10.2 : Int32) = 0 then (fR p10.1 (.ref o) 12 6).bind fun x19 => (fR p10.1 x19 6 1).bind fun x22 => (fR p10.1 x22 7 10).bind fun x25 => (eI p10.1 x25 ((i1 * 6) + i2)).bind fun x34 => some (p10.1, some (.int x34)) else RS (ZZ L xs) (d + 1) mX12_before 16 [some (.ref o), some (.int i1), some (.int i2)] [] p10.1 := by
  refine Eq.trans (q_aload_n dX12_before_0 (mk0 rfl) rfl rfl) ?_
  refine Eq.trans (q_iload_n dX12_before_1 (mk0 rfl) rfl) ?_
  refine Eq.trans (q_callV (as := [.int i1]) dX12_before_2 (mk0 rfl) rfl rfl rfl (Nat.le_of_ble_eq_true rfl) (Nat.le_of_ble_eq_true rfl)) (bind_cg fun b2 => ?_)
  refine Eq.trans (cI_bind (Or.inr rfl)) (bind_cg fun p2 => ?_)
  show RS (ZZ L xs) (d + 1) mX12_before 5 [some (.ref o), some (.int i1), some (.int i2)] [.int p2.2] p2.1 = _
  refine Eq.trans (q_if_eq (t := 16) dX12_before_5 (mk0 rfl) rfl) (ite_cg ?_ ?_)
  · rfl
  · refine Eq.trans (q_aload_n dX12_before_8 (mk0 rfl) rfl rfl) ?_
    refine Eq.trans (q_iload_n dX12_before_9 (mk0 rfl) rfl) ?_
    refine Eq.trans (q_callV (as := [.int i2]) dX12_before_10 (mk0 rfl) rfl rfl rfl (Nat.le_of_ble_eq_true rfl) (Nat.le_of_ble_eq_true rfl)) (bind_cg fun b10 => ?_)
    refine Eq.trans (cI_bind (Or.inr rfl)) (bind_cg fun p10 => ?_)
    show RS (ZZ L xs) (d + 1) mX12_before 13 [some (.ref o), some (.int i1), some (.int i2)] [.int p10.2] p10.1 = _
    refine Eq.trans (q_if_ne (t := 18) dX12_before_13 (mk0 rfl) rfl) (ite_cg ?_ ?_)
    · refine Eq.trans (q_aload_n dX12_before_18 (mk0 rfl) rfl rfl) ?_
      refine Eq.trans (q_getR (ci := 12) (k := 6) dX12_before_19 (mk0 rfl) rfl) (bind_cg2 fun x19 hx19 => ?_)
      have hx19 := fR_isR hx19
      refine Eq.trans (q_getR (ci := 6) (k := 1) dX12_before_22 (mk0 rfl) rfl) (bind_cg2 fun x22 hx22 => ?_)
      have hx22 := fR_isR hx22
      refine Eq.trans (q_getR (ci := 7) (k := 10) dX12_before_25 (mk0 rfl) rfl) (bind_cg2 fun x25 hx25 => ?_)
      have hx25 := fR_isR hx25
      refine Eq.trans (q_iload_n dX12_before_28 (mk0 rfl) rfl) ?_
      refine Eq.trans (q_bipush (v := 6) dX12_before_29 (mk0 rfl) rfl) ?_
      refine Eq.trans (q_imul dX12_before_31 (mk0 rfl)) ?_
      refine Eq.trans (q_iload_n dX12_before_32 (mk0 rfl) rfl) ?_
      refine Eq.trans (q_iadd dX12_before_33 (mk0 rfl)) ?_
      refine Eq.trans (q_iaload dX12_before_34 (mk0 rfl) (no_ext hx25)) (bind_cg fun x34 => ?_)
      exact q_ireturn dX12_before_35 (mk0 rfl) rfl
    · rfl
set_option maxRecDepth 20000 in
theorem bX12_before_16 {L : Nat} {xs : Nat → Int32} (d : Nat) (u0 : Option Value) (u1 : Option Value) (u2 : Option Value) (ph : PH) : RS (ZZ L xs) (d + 1) mX12_before 16 [u0, u1, u2] [] ph = some (ph, some (.int ((-1)))) := by
  refine Eq.trans (q_iconst (v := (-1)) dX12_before_16 (show mK mX12_before 16 [u0, u1, u2] = [none, none, none] from rfl) rfl) ?_
  exact q_ireturn dX12_before_17 (mk0 rfl) rfl
set_option maxRecDepth 20000 in
theorem bX12_hour_0 {L : Nat} {xs : Nat → Int32} (d : Nat) (o : Nat) (ph : PH) : RS (ZZ L xs) (d + 1) mX12_hour 0 [some (.ref o)] [] ph = (iO ph (.ref o) 12).bind fun b1 => (cI (ZZ L xs) d mX12_hasTown [.ref b1] ph).bind fun p1 => if (p1.2 : Int32) = 0 then RS (ZZ L xs) (d + 1) mX12_hour 23 [some (.ref o)] [] p1.1 else (fR p1.1 (.ref o) 12 6).bind fun x8 => (fR p1.1 x8 6 1).bind fun x11 => (fI p1.1 x11 7 0).bind fun x14 => if (x14 : Int32) < 999 then (fR p1.1 (.ref o) 12 6).bind fun x26 => (fR p1.1 x26 6 2).bind fun x29 => (fR p1.1 (.ref o) 12 6).bind fun x33 => (fR p1.1 x33 6 1).bind fun x36 => (iO p1.1 x29 3).bind fun b39 => (cV (ZZ L xs) d mX3_push [.ref b39, x36] p1.1).bind fun p39 => (iO p39 (.ref o) 12).bind fun b43 => (cV (ZZ L xs) d mX12_windClock [.ref b43] p39).bind fun p43 => (fR p43 (.ref o) 12 8).bind fun x47 => (fR p43 (.ref o) 12 6).bind fun x51 => (fR p43 x51 6 1).bind fun x54 => (iO p43 x47 0).bind fun b57 => (cI (ZZ L xs) d mX0_pass [.ref b57, x54] p43).bind fun p57 => some (p57.1, some (.int p57.2)) else RS (ZZ L xs) (d + 1) mX12_hour 23 [some (.ref o)] [] p1.1 := by
  refine Eq.trans (q_aload_n dX12_hour_0 (mk0 rfl) rfl rfl) ?_
  refine Eq.trans (q_callV (as := []) dX12_hour_1 (mk0 rfl) rfl rfl rfl (Nat.le_of_ble_eq_true rfl) (Nat.le_of_ble_eq_true rfl)) (bind_cg fun b1 => ?_)
  refine Eq.trans (cI_bind (Or.inr rfl)) (bind_cg fun p1 => ?_)
  show RS (ZZ L xs) (d + 1) mX12_hour 4 [some (.ref o)] [.int p1.2] p1.1 = _
  refine Eq.trans (q_if_eq (t := 23) dX12_hour_4 (mk0 rfl) rfl) (ite_cg ?_ ?_)
  · rfl
  · refine Eq.trans (q_aload_n dX12_hour_7 (mk0 rfl) rfl rfl) ?_
    refine Eq.trans (q_getR (ci := 12) (k := 6) dX12_hour_8 (mk0 rfl) rfl) (bind_cg2 fun x8 hx8 => ?_)
    have hx8 := fR_isR hx8
    refine Eq.trans (q_getR (ci := 6) (k := 1) dX12_hour_11 (mk0 rfl) rfl) (bind_cg2 fun x11 hx11 => ?_)
    have hx11 := fR_isR hx11
    refine Eq.trans (q_getI (ci := 7) (k := 0) dX12_hour_14 (mk0 rfl) rfl) (bind_cg fun x14 => ?_)
    refine Eq.trans (q_sipush (v := 999) dX12_hour_17 (mk0 rfl) rfl) ?_
    refine Eq.trans (q_icmp_lt (t := 25) dX12_hour_20 (mk0 rfl) rfl) (ite_cg ?_ ?_)
    · refine Eq.trans (q_aload_n dX12_hour_25 (mk0 rfl) rfl rfl) ?_
      refine Eq.trans (q_getR (ci := 12) (k := 6) dX12_hour_26 (mk0 rfl) rfl) (bind_cg2 fun x26 hx26 => ?_)
      have hx26 := fR_isR hx26
      refine Eq.trans (q_getR (ci := 6) (k := 2) dX12_hour_29 (mk0 rfl) rfl) (bind_cg2 fun x29 hx29 => ?_)
      have hx29 := fR_isR hx29
      refine Eq.trans (q_aload_n dX12_hour_32 (mk0 rfl) rfl rfl) ?_
      refine Eq.trans (q_getR (ci := 12) (k := 6) dX12_hour_33 (mk0 rfl) rfl) (bind_cg2 fun x33 hx33 => ?_)
      have hx33 := fR_isR hx33
      refine Eq.trans (q_getR (ci := 6) (k := 1) dX12_hour_36 (mk0 rfl) rfl) (bind_cg2 fun x36 hx36 => ?_)
      have hx36 := fR_isR hx36
      refine Eq.trans (q_callV (as := [x36]) dX12_hour_39 (mk0 rfl) rfl rfl rfl (Nat.le_of_ble_eq_true rfl) (by simp [eA, ct_i, ct_l, ct_r, ct_n, ct_x, mX3_push, (cat_R hx36)])) (bind_cg fun b39 => ?_)
      refine Eq.trans (cV_bind rfl) (bind_cg fun p39 => ?_)
      show RS (ZZ L xs) (d + 1) mX12_hour 42 [some (.ref o)] [] p39 = _
      refine Eq.trans (q_aload_n dX12_hour_42 (mk0 rfl) rfl rfl) ?_
      refine Eq.trans (q_callV (as := []) dX12_hour_43 (mk0 rfl) rfl rfl rfl (Nat.le_of_ble_eq_true rfl) (Nat.le_of_ble_eq_true rfl)) (bind_cg fun b43 => ?_)
      refine Eq.trans (cV_bind rfl) (bind_cg fun p43 => ?_)
      show RS (ZZ L xs) (d + 1) mX12_hour 46 [some (.ref o)] [] p43 = _
      refine Eq.trans (q_aload_n dX12_hour_46 (mk0 rfl) rfl rfl) ?_
      refine Eq.trans (q_getR (ci := 12) (k := 8) dX12_hour_47 (mk0 rfl) rfl) (bind_cg2 fun x47 hx47 => ?_)
      have hx47 := fR_isR hx47
      refine Eq.trans (q_aload_n dX12_hour_50 (mk0 rfl) rfl rfl) ?_
      refine Eq.trans (q_getR (ci := 12) (k := 6) dX12_hour_51 (mk0 rfl) rfl) (bind_cg2 fun x51 hx51 => ?_)
      have hx51 := fR_isR hx51
      refine Eq.trans (q_getR (ci := 6) (k := 1) dX12_hour_54 (mk0 rfl) rfl) (bind_cg2 fun x54 hx54 => ?_)
      have hx54 := fR_isR hx54
      refine Eq.trans (q_callV (as := [x54]) dX12_hour_57 (mk0 rfl) rfl rfl rfl (Nat.le_of_ble_eq_true rfl) (by simp [eA, ct_i, ct_l, ct_r, ct_n, ct_x, mX0_pass, (cat_R hx54)])) (bind_cg fun b57 => ?_)
      refine Eq.trans (cI_bind (Or.inl rfl)) (bind_cg fun p57 => ?_)
      show RS (ZZ L xs) (d + 1) mX12_hour 60 [some (.ref o)] [.int p57.2] p57.1 = _
      exact q_ireturn dX12_hour_60 (mk0 rfl) rfl
    · rfl
set_option maxRecDepth 20000 in
theorem bX12_hour_23 {L : Nat} {xs : Nat → Int32} (d : Nat) (u0 : Option Value) (ph : PH) : RS (ZZ L xs) (d + 1) mX12_hour 23 [u0] [] ph = some (ph, some (.int ((-1)))) := by
  refine Eq.trans (q_iconst (v := (-1)) dX12_hour_23 (show mK mX12_hour 23 [u0] = [none] from rfl) rfl) ?_
  exact q_ireturn dX12_hour_24 (mk0 rfl) rfl
set_option maxRecDepth 20000 in
theorem bX12_stand_0 {L : Nat} {xs : Nat → Int32} (d : Nat) (o : Nat) (i1 : Int32) (i2 : Int32) (ph : PH) : RS (ZZ L xs) (d + 1) mX12_stand 0 [some (.ref o), some (.int i1), some (.int i2), none] [] ph = (iO ph (.ref o) 12).bind fun b2 => (cI (ZZ L xs) d mX12_isPerson [.ref b2, .int i1] ph).bind fun p2 => if (p2.2 : Int32) = 0 then RS (ZZ L xs) (d + 1) mX12_stand 32 [some (.ref o), some (.int i1), some (.int i2), none] [] p2.1 else (iO p2.1 (.ref o) 12).bind fun b10 => (cI (ZZ L xs) d mX12_isPlace [.ref b10, .int i2] p2.1).bind fun p10 => if (p10.2 : Int32) = 0 then RS (ZZ L xs) (d + 1) mX12_stand 32 [some (.ref o), some (.int i1), some (.int i2), none] [] p10.1 else (fR p10.1 (.ref o) 12 6).bind fun x17 => (fR p10.1 x17 6 1).bind fun x20 => (fR p10.1 x20 7 4).bind fun x23 => (eI p10.1 x23 i1).bind fun x27 => if ¬ (x27 : Int32) = i2 then (fR p10.1 (.ref o) 12 6).bind fun x35 => (fR p10.1 x35 6 2).bind fun x38 => (fR p10.1 (.ref o) 12 6).bind fun x42 => (fR p10.1 x42 6 1).bind fun x45 => (iO p10.1 x38 3).bind fun b48 => (cV (ZZ L xs) d mX3_push [.ref b48, x45] p10.1).bind fun p48 => (fR p48 (.ref o) 12 6).bind fun x52 => (fR p48 x52 6 1).bind fun x55 => (fR p48 x55 7 4).bind fun x58 => (eI p48 x58 i1).bind fun x62 => (fR p48 (.ref o) 12 6).bind fun x65 => (fR p48 x65 6 1).bind fun x68 => (fR p48 x68 7 4).bind fun x71 => (wI p48 x71 i1 i2).bind fun h76 => some (h76, some (.int x62)) else RS (ZZ L xs) (d + 1) mX12_stand 32 [some (.ref o), some (.int i1), some (.int i2), none] [] p10.1 := by
  refine Eq.trans (q_aload_n dX12_stand_0 (mk0 rfl) rfl rfl) ?_
  refine Eq.trans (q_iload_n dX12_stand_1 (mk0 rfl) rfl) ?_
  refine Eq.trans (q_callV (as := [.int i1]) dX12_stand_2 (mk0 rfl) rfl rfl rfl (Nat.le_of_ble_eq_true rfl) (Nat.le_of_ble_eq_true rfl)) (bind_cg fun b2 => ?_)
  refine Eq.trans (cI_bind (Or.inr rfl)) (bind_cg fun p2 => ?_)
  show RS (ZZ L xs) (d + 1) mX12_stand 5 [some (.ref o), some (.int i1), some (.int i2), none] [.int p2.2] p2.1 = _
  refine Eq.trans (q_if_eq (t := 32) dX12_stand_5 (mk0 rfl) rfl) (ite_cg ?_ ?_)
  · rfl
  · refine Eq.trans (q_aload_n dX12_stand_8 (mk0 rfl) rfl rfl) ?_
    refine Eq.trans (q_iload_n dX12_stand_9 (mk0 rfl) rfl) ?_
    refine Eq.trans (q_callV (as := [.int i2]) dX12_stand_10 (mk0 rfl) rfl rfl rfl (Nat.le_of_ble_eq_true rfl) (Nat.le_of_ble_eq_true rfl)) (bind_cg fun b10 => ?_)
    refine Eq.trans (cI_bind (Or.inr rfl)) (bind_cg fun p10 => ?_)
    show RS (ZZ L xs) (d + 1) mX12_stand 13 [some (.ref o), some (.int i1), some (.int i2), none] [.int p10.2] p10.1 = _
    refine Eq.trans (q_if_eq (t := 32) dX12_stand_13 (mk0 rfl) rfl) (ite_cg ?_ ?_)
    · rfl
    · refine Eq.trans (q_aload_n dX12_stand_16 (mk0 rfl) rfl rfl) ?_
      refine Eq.trans (q_getR (ci := 12) (k := 6) dX12_stand_17 (mk0 rfl) rfl) (bind_cg2 fun x17 hx17 => ?_)
      have hx17 := fR_isR hx17
      refine Eq.trans (q_getR (ci := 6) (k := 1) dX12_stand_20 (mk0 rfl) rfl) (bind_cg2 fun x20 hx20 => ?_)
      have hx20 := fR_isR hx20
      refine Eq.trans (q_getR (ci := 7) (k := 4) dX12_stand_23 (mk0 rfl) rfl) (bind_cg2 fun x23 hx23 => ?_)
      have hx23 := fR_isR hx23
      refine Eq.trans (q_iload_n dX12_stand_26 (mk0 rfl) rfl) ?_
      refine Eq.trans (q_iaload dX12_stand_27 (mk0 rfl) (no_ext hx23)) (bind_cg fun x27 => ?_)
      refine Eq.trans (q_iload_n dX12_stand_28 (mk0 rfl) rfl) ?_
      refine Eq.trans (q_icmp_ne (t := 34) dX12_stand_29 (mk0 rfl) rfl) (ite_cg ?_ ?_)
      · refine Eq.trans (q_aload_n dX12_stand_34 (mk0 rfl) rfl rfl) ?_
        refine Eq.trans (q_getR (ci := 12) (k := 6) dX12_stand_35 (mk0 rfl) rfl) (bind_cg2 fun x35 hx35 => ?_)
        have hx35 := fR_isR hx35
        refine Eq.trans (q_getR (ci := 6) (k := 2) dX12_stand_38 (mk0 rfl) rfl) (bind_cg2 fun x38 hx38 => ?_)
        have hx38 := fR_isR hx38
        refine Eq.trans (q_aload_n dX12_stand_41 (mk0 rfl) rfl rfl) ?_
        refine Eq.trans (q_getR (ci := 12) (k := 6) dX12_stand_42 (mk0 rfl) rfl) (bind_cg2 fun x42 hx42 => ?_)
        have hx42 := fR_isR hx42
        refine Eq.trans (q_getR (ci := 6) (k := 1) dX12_stand_45 (mk0 rfl) rfl) (bind_cg2 fun x45 hx45 => ?_)
        have hx45 := fR_isR hx45
        refine Eq.trans (q_callV (as := [x45]) dX12_stand_48 (mk0 rfl) rfl rfl rfl (Nat.le_of_ble_eq_true rfl) (by simp [eA, ct_i, ct_l, ct_r, ct_n, ct_x, mX3_push, (cat_R hx45)])) (bind_cg fun b48 => ?_)
        refine Eq.trans (cV_bind rfl) (bind_cg fun p48 => ?_)
        show RS (ZZ L xs) (d + 1) mX12_stand 51 [some (.ref o), some (.int i1), some (.int i2), none] [] p48 = _
        refine Eq.trans (q_aload_n dX12_stand_51 (mk0 rfl) rfl rfl) ?_
        refine Eq.trans (q_getR (ci := 12) (k := 6) dX12_stand_52 (mk0 rfl) rfl) (bind_cg2 fun x52 hx52 => ?_)
        have hx52 := fR_isR hx52
        refine Eq.trans (q_getR (ci := 6) (k := 1) dX12_stand_55 (mk0 rfl) rfl) (bind_cg2 fun x55 hx55 => ?_)
        have hx55 := fR_isR hx55
        refine Eq.trans (q_getR (ci := 7) (k := 4) dX12_stand_58 (mk0 rfl) rfl) (bind_cg2 fun x58 hx58 => ?_)
        have hx58 := fR_isR hx58
        refine Eq.trans (q_iload_n dX12_stand_61 (mk0 rfl) rfl) ?_
        refine Eq.trans (q_iaload dX12_stand_62 (mk0 rfl) (no_ext hx58)) (bind_cg fun x62 => ?_)
        refine Eq.trans (q_istore_n (lv2 := [some (.ref o), some (.int i1), some (.int i2), some (.int x62)]) dX12_stand_63 (mk0 rfl) (Nat.le_of_ble_eq_true rfl) rfl) ?_
        refine Eq.trans (q_aload_n dX12_stand_64 (mk0 rfl) rfl rfl) ?_
        refine Eq.trans (q_getR (ci := 12) (k := 6) dX12_stand_65 (mk0 rfl) rfl) (bind_cg2 fun x65 hx65 => ?_)
        have hx65 := fR_isR hx65
        refine Eq.trans (q_getR (ci := 6) (k := 1) dX12_stand_68 (mk0 rfl) rfl) (bind_cg2 fun x68 hx68 => ?_)
        have hx68 := fR_isR hx68
        refine Eq.trans (q_getR (ci := 7) (k := 4) dX12_stand_71 (mk0 rfl) rfl) (bind_cg2 fun x71 hx71 => ?_)
        have hx71 := fR_isR hx71
        refine Eq.trans (q_iload_n dX12_stand_74 (mk0 rfl) rfl) ?_
        refine Eq.trans (q_iload_n dX12_stand_75 (mk0 rfl) rfl) ?_
        refine Eq.trans (q_iastore dX12_stand_76 (mk0 rfl)) (bind_cg fun h76 => ?_)
        refine Eq.trans (q_iload_n dX12_stand_77 (mk0 rfl) rfl) ?_
        exact q_ireturn dX12_stand_78 (mk0 rfl) rfl
      · rfl
set_option maxRecDepth 20000 in
theorem bX12_stand_32 {L : Nat} {xs : Nat → Int32} (d : Nat) (u0 : Option Value) (u1 : Option Value) (u2 : Option Value) (u3 : Option Value) (ph : PH) : RS (ZZ L xs) (d + 1) mX12_stand 32 [u0, u1, u2, u3] [] ph = some (ph, some (.int ((-1)))) := by
  refine Eq.trans (q_iconst (v := (-1)) dX12_stand_32 (show mK mX12_stand 32 [u0, u1, u2, u3] = [none, none, none, none] from rfl) rfl) ?_
  exact q_ireturn dX12_stand_33 (mk0 rfl) rfl
set_option maxRecDepth 20000 in
theorem bX12_collar_0 {L : Nat} {xs : Nat → Int32} (d : Nat) (o : Nat) (i1 : Int32) (i2 : Int32) (ph : PH) : RS (ZZ L xs) (d + 1) mX12_collar 0 [some (.ref o), some (.int i1), some (.int i2), none] [] ph = (iO ph (.ref o) 12).bind fun b2 => (cI (ZZ L xs) d mX12_isPerson [.ref b2, .int i1] ph).bind fun p2 => if (p2.2 : Int32) = 0 then RS (ZZ L xs) (d + 1) mX12_collar 34 [some (.ref o), some (.int i1), some (.int i2), none] [] p2.1 else (cI (ZZ L xs) d mX12_within [.int i2, .int 0, .int 9] p2.1).bind fun p12 => if (p12.2 : Int32) = 0 then RS (ZZ L xs) (d + 1) mX12_collar 34 [some (.ref o), some (.int i1), some (.int i2), none] [] p12.1 else (fR p12.1 (.ref o) 12 6).bind fun x19 => (fR p12.1 x19 6 1).bind fun x22 => (fR p12.1 x22 7 5).bind fun x25 => (eI p12.1 x25 i1).bind fun x29 => if ¬ (x29 : Int32) = i2 then (fR p12.1 (.ref o) 12 6).bind fun x37 => (fR p12.1 x37 6 2).bind fun x40 => (fR p12.1 (.ref o) 12 6).bind fun x44 => (fR p12.1 x44 6 1).bind fun x47 => (iO p12.1 x40 3).bind fun b50 => (cV (ZZ L xs) d mX3_push [.ref b50, x47] p12.1).bind fun p50 => (fR p50 (.ref o) 12 6).bind fun x54 => (fR p50 x54 6 1).bind fun x57 => (fR p50 x57 7 5).bind fun x60 => (eI p50 x60 i1).bind fun x64 => (fR p50 (.ref o) 12 6).bind fun x67 => (fR p50 x67 6 1).bind fun x70 => (fR p50 x70 7 5).bind fun x73 => (wI p50 x73 i1 i2).bind fun h78 => some (h78, some (.int x64)) else RS (ZZ L xs) (d + 1) mX12_collar 34 [some (.ref o), some (.int i1), some (.int i2), none] [] p12.1 := by
  refine Eq.trans (q_aload_n dX12_collar_0 (mk0 rfl) rfl rfl) ?_
  refine Eq.trans (q_iload_n dX12_collar_1 (mk0 rfl) rfl) ?_
  refine Eq.trans (q_callV (as := [.int i1]) dX12_collar_2 (mk0 rfl) rfl rfl rfl (Nat.le_of_ble_eq_true rfl) (Nat.le_of_ble_eq_true rfl)) (bind_cg fun b2 => ?_)
  refine Eq.trans (cI_bind (Or.inr rfl)) (bind_cg fun p2 => ?_)
  show RS (ZZ L xs) (d + 1) mX12_collar 5 [some (.ref o), some (.int i1), some (.int i2), none] [.int p2.2] p2.1 = _
  refine Eq.trans (q_if_eq (t := 34) dX12_collar_5 (mk0 rfl) rfl) (ite_cg ?_ ?_)
  · rfl
  · refine Eq.trans (q_iload_n dX12_collar_8 (mk0 rfl) rfl) ?_
    refine Eq.trans (q_iconst (v := 0) dX12_collar_9 (mk0 rfl) rfl) ?_
    refine Eq.trans (q_bipush (v := 9) dX12_collar_10 (mk0 rfl) rfl) ?_
    refine Eq.trans (q_callS (as := [.int i2, .int 0, .int 9]) dX12_collar_12 (mk0 rfl) rfl (Or.inl rfl) rfl rfl (Nat.le_of_ble_eq_true rfl) (Nat.le_of_ble_eq_true rfl)) ?_
    refine Eq.trans (cI_bind (Or.inr rfl)) (bind_cg fun p12 => ?_)
    show RS (ZZ L xs) (d + 1) mX12_collar 15 [some (.ref o), some (.int i1), some (.int i2), none] [.int p12.2] p12.1 = _
    refine Eq.trans (q_if_eq (t := 34) dX12_collar_15 (mk0 rfl) rfl) (ite_cg ?_ ?_)
    · rfl
    · refine Eq.trans (q_aload_n dX12_collar_18 (mk0 rfl) rfl rfl) ?_
      refine Eq.trans (q_getR (ci := 12) (k := 6) dX12_collar_19 (mk0 rfl) rfl) (bind_cg2 fun x19 hx19 => ?_)
      have hx19 := fR_isR hx19
      refine Eq.trans (q_getR (ci := 6) (k := 1) dX12_collar_22 (mk0 rfl) rfl) (bind_cg2 fun x22 hx22 => ?_)
      have hx22 := fR_isR hx22
      refine Eq.trans (q_getR (ci := 7) (k := 5) dX12_collar_25 (mk0 rfl) rfl) (bind_cg2 fun x25 hx25 => ?_)
      have hx25 := fR_isR hx25
      refine Eq.trans (q_iload_n dX12_collar_28 (mk0 rfl) rfl) ?_
      refine Eq.trans (q_iaload dX12_collar_29 (mk0 rfl) (no_ext hx25)) (bind_cg fun x29 => ?_)
      refine Eq.trans (q_iload_n dX12_collar_30 (mk0 rfl) rfl) ?_
      refine Eq.trans (q_icmp_ne (t := 36) dX12_collar_31 (mk0 rfl) rfl) (ite_cg ?_ ?_)
      · refine Eq.trans (q_aload_n dX12_collar_36 (mk0 rfl) rfl rfl) ?_
        refine Eq.trans (q_getR (ci := 12) (k := 6) dX12_collar_37 (mk0 rfl) rfl) (bind_cg2 fun x37 hx37 => ?_)
        have hx37 := fR_isR hx37
        refine Eq.trans (q_getR (ci := 6) (k := 2) dX12_collar_40 (mk0 rfl) rfl) (bind_cg2 fun x40 hx40 => ?_)
        have hx40 := fR_isR hx40
        refine Eq.trans (q_aload_n dX12_collar_43 (mk0 rfl) rfl rfl) ?_
        refine Eq.trans (q_getR (ci := 12) (k := 6) dX12_collar_44 (mk0 rfl) rfl) (bind_cg2 fun x44 hx44 => ?_)
        have hx44 := fR_isR hx44
        refine Eq.trans (q_getR (ci := 6) (k := 1) dX12_collar_47 (mk0 rfl) rfl) (bind_cg2 fun x47 hx47 => ?_)
        have hx47 := fR_isR hx47
        refine Eq.trans (q_callV (as := [x47]) dX12_collar_50 (mk0 rfl) rfl rfl rfl (Nat.le_of_ble_eq_true rfl) (by simp [eA, ct_i, ct_l, ct_r, ct_n, ct_x, mX3_push, (cat_R hx47)])) (bind_cg fun b50 => ?_)
        refine Eq.trans (cV_bind rfl) (bind_cg fun p50 => ?_)
        show RS (ZZ L xs) (d + 1) mX12_collar 53 [some (.ref o), some (.int i1), some (.int i2), none] [] p50 = _
        refine Eq.trans (q_aload_n dX12_collar_53 (mk0 rfl) rfl rfl) ?_
        refine Eq.trans (q_getR (ci := 12) (k := 6) dX12_collar_54 (mk0 rfl) rfl) (bind_cg2 fun x54 hx54 => ?_)
        have hx54 := fR_isR hx54
        refine Eq.trans (q_getR (ci := 6) (k := 1) dX12_collar_57 (mk0 rfl) rfl) (bind_cg2 fun x57 hx57 => ?_)
        have hx57 := fR_isR hx57
        refine Eq.trans (q_getR (ci := 7) (k := 5) dX12_collar_60 (mk0 rfl) rfl) (bind_cg2 fun x60 hx60 => ?_)
        have hx60 := fR_isR hx60
        refine Eq.trans (q_iload_n dX12_collar_63 (mk0 rfl) rfl) ?_
        refine Eq.trans (q_iaload dX12_collar_64 (mk0 rfl) (no_ext hx60)) (bind_cg fun x64 => ?_)
        refine Eq.trans (q_istore_n (lv2 := [some (.ref o), some (.int i1), some (.int i2), some (.int x64)]) dX12_collar_65 (mk0 rfl) (Nat.le_of_ble_eq_true rfl) rfl) ?_
        refine Eq.trans (q_aload_n dX12_collar_66 (mk0 rfl) rfl rfl) ?_
        refine Eq.trans (q_getR (ci := 12) (k := 6) dX12_collar_67 (mk0 rfl) rfl) (bind_cg2 fun x67 hx67 => ?_)
        have hx67 := fR_isR hx67
        refine Eq.trans (q_getR (ci := 6) (k := 1) dX12_collar_70 (mk0 rfl) rfl) (bind_cg2 fun x70 hx70 => ?_)
        have hx70 := fR_isR hx70
        refine Eq.trans (q_getR (ci := 7) (k := 5) dX12_collar_73 (mk0 rfl) rfl) (bind_cg2 fun x73 hx73 => ?_)
        have hx73 := fR_isR hx73
        refine Eq.trans (q_iload_n dX12_collar_76 (mk0 rfl) rfl) ?_
        refine Eq.trans (q_iload_n dX12_collar_77 (mk0 rfl) rfl) ?_
        refine Eq.trans (q_iastore dX12_collar_78 (mk0 rfl)) (bind_cg fun h78 => ?_)
        refine Eq.trans (q_iload_n dX12_collar_79 (mk0 rfl) rfl) ?_
        exact q_ireturn dX12_collar_80 (mk0 rfl) rfl
      · rfl
set_option maxRecDepth 20000 in
theorem bX12_collar_34 {L : Nat} {xs : Nat → Int32} (d : Nat) (u0 : Option Value) (u1 : Option Value) (u2 : Option Value) (u3 : Option Value) (ph : PH) : RS (ZZ L xs) (d + 1) mX12_collar 34 [u0, u1, u2, u3] [] ph = some (ph, some (.int ((-1)))) := by
  refine Eq.trans (q_iconst (v := (-1)) dX12_collar_34 (show mK mX12_collar 34 [u0, u1, u2, u3] = [none, none, none, none] from rfl) rfl) ?_
  exact q_ireturn dX12_collar_35 (mk0 rfl) rfl
set_option maxRecDepth 20000 in
theorem bX12_shut_0 {L : Nat} {xs : Nat → Int32} (d : Nat) (o : Nat) (i1 : Int32) (i2 : Int32) (ph : PH) : RS (ZZ L xs) (d + 1) mX12_shut 0 [some (.ref o), some (.int i1), some (.int i2), none, none] [] ph = (iO ph (.ref o) 12).bind fun b2 => (cI (ZZ L xs) d mX12_isPlace [.ref b2, .int i1] ph).bind fun p2 => if (p2.2 : Int32) = 0 then RS (ZZ L xs) (d + 1) mX12_shut 16 [some (.ref o), some (.int i1), some (.int i2), none, none] [] p2.1 else (iO p2.1 (.ref o) 12).bind fun b10 => (cI (ZZ L xs) d mX12_isPlace [.ref b10, .int i2] p2.1).bind fun p10 => if ¬ (p10.2 : Int32) = 0 then (cJ (ZZ L xs) d mX11_street [.int i1, .int i2] p10.1).bind fun p20 => (fR p20.1 (.ref o) 12 6).bind fun x25 => (fR p20.1 x25 6 0).bind fun x28 => (fL p20.1 x28 9 4).bind fun x31 => if ¬ (lg_cmp (x31 &&& p20.2) 0 : Int32) = 0 then (fR p20.1 (.ref o) 12 6).bind fun x44 => (fR p20.1 x44 6 2).bind fun x47 => (fR p20.1 (.ref o) 12 6).bind fun x51 => (fR p20.1 x51 6 1).bind fun x54 => (iO p20.1 x47 3).bind fun b57 => (cV (ZZ L xs) d mX3_push [.ref b57, x54] p20.1).bind fun p57 => (fR p57 (.ref o) 12 6).bind fun x61 => (fR p57 x61 6 1).bind fun x64 => (fL p57 x64 7 3).bind fun x68 => (fP p57 x64 7 3 (.long (x68 ^^^ p20.2))).bind fun h73 => (fR h73 (.ref o) 12 6).bind fun x77 => (fR h73 x77 6 1).bind fun x80 => (fL h73 x80 7 3).bind fun x83 => if ¬ (lg_cmp (x83 &&& p20.2) 0 : Int32) = 0 then RS (ZZ L xs) (d + 1) mX12_shut 98 [some (.ref o), some (.int i1), some (.int i2), some (.long p20.2), none] [.int 0] h73 else RS (ZZ L xs) (d + 1) mX12_shut 98 [some (.ref o), some (.int i1), some (.int i2), some (.long p20.2), none] [.int 1] h73 else some (p20.1, some (.int ((-1)))) else RS (ZZ L xs) (d + 1) mX12_shut 16 [some (.ref o), some (.int i1), some (.int i2), none, none] [] p10.1 := by
  refine Eq.trans (q_aload_n dX12_shut_0 (mk0 rfl) rfl rfl) ?_
  refine Eq.trans (q_iload_n dX12_shut_1 (mk0 rfl) rfl) ?_
  refine Eq.trans (q_callV (as := [.int i1]) dX12_shut_2 (mk0 rfl) rfl rfl rfl (Nat.le_of_ble_eq_true rfl) (Nat.le_of_ble_eq_true rfl)) (bind_cg fun b2 => ?_)
  refine Eq.trans (cI_bind (Or.inr rfl)) (bind_cg fun p2 => ?_)
  show RS (ZZ L xs) (d + 1) mX12_shut 5 [some (.ref o), some (.int i1), some (.int i2), none, none] [.int p2.2] p2.1 = _
  refine Eq.trans (q_if_eq (t := 16) dX12_shut_5 (mk0 rfl) rfl) (ite_cg ?_ ?_)
  · rfl
  · refine Eq.trans (q_aload_n dX12_shut_8 (mk0 rfl) rfl rfl) ?_
    refine Eq.trans (q_iload_n dX12_shut_9 (mk0 rfl) rfl) ?_
    refine Eq.trans (q_callV (as := [.int i2]) dX12_shut_10 (mk0 rfl) rfl rfl rfl (Nat.le_of_ble_eq_true rfl) (Nat.le_of_ble_eq_true rfl)) (bind_cg fun b10 => ?_)
    refine Eq.trans (cI_bind (Or.inr rfl)) (bind_cg fun p10 => ?_)
    show RS (ZZ L xs) (d + 1) mX12_shut 13 [some (.ref o), some (.int i1), some (.int i2), none, none] [.int p10.2] p10.1 = _
    refine Eq.trans (q_if_ne (t := 18) dX12_shut_13 (mk0 rfl) rfl) (ite_cg ?_ ?_)
    · refine Eq.trans (q_iload_n dX12_shut_18 (mk0 rfl) rfl) ?_
      refine Eq.trans (q_iload_n dX12_shut_19 (mk0 rfl) rfl) ?_
      refine Eq.trans (q_callS (as := [.int i1, .int i2]) dX12_shut_20 (mk0 rfl) rfl (Or.inl rfl) rfl rfl (Nat.le_of_ble_eq_true rfl) (Nat.le_of_ble_eq_true rfl)) ?_
      refine Eq.trans (cJ_bind rfl) (bind_cg fun p20 => ?_)
      show RS (ZZ L xs) (d + 1) mX12_shut 23 [some (.ref o), some (.int i1), some (.int i2), none, none] [.long p20.2] p20.1 = _
      refine Eq.trans (q_lstore_n (lv2 := [some (.ref o), some (.int i1), some (.int i2), some (.long p20.2), none]) dX12_shut_23 (mk0 rfl) (Nat.le_of_ble_eq_true rfl) rfl) ?_
      refine Eq.trans (q_aload_n dX12_shut_24 (mk0 rfl) rfl rfl) ?_
      refine Eq.trans (q_getR (ci := 12) (k := 6) dX12_shut_25 (mk0 rfl) rfl) (bind_cg2 fun x25 hx25 => ?_)
      have hx25 := fR_isR hx25
      refine Eq.trans (q_getR (ci := 6) (k := 0) dX12_shut_28 (mk0 rfl) rfl) (bind_cg2 fun x28 hx28 => ?_)
      have hx28 := fR_isR hx28
      refine Eq.trans (q_getL (ci := 9) (k := 4) dX12_shut_31 (mk0 rfl) rfl) (bind_cg fun x31 => ?_)
      refine Eq.trans (q_lload_n dX12_shut_34 (mk0 rfl) rfl) ?_
      refine Eq.trans (q_land dX12_shut_35 (mk0 rfl)) ?_
      refine Eq.trans (q_lconst (v := 0) dX12_shut_36 (mk0 rfl) rfl) ?_
      refine Eq.trans (q_lcmp dX12_shut_37 (mk0 rfl)) ?_
      refine Eq.trans (q_if_ne (t := 43) dX12_shut_38 (mk0 rfl) rfl) (ite_cg ?_ ?_)
      · refine Eq.trans (q_aload_n dX12_shut_43 (mk0 rfl) rfl rfl) ?_
        refine Eq.trans (q_getR (ci := 12) (k := 6) dX12_shut_44 (mk0 rfl) rfl) (bind_cg2 fun x44 hx44 => ?_)
        have hx44 := fR_isR hx44
        refine Eq.trans (q_getR (ci := 6) (k := 2) dX12_shut_47 (mk0 rfl) rfl) (bind_cg2 fun x47 hx47 => ?_)
        have hx47 := fR_isR hx47
        refine Eq.trans (q_aload_n dX12_shut_50 (mk0 rfl) rfl rfl) ?_
        refine Eq.trans (q_getR (ci := 12) (k := 6) dX12_shut_51 (mk0 rfl) rfl) (bind_cg2 fun x51 hx51 => ?_)
        have hx51 := fR_isR hx51
        refine Eq.trans (q_getR (ci := 6) (k := 1) dX12_shut_54 (mk0 rfl) rfl) (bind_cg2 fun x54 hx54 => ?_)
        have hx54 := fR_isR hx54
        refine Eq.trans (q_callV (as := [x54]) dX12_shut_57 (mk0 rfl) rfl rfl rfl (Nat.le_of_ble_eq_true rfl) (by simp [eA, ct_i, ct_l, ct_r, ct_n, ct_x, mX3_push, (cat_R hx54)])) (bind_cg fun b57 => ?_)
        refine Eq.trans (cV_bind rfl) (bind_cg fun p57 => ?_)
        show RS (ZZ L xs) (d + 1) mX12_shut 60 [some (.ref o), some (.int i1), some (.int i2), some (.long p20.2), none] [] p57 = _
        refine Eq.trans (q_aload_n dX12_shut_60 (mk0 rfl) rfl rfl) ?_
        refine Eq.trans (q_getR (ci := 12) (k := 6) dX12_shut_61 (mk0 rfl) rfl) (bind_cg2 fun x61 hx61 => ?_)
        have hx61 := fR_isR hx61
        refine Eq.trans (q_getR (ci := 6) (k := 1) dX12_shut_64 (mk0 rfl) rfl) (bind_cg2 fun x64 hx64 => ?_)
        have hx64 := fR_isR hx64
        refine Eq.trans (q_dup dX12_shut_67 (mk0 rfl) (cat_R hx64)) ?_
        refine Eq.trans (q_getL (ci := 7) (k := 3) dX12_shut_68 (mk0 rfl) rfl) (bind_cg fun x68 => ?_)
        refine Eq.trans (q_lload_n dX12_shut_71 (mk0 rfl) rfl) ?_
        refine Eq.trans (q_lxor dX12_shut_72 (mk0 rfl)) ?_
        refine Eq.trans (q_put (ci := 7) (k := 3) (kd := 1) dX12_shut_73 (mk0 rfl) rfl rfl (fun h => by cases h)) (bind_cg fun h73 => ?_)
        refine Eq.trans (q_aload_n dX12_shut_76 (mk0 rfl) rfl rfl) ?_
        refine Eq.trans (q_getR (ci := 12) (k := 6) dX12_shut_77 (mk0 rfl) rfl) (bind_cg2 fun x77 hx77 => ?_)
        have hx77 := fR_isR hx77
        refine Eq.trans (q_getR (ci := 6) (k := 1) dX12_shut_80 (mk0 rfl) rfl) (bind_cg2 fun x80 hx80 => ?_)
        have hx80 := fR_isR hx80
        refine Eq.trans (q_getL (ci := 7) (k := 3) dX12_shut_83 (mk0 rfl) rfl) (bind_cg fun x83 => ?_)
        refine Eq.trans (q_lload_n dX12_shut_86 (mk0 rfl) rfl) ?_
        refine Eq.trans (q_land dX12_shut_87 (mk0 rfl)) ?_
        refine Eq.trans (q_lconst (v := 0) dX12_shut_88 (mk0 rfl) rfl) ?_
        refine Eq.trans (q_lcmp dX12_shut_89 (mk0 rfl)) ?_
        refine Eq.trans (q_if_ne (t := 97) dX12_shut_90 (mk0 rfl) rfl) (ite_cg ?_ ?_)
        · refine Eq.trans (q_iconst (v := 0) dX12_shut_97 (mk0 rfl) rfl) ?_
          rfl
        · refine Eq.trans (q_iconst (v := 1) dX12_shut_93 (mk0 rfl) rfl) ?_
          refine Eq.trans (q_goto (t := 98) dX12_shut_94 (mk0 rfl) rfl) ?_
          rfl
      · refine Eq.trans (q_iconst (v := (-1)) dX12_shut_41 (mk0 rfl) rfl) ?_
        exact q_ireturn dX12_shut_42 (mk0 rfl) rfl
    · rfl
set_option maxRecDepth 20000 in
theorem bX12_shut_16 {L : Nat} {xs : Nat → Int32} (d : Nat) (u0 : Option Value) (u1 : Option Value) (u2 : Option Value) (u3 : Option Value) (u4 : Option Value) (ph : PH) : RS (ZZ L xs) (d + 1) mX12_shut 16 [u0, u1, u2, u3, u4] [] ph = some (ph, some (.int ((-1)))) := by
  refine Eq.trans (q_iconst (v := (-1)) dX12_shut_16 (show mK mX12_shut 16 [u0, u1, u2, u3, u4] = [none, none, none, none, none] from rfl) rfl) ?_
  exact q_ireturn dX12_shut_17 (mk0 rfl) rfl
set_option maxRecDepth 20000 in
theorem bX12_shut_98 {L : Nat} {xs : Nat → Int32} (d : Nat) (u0 : Option Value) (u1 : Option Value) (u2 : Option Value) (u3 : Option Value) (u4 : Option Value) (t0 : Int32) (ph : PH) : RS (ZZ L xs) (d + 1) mX12_shut 98 [u0, u1, u2, u3, u4] [.int t0] ph = some (ph, some (.int t0)) := by
  exact q_ireturn dX12_shut_98 (show mK mX12_shut 98 [u0, u1, u2, u3, u4] = [none, none, none, none, none] from rfl) rfl
set_option maxRecDepth 20000 in
theorem bX12_hunt_0 {L : Nat} {xs : Nat → Int32} (d : Nat) (o : Nat) (i1 : Int32) (ph : PH) : RS (ZZ L xs) (d + 1) mX12_hunt 0 [some (.ref o), some (.int i1), none] [] ph = (iO ph (.ref o) 12).bind fun b2 => (cI (ZZ L xs) d mX12_isStranger [.ref b2, .int i1] ph).bind fun p2 => if (p2.2 : Int32) = 0 then RS (ZZ L xs) (d + 1) mX12_hunt 24 [some (.ref o), some (.int i1), none] [] p2.1 else (fR p2.1 (.ref o) 12 6).bind fun x9 => (fR p2.1 x9 6 1).bind fun x12 => (fR p2.1 x12 7 9).bind fun x15 => (eI p2.1 x15 i1).bind fun x19 => if ¬ (x19 : Int32) = (-1) then (fR p2.1 (.ref o) 12 6).bind fun x27 => (fR p2.1 x27 6 2).bind fun x30 => (fR p2.1 (.ref o) 12 6).bind fun x34 => (fR p2.1 x34 6 1).bind fun x37 => (iO p2.1 x30 3).bind fun b40 => (cV (ZZ L xs) d mX3_push [.ref b40, x37] p2.1).bind fun p40 => (fR p40 (.ref o) 12 6).bind fun x44 => (fR p40 x44 6 1).bind fun x47 => (fR p40 x47 7 9).bind fun x50 => (eI p40 x50 i1).bind fun x54 => (fR p40 (.ref o) 12 6).bind fun x57 => (fR p40 x57 6 1).bind fun x60 => (fR p40 x60 7 9).bind fun x63 => (wI p40 x63 i1 ((-1))).bind fun h68 => some (h68, some (.int x54)) else RS (ZZ L xs) (d + 1) mX12_hunt 24 [some (.ref o), some (.int i1), none] [] p2.1 := by
  refine Eq.trans (q_aload_n dX12_hunt_0 (mk0 rfl) rfl rfl) ?_
  refine Eq.trans (q_iload_n dX12_hunt_1 (mk0 rfl) rfl) ?_
  refine Eq.trans (q_callV (as := [.int i1]) dX12_hunt_2 (mk0 rfl) rfl rfl rfl (Nat.le_of_ble_eq_true rfl) (Nat.le_of_ble_eq_true rfl)) (bind_cg fun b2 => ?_)
  refine Eq.trans (cI_bind (Or.inr rfl)) (bind_cg fun p2 => ?_)
  show RS (ZZ L xs) (d + 1) mX12_hunt 5 [some (.ref o), some (.int i1), none] [.int p2.2] p2.1 = _
  refine Eq.trans (q_if_eq (t := 24) dX12_hunt_5 (mk0 rfl) rfl) (ite_cg ?_ ?_)
  · rfl
  · refine Eq.trans (q_aload_n dX12_hunt_8 (mk0 rfl) rfl rfl) ?_
    refine Eq.trans (q_getR (ci := 12) (k := 6) dX12_hunt_9 (mk0 rfl) rfl) (bind_cg2 fun x9 hx9 => ?_)
    have hx9 := fR_isR hx9
    refine Eq.trans (q_getR (ci := 6) (k := 1) dX12_hunt_12 (mk0 rfl) rfl) (bind_cg2 fun x12 hx12 => ?_)
    have hx12 := fR_isR hx12
    refine Eq.trans (q_getR (ci := 7) (k := 9) dX12_hunt_15 (mk0 rfl) rfl) (bind_cg2 fun x15 hx15 => ?_)
    have hx15 := fR_isR hx15
    refine Eq.trans (q_iload_n dX12_hunt_18 (mk0 rfl) rfl) ?_
    refine Eq.trans (q_iaload dX12_hunt_19 (mk0 rfl) (no_ext hx15)) (bind_cg fun x19 => ?_)
    refine Eq.trans (q_iconst (v := (-1)) dX12_hunt_20 (mk0 rfl) rfl) ?_
    refine Eq.trans (q_icmp_ne (t := 26) dX12_hunt_21 (mk0 rfl) rfl) (ite_cg ?_ ?_)
    · refine Eq.trans (q_aload_n dX12_hunt_26 (mk0 rfl) rfl rfl) ?_
      refine Eq.trans (q_getR (ci := 12) (k := 6) dX12_hunt_27 (mk0 rfl) rfl) (bind_cg2 fun x27 hx27 => ?_)
      have hx27 := fR_isR hx27
      refine Eq.trans (q_getR (ci := 6) (k := 2) dX12_hunt_30 (mk0 rfl) rfl) (bind_cg2 fun x30 hx30 => ?_)
      have hx30 := fR_isR hx30
      refine Eq.trans (q_aload_n dX12_hunt_33 (mk0 rfl) rfl rfl) ?_
      refine Eq.trans (q_getR (ci := 12) (k := 6) dX12_hunt_34 (mk0 rfl) rfl) (bind_cg2 fun x34 hx34 => ?_)
      have hx34 := fR_isR hx34
      refine Eq.trans (q_getR (ci := 6) (k := 1) dX12_hunt_37 (mk0 rfl) rfl) (bind_cg2 fun x37 hx37 => ?_)
      have hx37 := fR_isR hx37
      refine Eq.trans (q_callV (as := [x37]) dX12_hunt_40 (mk0 rfl) rfl rfl rfl (Nat.le_of_ble_eq_true rfl) (by simp [eA, ct_i, ct_l, ct_r, ct_n, ct_x, mX3_push, (cat_R hx37)])) (bind_cg fun b40 => ?_)
      refine Eq.trans (cV_bind rfl) (bind_cg fun p40 => ?_)
      show RS (ZZ L xs) (d + 1) mX12_hunt 43 [some (.ref o), some (.int i1), none] [] p40 = _
      refine Eq.trans (q_aload_n dX12_hunt_43 (mk0 rfl) rfl rfl) ?_
      refine Eq.trans (q_getR (ci := 12) (k := 6) dX12_hunt_44 (mk0 rfl) rfl) (bind_cg2 fun x44 hx44 => ?_)
      have hx44 := fR_isR hx44
      refine Eq.trans (q_getR (ci := 6) (k := 1) dX12_hunt_47 (mk0 rfl) rfl) (bind_cg2 fun x47 hx47 => ?_)
      have hx47 := fR_isR hx47
      refine Eq.trans (q_getR (ci := 7) (k := 9) dX12_hunt_50 (mk0 rfl) rfl) (bind_cg2 fun x50 hx50 => ?_)
      have hx50 := fR_isR hx50
      refine Eq.trans (q_iload_n dX12_hunt_53 (mk0 rfl) rfl) ?_
      refine Eq.trans (q_iaload dX12_hunt_54 (mk0 rfl) (no_ext hx50)) (bind_cg fun x54 => ?_)
      refine Eq.trans (q_istore_n (lv2 := [some (.ref o), some (.int i1), some (.int x54)]) dX12_hunt_55 (mk0 rfl) (Nat.le_of_ble_eq_true rfl) rfl) ?_
      refine Eq.trans (q_aload_n dX12_hunt_56 (mk0 rfl) rfl rfl) ?_
      refine Eq.trans (q_getR (ci := 12) (k := 6) dX12_hunt_57 (mk0 rfl) rfl) (bind_cg2 fun x57 hx57 => ?_)
      have hx57 := fR_isR hx57
      refine Eq.trans (q_getR (ci := 6) (k := 1) dX12_hunt_60 (mk0 rfl) rfl) (bind_cg2 fun x60 hx60 => ?_)
      have hx60 := fR_isR hx60
      refine Eq.trans (q_getR (ci := 7) (k := 9) dX12_hunt_63 (mk0 rfl) rfl) (bind_cg2 fun x63 hx63 => ?_)
      have hx63 := fR_isR hx63
      refine Eq.trans (q_iload_n dX12_hunt_66 (mk0 rfl) rfl) ?_
      refine Eq.trans (q_iconst (v := (-1)) dX12_hunt_67 (mk0 rfl) rfl) ?_
      refine Eq.trans (q_iastore dX12_hunt_68 (mk0 rfl)) (bind_cg fun h68 => ?_)
      refine Eq.trans (q_iload_n dX12_hunt_69 (mk0 rfl) rfl) ?_
      exact q_ireturn dX12_hunt_70 (mk0 rfl) rfl
    · rfl
set_option maxRecDepth 20000 in
theorem bX12_hunt_24 {L : Nat} {xs : Nat → Int32} (d : Nat) (u0 : Option Value) (u1 : Option Value) (u2 : Option Value) (ph : PH) : RS (ZZ L xs) (d + 1) mX12_hunt 24 [u0, u1, u2] [] ph = some (ph, some (.int ((-1)))) := by
  refine Eq.trans (q_iconst (v := (-1)) dX12_hunt_24 (show mK mX12_hunt 24 [u0, u1, u2] = [none, none, none] from rfl) rfl) ?_
  exact q_ireturn dX12_hunt_25 (mk0 rfl) rfl
set_option maxRecDepth 20000 in
theorem bX12_undo_0 {L : Nat} {xs : Nat → Int32} (d : Nat) (o : Nat) (ph : PH) : RS (ZZ L xs) (d + 1) mX12_undo 0 [some (.ref o)] [] ph = (fR ph (.ref o) 12 6).bind fun x1 => (fR ph x1 6 2).bind fun x4 => (fI ph x4 3 0).bind fun x7 => if ¬ (x7 : Int32) = 0 then (fR ph (.ref o) 12 6).bind fun x17 => (fR ph x17 6 2).bind fun x20 => (fR ph (.ref o) 12 6).bind fun x24 => (fR ph x24 6 1).bind fun x27 => (iO ph x20 3).bind fun b30 => (cV (ZZ L xs) d mX3_pop [.ref b30, x27] ph).bind fun p30 => (fR p30 (.ref o) 12 6).bind fun x34 => (fR p30 x34 6 2).bind fun x37 => (fI p30 x37 3 0).bind fun x40 => some (p30, some (.int x40)) else some (ph, some (.int ((-2)))) := by
  refine Eq.trans (q_aload_n dX12_undo_0 (mk0 rfl) rfl rfl) ?_
  refine Eq.trans (q_getR (ci := 12) (k := 6) dX12_undo_1 (mk0 rfl) rfl) (bind_cg2 fun x1 hx1 => ?_)
  have hx1 := fR_isR hx1
  refine Eq.trans (q_getR (ci := 6) (k := 2) dX12_undo_4 (mk0 rfl) rfl) (bind_cg2 fun x4 hx4 => ?_)
  have hx4 := fR_isR hx4
  refine Eq.trans (q_getI (ci := 3) (k := 0) dX12_undo_7 (mk0 rfl) rfl) (bind_cg fun x7 => ?_)
  refine Eq.trans (q_if_ne (t := 16) dX12_undo_10 (mk0 rfl) rfl) (ite_cg ?_ ?_)
  · refine Eq.trans (q_aload_n dX12_undo_16 (mk0 rfl) rfl rfl) ?_
    refine Eq.trans (q_getR (ci := 12) (k := 6) dX12_undo_17 (mk0 rfl) rfl) (bind_cg2 fun x17 hx17 => ?_)
    have hx17 := fR_isR hx17
    refine Eq.trans (q_getR (ci := 6) (k := 2) dX12_undo_20 (mk0 rfl) rfl) (bind_cg2 fun x20 hx20 => ?_)
    have hx20 := fR_isR hx20
    refine Eq.trans (q_aload_n dX12_undo_23 (mk0 rfl) rfl rfl) ?_
    refine Eq.trans (q_getR (ci := 12) (k := 6) dX12_undo_24 (mk0 rfl) rfl) (bind_cg2 fun x24 hx24 => ?_)
    have hx24 := fR_isR hx24
    refine Eq.trans (q_getR (ci := 6) (k := 1) dX12_undo_27 (mk0 rfl) rfl) (bind_cg2 fun x27 hx27 => ?_)
    have hx27 := fR_isR hx27
    refine Eq.trans (q_callV (as := [x27]) dX12_undo_30 (mk0 rfl) rfl rfl rfl (Nat.le_of_ble_eq_true rfl) (by simp [eA, ct_i, ct_l, ct_r, ct_n, ct_x, mX3_pop, (cat_R hx27)])) (bind_cg fun b30 => ?_)
    refine Eq.trans (cV_bind rfl) (bind_cg fun p30 => ?_)
    show RS (ZZ L xs) (d + 1) mX12_undo 33 [some (.ref o)] [] p30 = _
    refine Eq.trans (q_aload_n dX12_undo_33 (mk0 rfl) rfl rfl) ?_
    refine Eq.trans (q_getR (ci := 12) (k := 6) dX12_undo_34 (mk0 rfl) rfl) (bind_cg2 fun x34 hx34 => ?_)
    have hx34 := fR_isR hx34
    refine Eq.trans (q_getR (ci := 6) (k := 2) dX12_undo_37 (mk0 rfl) rfl) (bind_cg2 fun x37 hx37 => ?_)
    have hx37 := fR_isR hx37
    refine Eq.trans (q_getI (ci := 3) (k := 0) dX12_undo_40 (mk0 rfl) rfl) (bind_cg fun x40 => ?_)
    exact q_ireturn dX12_undo_43 (mk0 rfl) rfl
  · refine Eq.trans (q_bipush (v := (-2)) dX12_undo_13 (mk0 rfl) rfl) ?_
    exact q_ireturn dX12_undo_15 (mk0 rfl) rfl
set_option maxRecDepth 20000 in
theorem bX12_ahead_0 {L : Nat} {xs : Nat → Int32} (d : Nat) (o : Nat) (i1 : Int32) (i2 : Int32) (i3 : Int32) (ph : PH) : RS (ZZ L xs) (d + 1) mX12_ahead 0 [some (.ref o), some (.int i1), some (.int i2), some (.int i3), none, none] [] ph = if ¬ (i3 : Int32) = 0 then if ¬ (i3 : Int32) = 1 then RS (ZZ L xs) (d + 1) mX12_ahead 25 [some (.ref o), some (.int i1), some (.int i2), some (.int i3), none, none] [] ph else (iO ph (.ref o) 12).bind fun b19 => (cI (ZZ L xs) d mX12_isStranger [.ref b19, .int i1] ph).bind fun p19 => if (p19.2 : Int32) = 0 then RS (ZZ L xs) (d + 1) mX12_ahead 30 [some (.ref o), some (.int i1), some (.int i2), some (.int i3), none, none] [.int 0] p19.1 else RS (ZZ L xs) (d + 1) mX12_ahead 25 [some (.ref o), some (.int i1), some (.int i2), some (.int i3), none, none] [] p19.1 else (iO ph (.ref o) 12).bind fun b6 => (cI (ZZ L xs) d mX12_isPerson [.ref b6, .int i1] ph).bind fun p6 => RS (ZZ L xs) (d + 1) mX12_ahead 30 [some (.ref o), some (.int i1), some (.int i2), some (.int i3), none, none] [.int p6.2] p6.1 := by
  refine Eq.trans (q_iload_n dX12_ahead_0 (mk0 rfl) rfl) ?_
  refine Eq.trans (q_if_ne (t := 12) dX12_ahead_1 (mk0 rfl) rfl) (ite_cg ?_ ?_)
  · refine Eq.trans (q_iload_n dX12_ahead_12 (mk0 rfl) rfl) ?_
    refine Eq.trans (q_iconst (v := 1) dX12_ahead_13 (mk0 rfl) rfl) ?_
    refine Eq.trans (q_icmp_ne (t := 25) dX12_ahead_14 (mk0 rfl) rfl) (ite_cg ?_ ?_)
    · rfl
    · refine Eq.trans (q_aload_n dX12_ahead_17 (mk0 rfl) rfl rfl) ?_
      refine Eq.trans (q_iload_n dX12_ahead_18 (mk0 rfl) rfl) ?_
      refine Eq.trans (q_callV (as := [.int i1]) dX12_ahead_19 (mk0 rfl) rfl rfl rfl (Nat.le_of_ble_eq_true rfl) (Nat.le_of_ble_eq_true rfl)) (bind_cg fun b19 => ?_)
      refine Eq.trans (cI_bind (Or.inr rfl)) (bind_cg fun p19 => ?_)
      show RS (ZZ L xs) (d + 1) mX12_ahead 22 [some (.ref o), some (.int i1), some (.int i2), some (.int i3), none, none] [.int p19.2] p19.1 = _
      refine Eq.trans (q_if_eq (t := 29) dX12_ahead_22 (mk0 rfl) rfl) (ite_cg ?_ ?_)
      · refine Eq.trans (q_iconst (v := 0) dX12_ahead_29 (mk0 rfl) rfl) ?_
        rfl
      · rfl
  · refine Eq.trans (q_aload_n dX12_ahead_4 (mk0 rfl) rfl rfl) ?_
    refine Eq.trans (q_iload_n dX12_ahead_5 (mk0 rfl) rfl) ?_
    refine Eq.trans (q_callV (as := [.int i1]) dX12_ahead_6 (mk0 rfl) rfl rfl rfl (Nat.le_of_ble_eq_true rfl) (Nat.le_of_ble_eq_true rfl)) (bind_cg fun b6 => ?_)
    refine Eq.trans (cI_bind (Or.inr rfl)) (bind_cg fun p6 => ?_)
    show RS (ZZ L xs) (d + 1) mX12_ahead 9 [some (.ref o), some (.int i1), some (.int i2), some (.int i3), none, none] [.int p6.2] p6.1 = _
    refine Eq.trans (q_goto (t := 30) dX12_ahead_9 (mk0 rfl) rfl) ?_
    rfl
set_option maxRecDepth 20000 in
theorem bX12_ahead_25 {L : Nat} {xs : Nat → Int32} (d : Nat) (o : Nat) (i1 : Int32) (i2 : Int32) (i3 : Int32) (u4 : Option Value) (u5 : Option Value) (ph : PH) : RS (ZZ L xs) (d + 1) mX12_ahead 25 [some (.ref o), some (.int i1), some (.int i2), some (.int i3), u4, u5] [] ph = RS (ZZ L xs) (d + 1) mX12_ahead 30 [some (.ref o), some (.int i1), some (.int i2), some (.int i3), none, none] [.int 1] ph := by
  refine Eq.trans (q_iconst (v := 1) dX12_ahead_25 (show mK mX12_ahead 25 [some (.ref o), some (.int i1), some (.int i2), some (.int i3), u4, u5] = [some (.ref o), some (.int i1), some (.int i2), some (.int i3), none, none] from rfl) rfl) ?_
  refine Eq.trans (q_goto (t := 30) dX12_ahead_26 (mk0 rfl) rfl) ?_
  rfl
set_option maxRecDepth 20000 in
theorem bX12_ahead_30 {L : Nat} {xs : Nat → Int32} (d : Nat) (o : Nat) (i1 : Int32) (i2 : Int32) (i3 : Int32) (u4 : Option Value) (u5 : Option Value) (t0 : Int32) (ph : PH) : RS (ZZ L xs) (d + 1) mX12_ahead 30 [some (.ref o), some (.int i1), some (.int i2), some (.int i3), u4, u5] [.int t0] ph = (iO ph (.ref o) 12).bind fun b33 => (cI (ZZ L xs) d mX12_hasTown [.ref b33] ph).bind fun p33 => if (p33.2 : Int32) = 0 then RS (ZZ L xs) (d + 1) mX12_ahead 63 [some (.ref o), some (.int i1), some (.int i2), some (.int i3), some (.int t0), none] [] p33.1 else (cI (ZZ L xs) d mX12_within [.int i2, .int 0, .int 100] p33.1).bind fun p43 => if (p43.2 : Int32) = 0 then RS (ZZ L xs) (d + 1) mX12_ahead 63 [some (.ref o), some (.int i1), some (.int i2), some (.int i3), some (.int t0), none] [] p43.1 else (cI (ZZ L xs) d mX12_within [.int i3, .int 0, .int 3] p43.1).bind fun p52 => if (p52.2 : Int32) = 0 then RS (ZZ L xs) (d + 1) mX12_ahead 63 [some (.ref o), some (.int i1), some (.int i2), some (.int i3), some (.int t0), none] [] p52.1 else if ¬ (t0 : Int32) = 0 then (iO p52.1 (.ref o) 12).bind fun b67 => (cV (ZZ L xs) d mX12_windClock [.ref b67] p52.1).bind fun p67 => (fR p67 (.ref o) 12 9).bind fun x71 => (iO p67 x71 2).bind fun b75 => (cR (ZZ L xs) d mX2_after [.ref b75, .int i2] p67).bind fun p75 => if (i3 : Int32) = 0 then RS (ZZ L xs) (d + 1) mX12_ahead 108 [some (.ref o), some (.int i1), some (.int i2), some (.int i3), some (.int t0), some (p75.2)] [] p75.1 else if (i3 : Int32) = 1 then RS (ZZ L xs) (d + 1) mX12_ahead 116 [some (.ref o), some (.int i1), some (.int i2), some (.int i3), some (.int t0), some (p75.2)] [] p75.1 else if (i3 : Int32) = 2 then RS (ZZ L xs) (d + 1) mX12_ahead 124 [some (.ref o), some (.int i1), some (.int i2), some (.int i3), some (.int t0), some (p75.2)] [] p75.1 else RS (ZZ L xs) (d + 1) mX12_ahead 130 [some (.ref o), some (.int i1), some (.int i2), some (.int i3), some (.int t0), some (p75.2)] [] p75.1 else RS (ZZ L xs) (d + 1) mX12_ahead 63 [some (.ref o), some (.int i1), some (.int i2), some (.int i3), some (.int t0), none] [] p52.1 := by
  refine Eq.trans (q_istore (lv2 := [some (.ref o), some (.int i1), some (.int i2), some (.int i3), some (.int t0), none]) dX12_ahead_30 (show mK mX12_ahead 30 [some (.ref o), some (.int i1), some (.int i2), some (.int i3), u4, u5] = [some (.ref o), some (.int i1), some (.int i2), some (.int i3), none, none] from rfl) (Nat.le_of_ble_eq_true rfl) rfl) ?_
  refine Eq.trans (q_aload_n dX12_ahead_32 (mk0 rfl) rfl rfl) ?_
  refine Eq.trans (q_callV (as := []) dX12_ahead_33 (mk0 rfl) rfl rfl rfl (Nat.le_of_ble_eq_true rfl) (Nat.le_of_ble_eq_true rfl)) (bind_cg fun b33 => ?_)
  refine Eq.trans (cI_bind (Or.inr rfl)) (bind_cg fun p33 => ?_)
  show RS (ZZ L xs) (d + 1) mX12_ahead 36 [some (.ref o), some (.int i1), some (.int i2), some (.int i3), some (.int t0), none] [.int p33.2] p33.1 = _
  refine Eq.trans (q_if_eq (t := 63) dX12_ahead_36 (mk0 rfl) rfl) (ite_cg ?_ ?_)
  · rfl
  · refine Eq.trans (q_iload_n dX12_ahead_39 (mk0 rfl) rfl) ?_
    refine Eq.trans (q_iconst (v := 0) dX12_ahead_40 (mk0 rfl) rfl) ?_
    refine Eq.trans (q_bipush (v := 100) dX12_ahead_41 (mk0 rfl) rfl) ?_
    refine Eq.trans (q_callS (as := [.int i2, .int 0, .int 100]) dX12_ahead_43 (mk0 rfl) rfl (Or.inl rfl) rfl rfl (Nat.le_of_ble_eq_true rfl) (Nat.le_of_ble_eq_true rfl)) ?_
    refine Eq.trans (cI_bind (Or.inr rfl)) (bind_cg fun p43 => ?_)
    show RS (ZZ L xs) (d + 1) mX12_ahead 46 [some (.ref o), some (.int i1), some (.int i2), some (.int i3), some (.int t0), none] [.int p43.2] p43.1 = _
    refine Eq.trans (q_if_eq (t := 63) dX12_ahead_46 (mk0 rfl) rfl) (ite_cg ?_ ?_)
    · rfl
    · refine Eq.trans (q_iload_n dX12_ahead_49 (mk0 rfl) rfl) ?_
      refine Eq.trans (q_iconst (v := 0) dX12_ahead_50 (mk0 rfl) rfl) ?_
      refine Eq.trans (q_iconst (v := 3) dX12_ahead_51 (mk0 rfl) rfl) ?_
      refine Eq.trans (q_callS (as := [.int i3, .int 0, .int 3]) dX12_ahead_52 (mk0 rfl) rfl (Or.inl rfl) rfl rfl (Nat.le_of_ble_eq_true rfl) (Nat.le_of_ble_eq_true rfl)) ?_
      refine Eq.trans (cI_bind (Or.inr rfl)) (bind_cg fun p52 => ?_)
      show RS (ZZ L xs) (d + 1) mX12_ahead 55 [some (.ref o), some (.int i1), some (.int i2), some (.int i3), some (.int t0), none] [.int p52.2] p52.1 = _
      refine Eq.trans (q_if_eq (t := 63) dX12_ahead_55 (mk0 rfl) rfl) (ite_cg ?_ ?_)
      · rfl
      · refine Eq.trans (q_iload dX12_ahead_58 (mk0 rfl) rfl) ?_
        refine Eq.trans (q_if_ne (t := 66) dX12_ahead_60 (mk0 rfl) rfl) (ite_cg ?_ ?_)
        · refine Eq.trans (q_aload_n dX12_ahead_66 (mk0 rfl) rfl rfl) ?_
          refine Eq.trans (q_callV (as := []) dX12_ahead_67 (mk0 rfl) rfl rfl rfl (Nat.le_of_ble_eq_true rfl) (Nat.le_of_ble_eq_true rfl)) (bind_cg fun b67 => ?_)
          refine Eq.trans (cV_bind rfl) (bind_cg fun p67 => ?_)
          show RS (ZZ L xs) (d + 1) mX12_ahead 70 [some (.ref o), some (.int i1), some (.int i2), some (.int i3), some (.int t0), none] [] p67 = _
          refine Eq.trans (q_aload_n dX12_ahead_70 (mk0 rfl) rfl rfl) ?_
          refine Eq.trans (q_getR (ci := 12) (k := 9) dX12_ahead_71 (mk0 rfl) rfl) (bind_cg2 fun x71 hx71 => ?_)
          have hx71 := fR_isR hx71
          refine Eq.trans (q_iload_n dX12_ahead_74 (mk0 rfl) rfl) ?_
          refine Eq.trans (q_callV (as := [.int i2]) dX12_ahead_75 (mk0 rfl) rfl rfl rfl (Nat.le_of_ble_eq_true rfl) (Nat.le_of_ble_eq_true rfl)) (bind_cg fun b75 => ?_)
          refine Eq.trans (cR_bind rfl) (bind_cg2 fun p75 hp75 => ?_)
          have hp75 := cR_isA hp75
          show RS (ZZ L xs) (d + 1) mX12_ahead 78 [some (.ref o), some (.int i1), some (.int i2), some (.int i3), some (.int t0), none] [p75.2] p75.1 = _
          refine Eq.trans (q_astore (lv2 := [some (.ref o), some (.int i1), some (.int i2), some (.int i3), some (.int t0), some (p75.2)]) dX12_ahead_78 (mk0 rfl) (Nat.le_of_ble_eq_true rfl) hp75 rfl) ?_
          refine Eq.trans (q_iload_n dX12_ahead_80 (mk0 rfl) rfl) ?_
          refine Eq.trans (q_tableswitch dX12_ahead_81 (mk0 rfl)) ?_
          generalize (i3 : Int32) = y81
          by_cases hy0 : y81 = 0
          · rw [if_pos hy0, hy0]; rfl
          rw [if_neg hy0]
          by_cases hy1 : y81 = 1
          · rw [if_pos hy1, hy1]; rfl
          rw [if_neg hy1]
          by_cases hy2 : y81 = 2
          · rw [if_pos hy2, hy2]; rfl
          rw [if_neg hy2]
          have ny0 := i32_ne hy0 (n := 0) rfl
          have ny1 := i32_ne hy1 (n := 1) rfl
          have ny2 := i32_ne hy2 (n := 2) rfl
          rw [sw_out (t := 130) (by omega) rfl]
          rfl
        · rfl
set_option maxRecDepth 20000 in
theorem bX12_ahead_63 {L : Nat} {xs : Nat → Int32} (d : Nat) (u0 : Option Value) (u1 : Option Value) (u2 : Option Value) (u3 : Option Value) (u4 : Option Value) (u5 : Option Value) (ph : PH) : RS (ZZ L xs) (d + 1) mX12_ahead 63 [u0, u1, u2, u3, u4, u5] [] ph = some (ph, some (.int ((-2)))) := by
  refine Eq.trans (q_bipush (v := (-2)) dX12_ahead_63 (show mK mX12_ahead 63 [u0, u1, u2, u3, u4, u5] = [none, none, none, none, none, none] from rfl) rfl) ?_
  exact q_ireturn dX12_ahead_65 (mk0 rfl) rfl
set_option maxRecDepth 20000 in
theorem bX12_ahead_108 {L : Nat} {xs : Nat → Int32} (d : Nat) (u0 : Option Value) (i1 : Int32) (u2 : Option Value) (u3 : Option Value) (u4 : Option Value) (v5 : Value) (hv5 : isR v5 = true) (ph : PH) : RS (ZZ L xs) (d + 1) mX12_ahead 108 [u0, some (.int i1), u2, u3, u4, some (v5)] [] ph = (fR ph v5 7 7).bind fun x110 => (eI ph x110 i1).bind fun x114 => some (ph, some (.int x114)) := by
  refine Eq.trans (q_aload dX12_ahead_108 (show mK mX12_ahead 108 [u0, some (.int i1), u2, u3, u4, some (v5)] = [none, some (.int i1), none, none, none, some (v5)] from rfl) rfl (isA_R hv5)) ?_
  refine Eq.trans (q_getR (ci := 7) (k := 7) dX12_ahead_110 (mk0 rfl) rfl) (bind_cg2 fun x110 hx110 => ?_)
  have hx110 := fR_isR hx110
  refine Eq.trans (q_iload_n dX12_ahead_113 (mk0 rfl) rfl) ?_
  refine Eq.trans (q_iaload dX12_ahead_114 (mk0 rfl) (no_ext hx110)) (bind_cg fun x114 => ?_)
  exact q_ireturn dX12_ahead_115 (mk0 rfl) rfl
set_option maxRecDepth 20000 in
theorem bX12_ahead_116 {L : Nat} {xs : Nat → Int32} (d : Nat) (u0 : Option Value) (i1 : Int32) (u2 : Option Value) (u3 : Option Value) (u4 : Option Value) (v5 : Value) (hv5 : isR v5 = true) (ph : PH) : RS (ZZ L xs) (d + 1) mX12_ahead 116 [u0, some (.int i1), u2, u3, u4, some (v5)] [] ph = (fR ph v5 7 9).bind fun x118 => (eI ph x118 i1).bind fun x122 => some (ph, some (.int x122)) := by
  refine Eq.trans (q_aload dX12_ahead_116 (show mK mX12_ahead 116 [u0, some (.int i1), u2, u3, u4, some (v5)] = [none, some (.int i1), none, none, none, some (v5)] from rfl) rfl (isA_R hv5)) ?_
  refine Eq.trans (q_getR (ci := 7) (k := 9) dX12_ahead_118 (mk0 rfl) rfl) (bind_cg2 fun x118 hx118 => ?_)
  have hx118 := fR_isR hx118
  refine Eq.trans (q_iload_n dX12_ahead_121 (mk0 rfl) rfl) ?_
  refine Eq.trans (q_iaload dX12_ahead_122 (mk0 rfl) (no_ext hx118)) (bind_cg fun x122 => ?_)
  exact q_ireturn dX12_ahead_123 (mk0 rfl) rfl
set_option maxRecDepth 20000 in
theorem bX12_ahead_124 {L : Nat} {xs : Nat → Int32} (d : Nat) (u0 : Option Value) (u1 : Option Value) (u2 : Option Value) (u3 : Option Value) (u4 : Option Value) (v5 : Value) (hv5 : isR v5 = true) (ph : PH) : RS (ZZ L xs) (d + 1) mX12_ahead 124 [u0, u1, u2, u3, u4, some (v5)] [] ph = (fI ph v5 7 2).bind fun x126 => some (ph, some (.int x126)) := by
  refine Eq.trans (q_aload dX12_ahead_124 (show mK mX12_ahead 124 [u0, u1, u2, u3, u4, some (v5)] = [none, none, none, none, none, some (v5)] from rfl) rfl (isA_R hv5)) ?_
  refine Eq.trans (q_getI (ci := 7) (k := 2) dX12_ahead_126 (mk0 rfl) rfl) (bind_cg fun x126 => ?_)
  exact q_ireturn dX12_ahead_129 (mk0 rfl) rfl
set_option maxRecDepth 20000 in
theorem bX12_ahead_130 {L : Nat} {xs : Nat → Int32} (d : Nat) (u0 : Option Value) (u1 : Option Value) (u2 : Option Value) (u3 : Option Value) (u4 : Option Value) (v5 : Value) (hv5 : isR v5 = true) (ph : PH) : RS (ZZ L xs) (d + 1) mX12_ahead 130 [u0, u1, u2, u3, u4, some (v5)] [] ph = (fI ph v5 7 1).bind fun x132 => some (ph, some (.int x132)) := by
  refine Eq.trans (q_aload dX12_ahead_130 (show mK mX12_ahead 130 [u0, u1, u2, u3, u4, some (v5)] = [none, none, none, none, none, some (v5)] from rfl) rfl (isA_R hv5)) ?_
  refine Eq.trans (q_getI (ci := 7) (k := 1) dX12_ahead_132 (mk0 rfl) rfl) (bind_cg fun x132 => ?_)
  exact q_ireturn dX12_ahead_135 (mk0 rfl) rfl
set_option maxRecDepth 20000 in
theorem bX12_mayor_0 {L : Nat} {xs : Nat → Int32} (d : Nat) (o : Nat) (i1 : Int32) (ph : PH) : RS (ZZ L xs) (d + 1) mX12_mayor 0 [some (.ref o), some (.int i1)] [] ph = (iO ph (.ref o) 12).bind fun b2 => (cI (ZZ L xs) d mX12_isPerson [.ref b2, .int i1] ph).bind fun p2 => if ¬ (p2.2 : Int32) = 0 then (iO p2.1 (.ref o) 12).bind fun b11 => (cV (ZZ L xs) d mX12_windClock [.ref b11] p2.1).bind fun p11 => (fR p11 (.ref o) 12 9).bind fun x15 => (iO p11 x15 2).bind fun b19 => (cI (ZZ L xs) d mX2_firstChain [.ref b19, .int i1] p11).bind fun p19 => some (p19.1, some (.int p19.2)) else some (p2.1, some (.int ((-1)))) := by
  refine Eq.trans (q_aload_n dX12_mayor_0 (mk0 rfl) rfl rfl) ?_
  refine Eq.trans (q_iload_n dX12_mayor_1 (mk0 rfl) rfl) ?_
  refine Eq.trans (q_callV (as := [.int i1]) dX12_mayor_2 (mk0 rfl) rfl rfl rfl (Nat.le_of_ble_eq_true rfl) (Nat.le_of_ble_eq_true rfl)) (bind_cg fun b2 => ?_)
  refine Eq.trans (cI_bind (Or.inr rfl)) (bind_cg fun p2 => ?_)
  show RS (ZZ L xs) (d + 1) mX12_mayor 5 [some (.ref o), some (.int i1)] [.int p2.2] p2.1 = _
  refine Eq.trans (q_if_ne (t := 10) dX12_mayor_5 (mk0 rfl) rfl) (ite_cg ?_ ?_)
  · refine Eq.trans (q_aload_n dX12_mayor_10 (mk0 rfl) rfl rfl) ?_
    refine Eq.trans (q_callV (as := []) dX12_mayor_11 (mk0 rfl) rfl rfl rfl (Nat.le_of_ble_eq_true rfl) (Nat.le_of_ble_eq_true rfl)) (bind_cg fun b11 => ?_)
    refine Eq.trans (cV_bind rfl) (bind_cg fun p11 => ?_)
    show RS (ZZ L xs) (d + 1) mX12_mayor 14 [some (.ref o), some (.int i1)] [] p11 = _
    refine Eq.trans (q_aload_n dX12_mayor_14 (mk0 rfl) rfl rfl) ?_
    refine Eq.trans (q_getR (ci := 12) (k := 9) dX12_mayor_15 (mk0 rfl) rfl) (bind_cg2 fun x15 hx15 => ?_)
    have hx15 := fR_isR hx15
    refine Eq.trans (q_iload_n dX12_mayor_18 (mk0 rfl) rfl) ?_
    refine Eq.trans (q_callV (as := [.int i1]) dX12_mayor_19 (mk0 rfl) rfl rfl rfl (Nat.le_of_ble_eq_true rfl) (Nat.le_of_ble_eq_true rfl)) (bind_cg fun b19 => ?_)
    refine Eq.trans (cI_bind (Or.inl rfl)) (bind_cg fun p19 => ?_)
    show RS (ZZ L xs) (d + 1) mX12_mayor 22 [some (.ref o), some (.int i1)] [.int p19.2] p19.1 = _
    exact q_ireturn dX12_mayor_22 (mk0 rfl) rfl
  · refine Eq.trans (q_iconst (v := (-1)) dX12_mayor_8 (mk0 rfl) rfl) ?_
    exact q_ireturn dX12_mayor_9 (mk0 rfl) rfl
set_option maxRecDepth 20000 in
theorem bX12_pitch_0 {L : Nat} {xs : Nat → Int32} (d : Nat) (o : Nat) (i1 : Int32) (i2 : Int32) (i3 : Int32) (ph : PH) : RS (ZZ L xs) (d + 1) mX12_pitch 0 [some (.ref o), some (.int i1), some (.int i2), some (.int i3)] [] ph = (iO ph (.ref o) 12).bind fun b2 => (cI (ZZ L xs) d mX12_isPerson [.ref b2, .int i1] ph).bind fun p2 => if (p2.2 : Int32) = 0 then RS (ZZ L xs) (d + 1) mX12_pitch 27 [some (.ref o), some (.int i1), some (.int i2), some (.int i3)] [] p2.1 else (cI (ZZ L xs) d mX12_within [.int i2, .int 1, .int 60] p2.1).bind fun p12 => if (p12.2 : Int32) = 0 then RS (ZZ L xs) (d + 1) mX12_pitch 27 [some (.ref o), some (.int i1), some (.int i2), some (.int i3)] [] p12.1 else (cI (ZZ L xs) d mX12_within [.int i3, .int 0, .int 1] p12.1).bind fun p21 => if ¬ (p21.2 : Int32) = 0 then (iO p21.1 (.ref o) 12).bind fun b30 => (cV (ZZ L xs) d mX12_windClock [.ref b30] p21.1).bind fun p30 => (fR p30 (.ref o) 12 9).bind fun x34 => (iO p30 x34 2).bind fun b40 => (cI (ZZ L xs) d mX2_bestPitch [.ref b40, .int i1, .int i2, .int i3] p30).bind fun p40 => some (p40.1, some (.int p40.2)) else RS (ZZ L xs) (d + 1) mX12_pitch 27 [some (.ref o), some (.int i1), some (.int i2), some (.int i3)] [] p21.1 := by
  refine Eq.trans (q_aload_n dX12_pitch_0 (mk0 rfl) rfl rfl) ?_
  refine Eq.trans (q_iload_n dX12_pitch_1 (mk0 rfl) rfl) ?_
  refine Eq.trans (q_callV (as := [.int i1]) dX12_pitch_2 (mk0 rfl) rfl rfl rfl (Nat.le_of_ble_eq_true rfl) (Nat.le_of_ble_eq_true rfl)) (bind_cg fun b2 => ?_)
  refine Eq.trans (cI_bind (Or.inr rfl)) (bind_cg fun p2 => ?_)
  show RS (ZZ L xs) (d + 1) mX12_pitch 5 [some (.ref o), some (.int i1), some (.int i2), some (.int i3)] [.int p2.2] p2.1 = _
  refine Eq.trans (q_if_eq (t := 27) dX12_pitch_5 (mk0 rfl) rfl) (ite_cg ?_ ?_)
  · rfl
  · refine Eq.trans (q_iload_n dX12_pitch_8 (mk0 rfl) rfl) ?_
    refine Eq.trans (q_iconst (v := 1) dX12_pitch_9 (mk0 rfl) rfl) ?_
    refine Eq.trans (q_bipush (v := 60) dX12_pitch_10 (mk0 rfl) rfl) ?_
    refine Eq.trans (q_callS (as := [.int i2, .int 1, .int 60]) dX12_pitch_12 (mk0 rfl) rfl (Or.inl rfl) rfl rfl (Nat.le_of_ble_eq_true rfl) (Nat.le_of_ble_eq_true rfl)) ?_
    refine Eq.trans (cI_bind (Or.inr rfl)) (bind_cg fun p12 => ?_)
    show RS (ZZ L xs) (d + 1) mX12_pitch 15 [some (.ref o), some (.int i1), some (.int i2), some (.int i3)] [.int p12.2] p12.1 = _
    refine Eq.trans (q_if_eq (t := 27) dX12_pitch_15 (mk0 rfl) rfl) (ite_cg ?_ ?_)
    · rfl
    · refine Eq.trans (q_iload_n dX12_pitch_18 (mk0 rfl) rfl) ?_
      refine Eq.trans (q_iconst (v := 0) dX12_pitch_19 (mk0 rfl) rfl) ?_
      refine Eq.trans (q_iconst (v := 1) dX12_pitch_20 (mk0 rfl) rfl) ?_
      refine Eq.trans (q_callS (as := [.int i3, .int 0, .int 1]) dX12_pitch_21 (mk0 rfl) rfl (Or.inl rfl) rfl rfl (Nat.le_of_ble_eq_true rfl) (Nat.le_of_ble_eq_true rfl)) ?_
      refine Eq.trans (cI_bind (Or.inr rfl)) (bind_cg fun p21 => ?_)
      show RS (ZZ L xs) (d + 1) mX12_pitch 24 [some (.ref o), some (.int i1), some (.int i2), some (.int i3)] [.int p21.2] p21.1 = _
      refine Eq.trans (q_if_ne (t := 29) dX12_pitch_24 (mk0 rfl) rfl) (ite_cg ?_ ?_)
      · refine Eq.trans (q_aload_n dX12_pitch_29 (mk0 rfl) rfl rfl) ?_
        refine Eq.trans (q_callV (as := []) dX12_pitch_30 (mk0 rfl) rfl rfl rfl (Nat.le_of_ble_eq_true rfl) (Nat.le_of_ble_eq_true rfl)) (bind_cg fun b30 => ?_)
        refine Eq.trans (cV_bind rfl) (bind_cg fun p30 => ?_)
        show RS (ZZ L xs) (d + 1) mX12_pitch 33 [some (.ref o), some (.int i1), some (.int i2), some (.int i3)] [] p30 = _
        refine Eq.trans (q_aload_n dX12_pitch_33 (mk0 rfl) rfl rfl) ?_
        refine Eq.trans (q_getR (ci := 12) (k := 9) dX12_pitch_34 (mk0 rfl) rfl) (bind_cg2 fun x34 hx34 => ?_)
        have hx34 := fR_isR hx34
        refine Eq.trans (q_iload_n dX12_pitch_37 (mk0 rfl) rfl) ?_
        refine Eq.trans (q_iload_n dX12_pitch_38 (mk0 rfl) rfl) ?_
        refine Eq.trans (q_iload_n dX12_pitch_39 (mk0 rfl) rfl) ?_
        refine Eq.trans (q_callV (as := [.int i1, .int i2, .int i3]) dX12_pitch_40 (mk0 rfl) rfl rfl rfl (Nat.le_of_ble_eq_true rfl) (Nat.le_of_ble_eq_true rfl)) (bind_cg fun b40 => ?_)
        refine Eq.trans (cI_bind (Or.inl rfl)) (bind_cg fun p40 => ?_)
        show RS (ZZ L xs) (d + 1) mX12_pitch 43 [some (.ref o), some (.int i1), some (.int i2), some (.int i3)] [.int p40.2] p40.1 = _
        exact q_ireturn dX12_pitch_43 (mk0 rfl) rfl
      · rfl
set_option maxRecDepth 20000 in
theorem bX12_pitch_27 {L : Nat} {xs : Nat → Int32} (d : Nat) (u0 : Option Value) (u1 : Option Value) (u2 : Option Value) (u3 : Option Value) (ph : PH) : RS (ZZ L xs) (d + 1) mX12_pitch 27 [u0, u1, u2, u3] [] ph = some (ph, some (.int ((-1)))) := by
  refine Eq.trans (q_iconst (v := (-1)) dX12_pitch_27 (show mK mX12_pitch 27 [u0, u1, u2, u3] = [none, none, none, none] from rfl) rfl) ?_
  exact q_ireturn dX12_pitch_28 (mk0 rfl) rfl
set_option maxRecDepth 20000 in
theorem bX12_smile_0 {L : Nat} {xs : Nat → Int32} (d : Nat) (o : Nat) (i1 : Int32) (i2 : Int32) (ph : PH) : RS (ZZ L xs) (d + 1) mX12_smile 0 [some (.ref o), some (.int i1), some (.int i2)] [] ph = (iO ph (.ref o) 12).bind fun b2 => (cI (ZZ L xs) d mX12_isPerson [.ref b2, .int i1] ph).bind fun p2 => if (p2.2 : Int32) = 0 then RS (ZZ L xs) (d + 1) mX12_smile 18 [some (.ref o), some (.int i1), some (.int i2)] [] p2.1 else (cI (ZZ L xs) d mX12_within [.int i2, .int 1, .int 60] p2.1).bind fun p12 => if ¬ (p12.2 : Int32) = 0 then (iO p12.1 (.ref o) 12).bind fun b21 => (cV (ZZ L xs) d mX12_windClock [.ref b21] p12.1).bind fun p21 => (fR p21 (.ref o) 12 9).bind fun x25 => (iO p21 x25 2).bind fun b30 => (cI (ZZ L xs) d mX2_leastSmile [.ref b30, .int i1, .int i2] p21).bind fun p30 => some (p30.1, some (.int p30.2)) else RS (ZZ L xs) (d + 1) mX12_smile 18 [some (.ref o), some (.int i1), some (.int i2)] [] p12.1 := by
  refine Eq.trans (q_aload_n dX12_smile_0 (mk0 rfl) rfl rfl) ?_
  refine Eq.trans (q_iload_n dX12_smile_1 (mk0 rfl) rfl) ?_
  refine Eq.trans (q_callV (as := [.int i1]) dX12_smile_2 (mk0 rfl) rfl rfl rfl (Nat.le_of_ble_eq_true rfl) (Nat.le_of_ble_eq_true rfl)) (bind_cg fun b2 => ?_)
  refine Eq.trans (cI_bind (Or.inr rfl)) (bind_cg fun p2 => ?_)
  show RS (ZZ L xs) (d + 1) mX12_smile 5 [some (.ref o), some (.int i1), some (.int i2)] [.int p2.2] p2.1 = _
  refine Eq.trans (q_if_eq (t := 18) dX12_smile_5 (mk0 rfl) rfl) (ite_cg ?_ ?_)
  · rfl
  · refine Eq.trans (q_iload_n dX12_smile_8 (mk0 rfl) rfl) ?_
    refine Eq.trans (q_iconst (v := 1) dX12_smile_9 (mk0 rfl) rfl) ?_
    refine Eq.trans (q_bipush (v := 60) dX12_smile_10 (mk0 rfl) rfl) ?_
    refine Eq.trans (q_callS (as := [.int i2, .int 1, .int 60]) dX12_smile_12 (mk0 rfl) rfl (Or.inl rfl) rfl rfl (Nat.le_of_ble_eq_true rfl) (Nat.le_of_ble_eq_true rfl)) ?_
    refine Eq.trans (cI_bind (Or.inr rfl)) (bind_cg fun p12 => ?_)
    show RS (ZZ L xs) (d + 1) mX12_smile 15 [some (.ref o), some (.int i1), some (.int i2)] [.int p12.2] p12.1 = _
    refine Eq.trans (q_if_ne (t := 20) dX12_smile_15 (mk0 rfl) rfl) (ite_cg ?_ ?_)
    · refine Eq.trans (q_aload_n dX12_smile_20 (mk0 rfl) rfl rfl) ?_
      refine Eq.trans (q_callV (as := []) dX12_smile_21 (mk0 rfl) rfl rfl rfl (Nat.le_of_ble_eq_true rfl) (Nat.le_of_ble_eq_true rfl)) (bind_cg fun b21 => ?_)
      refine Eq.trans (cV_bind rfl) (bind_cg fun p21 => ?_)
      show RS (ZZ L xs) (d + 1) mX12_smile 24 [some (.ref o), some (.int i1), some (.int i2)] [] p21 = _
      refine Eq.trans (q_aload_n dX12_smile_24 (mk0 rfl) rfl rfl) ?_
      refine Eq.trans (q_getR (ci := 12) (k := 9) dX12_smile_25 (mk0 rfl) rfl) (bind_cg2 fun x25 hx25 => ?_)
      have hx25 := fR_isR hx25
      refine Eq.trans (q_iload_n dX12_smile_28 (mk0 rfl) rfl) ?_
      refine Eq.trans (q_iload_n dX12_smile_29 (mk0 rfl) rfl) ?_
      refine Eq.trans (q_callV (as := [.int i1, .int i2]) dX12_smile_30 (mk0 rfl) rfl rfl rfl (Nat.le_of_ble_eq_true rfl) (Nat.le_of_ble_eq_true rfl)) (bind_cg fun b30 => ?_)
      refine Eq.trans (cI_bind (Or.inl rfl)) (bind_cg fun p30 => ?_)
      show RS (ZZ L xs) (d + 1) mX12_smile 33 [some (.ref o), some (.int i1), some (.int i2)] [.int p30.2] p30.1 = _
      exact q_ireturn dX12_smile_33 (mk0 rfl) rfl
    · rfl
set_option maxRecDepth 20000 in
theorem bX12_smile_18 {L : Nat} {xs : Nat → Int32} (d : Nat) (u0 : Option Value) (u1 : Option Value) (u2 : Option Value) (ph : PH) : RS (ZZ L xs) (d + 1) mX12_smile 18 [u0, u1, u2] [] ph = some (ph, some (.int ((-1)))) := by
  refine Eq.trans (q_iconst (v := (-1)) dX12_smile_18 (show mK mX12_smile 18 [u0, u1, u2] = [none, none, none] from rfl) rfl) ?_
  exact q_ireturn dX12_smile_19 (mk0 rfl) rfl
set_option maxRecDepth 20000 in
theorem bX12_way_0 {L : Nat} {xs : Nat → Int32} (d : Nat) (o : Nat) (i1 : Int32) (i2 : Int32) (i3 : Int32) (ph : PH) : RS (ZZ L xs) (d + 1) mX12_way 0 [some (.ref o), some (.int i1), some (.int i2), some (.int i3), none] [] ph = (iO ph (.ref o) 12).bind fun b2 => (cI (ZZ L xs) d mX12_isPlace [.ref b2, .int i1] ph).bind fun p2 => if (p2.2 : Int32) = 0 then RS (ZZ L xs) (d + 1) mX12_way 25 [some (.ref o), some (.int i1), some (.int i2), some (.int i3), none] [] p2.1 else (iO p2.1 (.ref o) 12).bind fun b10 => (cI (ZZ L xs) d mX12_isPlace [.ref b10, .int i2] p2.1).bind fun p10 => if (p10.2 : Int32) = 0 then RS (ZZ L xs) (d + 1) mX12_way 25 [some (.ref o), some (.int i1), some (.int i2), some (.int i3), none] [] p10.1 else (cI (ZZ L xs) d mX12_within [.int i3, .int 0, .int 1] p10.1).bind fun p19 => if ¬ (p19.2 : Int32) = 0 then (fR p19.1 (.ref o) 12 8).bind fun x28 => (fR p19.1 x28 0 0).bind fun x31 => (fR p19.1 (.ref o) 12 6).bind fun x35 => (fR p19.1 x35 6 1).bind fun x38 => (fL p19.1 x38 7 3).bind fun x41 => (iO p19.1 x31 11).bind fun b44 => (cV (ZZ L xs) d mX11_follow [.ref b44, .long x41] p19.1).bind fun p44 => (fR p44 (.ref o) 12 8).bind fun x48 => (fR p44 x48 0 0).bind fun x51 => (iO p44 x51 11).bind fun b56 => (cI (ZZ L xs) d mX11_far [.ref b56, .int i1, .int i2] p44).bind fun p56 => if ¬ (p56.2 : Int32) = 99 then if ¬ (i3 : Int32) = 0 then (fR p56.1 (.ref o) 12 8).bind fun x81 => (fR p56.1 x81 0 0).bind fun x84 => (iO p56.1 x84 11).bind fun b89 => (cI (ZZ L xs) d mX11_step [.ref b89, .int i1, .int i2] p56.1).bind fun p89 => RS (ZZ L xs) (d + 1) mX12_way 92 [some (.ref o), some (.int i1), some (.int i2), some (.int i3), some (.int p56.2)] [.int p89.2] p89.1 else RS (ZZ L xs) (d + 1) mX12_way 92 [some (.ref o), some (.int i1), some (.int i2), some (.int i3), some (.int p56.2)] [.int p56.2] p56.1 else some (p56.1, some (.int ((-2)))) else RS (ZZ L xs) (d + 1) mX12_way 25 [some (.ref o), some (.int i1), some (.int i2), some (.int i3), none] [] p19.1 := by
  refine Eq.trans (q_aload_n dX12_way_0 (mk0 rfl) rfl rfl) ?_
  refine Eq.trans (q_iload_n dX12_way_1 (mk0 rfl) rfl) ?_
  refine Eq.trans (q_callV (as := [.int i1]) dX12_way_2 (mk0 rfl) rfl rfl rfl (Nat.le_of_ble_eq_true rfl) (Nat.le_of_ble_eq_true rfl)) (bind_cg fun b2 => ?_)
  refine Eq.trans (cI_bind (Or.inr rfl)) (bind_cg fun p2 => ?_)
  show RS (ZZ L xs) (d + 1) mX12_way 5 [some (.ref o), some (.int i1), some (.int i2), some (.int i3), none] [.int p2.2] p2.1 = _
  refine Eq.trans (q_if_eq (t := 25) dX12_way_5 (mk0 rfl) rfl) (ite_cg ?_ ?_)
  · rfl
  · refine Eq.trans (q_aload_n dX12_way_8 (mk0 rfl) rfl rfl) ?_
    refine Eq.trans (q_iload_n dX12_way_9 (mk0 rfl) rfl) ?_
    refine Eq.trans (q_callV (as := [.int i2]) dX12_way_10 (mk0 rfl) rfl rfl rfl (Nat.le_of_ble_eq_true rfl) (Nat.le_of_ble_eq_true rfl)) (bind_cg fun b10 => ?_)
    refine Eq.trans (cI_bind (Or.inr rfl)) (bind_cg fun p10 => ?_)
    show RS (ZZ L xs) (d + 1) mX12_way 13 [some (.ref o), some (.int i1), some (.int i2), some (.int i3), none] [.int p10.2] p10.1 = _
    refine Eq.trans (q_if_eq (t := 25) dX12_way_13 (mk0 rfl) rfl) (ite_cg ?_ ?_)
    · rfl
    · refine Eq.trans (q_iload_n dX12_way_16 (mk0 rfl) rfl) ?_
      refine Eq.trans (q_iconst (v := 0) dX12_way_17 (mk0 rfl) rfl) ?_
      refine Eq.trans (q_iconst (v := 1) dX12_way_18 (mk0 rfl) rfl) ?_
      refine Eq.trans (q_callS (as := [.int i3, .int 0, .int 1]) dX12_way_19 (mk0 rfl) rfl (Or.inl rfl) rfl rfl (Nat.le_of_ble_eq_true rfl) (Nat.le_of_ble_eq_true rfl)) ?_
      refine Eq.trans (cI_bind (Or.inr rfl)) (bind_cg fun p19 => ?_)
      show RS (ZZ L xs) (d + 1) mX12_way 22 [some (.ref o), some (.int i1), some (.int i2), some (.int i3), none] [.int p19.2] p19.1 = _
      refine Eq.trans (q_if_ne (t := 27) dX12_way_22 (mk0 rfl) rfl) (ite_cg ?_ ?_)
      · refine Eq.trans (q_aload_n dX12_way_27 (mk0 rfl) rfl rfl) ?_
        refine Eq.trans (q_getR (ci := 12) (k := 8) dX12_way_28 (mk0 rfl) rfl) (bind_cg2 fun x28 hx28 => ?_)
        have hx28 := fR_isR hx28
        refine Eq.trans (q_getR (ci := 0) (k := 0) dX12_way_31 (mk0 rfl) rfl) (bind_cg2 fun x31 hx31 => ?_)
        have hx31 := fR_isR hx31
        refine Eq.trans (q_aload_n dX12_way_34 (mk0 rfl) rfl rfl) ?_
        refine Eq.trans (q_getR (ci := 12) (k := 6) dX12_way_35 (mk0 rfl) rfl) (bind_cg2 fun x35 hx35 => ?_)
        have hx35 := fR_isR hx35
        refine Eq.trans (q_getR (ci := 6) (k := 1) dX12_way_38 (mk0 rfl) rfl) (bind_cg2 fun x38 hx38 => ?_)
        have hx38 := fR_isR hx38
        refine Eq.trans (q_getL (ci := 7) (k := 3) dX12_way_41 (mk0 rfl) rfl) (bind_cg fun x41 => ?_)
        refine Eq.trans (q_callV (as := [.long x41]) dX12_way_44 (mk0 rfl) rfl rfl rfl (Nat.le_of_ble_eq_true rfl) (Nat.le_of_ble_eq_true rfl)) (bind_cg fun b44 => ?_)
        refine Eq.trans (cV_bind rfl) (bind_cg fun p44 => ?_)
        show RS (ZZ L xs) (d + 1) mX12_way 47 [some (.ref o), some (.int i1), some (.int i2), some (.int i3), none] [] p44 = _
        refine Eq.trans (q_aload_n dX12_way_47 (mk0 rfl) rfl rfl) ?_
        refine Eq.trans (q_getR (ci := 12) (k := 8) dX12_way_48 (mk0 rfl) rfl) (bind_cg2 fun x48 hx48 => ?_)
        have hx48 := fR_isR hx48
        refine Eq.trans (q_getR (ci := 0) (k := 0) dX12_way_51 (mk0 rfl) rfl) (bind_cg2 fun x51 hx51 => ?_)
        have hx51 := fR_isR hx51
        refine Eq.trans (q_iload_n dX12_way_54 (mk0 rfl) rfl) ?_
        refine Eq.trans (q_iload_n dX12_way_55 (mk0 rfl) rfl) ?_
        refine Eq.trans (q_callV (as := [.int i1, .int i2]) dX12_way_56 (mk0 rfl) rfl rfl rfl (Nat.le_of_ble_eq_true rfl) (Nat.le_of_ble_eq_true rfl)) (bind_cg fun b56 => ?_)
        refine Eq.trans (cI_bind (Or.inl rfl)) (bind_cg fun p56 => ?_)
        show RS (ZZ L xs) (d + 1) mX12_way 59 [some (.ref o), some (.int i1), some (.int i2), some (.int i3), none] [.int p56.2] p56.1 = _
        refine Eq.trans (q_istore (lv2 := [some (.ref o), some (.int i1), some (.int i2), some (.int i3), some (.int p56.2)]) dX12_way_59 (mk0 rfl) (Nat.le_of_ble_eq_true rfl) rfl) ?_
        refine Eq.trans (q_iload dX12_way_61 (mk0 rfl) rfl) ?_
        refine Eq.trans (q_bipush (v := 99) dX12_way_63 (mk0 rfl) rfl) ?_
        refine Eq.trans (q_icmp_ne (t := 71) dX12_way_65 (mk0 rfl) rfl) (ite_cg ?_ ?_)
        · refine Eq.trans (q_iload_n dX12_way_71 (mk0 rfl) rfl) ?_
          refine Eq.trans (q_if_ne (t := 80) dX12_way_72 (mk0 rfl) rfl) (ite_cg ?_ ?_)
          · refine Eq.trans (q_aload_n dX12_way_80 (mk0 rfl) rfl rfl) ?_
            refine Eq.trans (q_getR (ci := 12) (k := 8) dX12_way_81 (mk0 rfl) rfl) (bind_cg2 fun x81 hx81 => ?_)
            have hx81 := fR_isR hx81
            refine Eq.trans (q_getR (ci := 0) (k := 0) dX12_way_84 (mk0 rfl) rfl) (bind_cg2 fun x84 hx84 => ?_)
            have hx84 := fR_isR hx84
            refine Eq.trans (q_iload_n dX12_way_87 (mk0 rfl) rfl) ?_
            refine Eq.trans (q_iload_n dX12_way_88 (mk0 rfl) rfl) ?_
            refine Eq.trans (q_callV (as := [.int i1, .int i2]) dX12_way_89 (mk0 rfl) rfl rfl rfl (Nat.le_of_ble_eq_true rfl) (Nat.le_of_ble_eq_true rfl)) (bind_cg fun b89 => ?_)
            refine Eq.trans (cI_bind (Or.inl rfl)) (bind_cg fun p89 => ?_)
            show RS (ZZ L xs) (d + 1) mX12_way 92 [some (.ref o), some (.int i1), some (.int i2), some (.int i3), some (.int p56.2)] [.int p89.2] p89.1 = _
            rfl
          · refine Eq.trans (q_iload dX12_way_75 (mk0 rfl) rfl) ?_
            refine Eq.trans (q_goto (t := 92) dX12_way_77 (mk0 rfl) rfl) ?_
            rfl
        · refine Eq.trans (q_bipush (v := (-2)) dX12_way_68 (mk0 rfl) rfl) ?_
          exact q_ireturn dX12_way_70 (mk0 rfl) rfl
      · rfl
set_option maxRecDepth 20000 in
theorem bX12_way_25 {L : Nat} {xs : Nat → Int32} (d : Nat) (u0 : Option Value) (u1 : Option Value) (u2 : Option Value) (u3 : Option Value) (u4 : Option Value) (ph : PH) : RS (ZZ L xs) (d + 1) mX12_way 25 [u0, u1, u2, u3, u4] [] ph = some (ph, some (.int ((-1)))) := by
  refine Eq.trans (q_iconst (v := (-1)) dX12_way_25 (show mK mX12_way 25 [u0, u1, u2, u3, u4] = [none, none, none, none, none] from rfl) rfl) ?_
  exact q_ireturn dX12_way_26 (mk0 rfl) rfl
set_option maxRecDepth 20000 in
theorem bX12_way_92 {L : Nat} {xs : Nat → Int32} (d : Nat) (u0 : Option Value) (u1 : Option Value) (u2 : Option Value) (u3 : Option Value) (u4 : Option Value) (t0 : Int32) (ph : PH) : RS (ZZ L xs) (d + 1) mX12_way 92 [u0, u1, u2, u3, u4] [.int t0] ph = some (ph, some (.int t0)) := by
  exact q_ireturn dX12_way_92 (show mK mX12_way 92 [u0, u1, u2, u3, u4] = [none, none, none, none, none] from rfl) rfl
set_option maxRecDepth 20000 in
theorem bX12_came_0 {L : Nat} {xs : Nat → Int32} (d : Nat) (o : Nat) (i1 : Int32) (i2 : Int32) (i3 : Int32) (i4 : Int32) (ph : PH) : RS (ZZ L xs) (d + 1) mX12_came 0 [some (.ref o), some (.int i1), some (.int i2), some (.int i3), some (.int i4)] [] ph = (iO ph (.ref o) 12).bind fun b2 => (cI (ZZ L xs) d mX12_isStranger [.ref b2, .int i1] ph).bind fun p2 => if (p2.2 : Int32) = 0 then RS (ZZ L xs) (d + 1) mX12_came 36 [some (.ref o), some (.int i1), some (.int i2), some (.int i3), some (.int i4)] [] p2.1 else (cI (ZZ L xs) d mX12_within [.int i2, .int 1, .int 30] p2.1).bind fun p12 => if (p12.2 : Int32) = 0 then RS (ZZ L xs) (d + 1) mX12_came 36 [some (.ref o), some (.int i1), some (.int i2), some (.int i3), some (.int i4)] [] p12.1 else (iO p12.1 (.ref o) 12).bind fun b20 => (cI (ZZ L xs) d mX12_isPlace [.ref b20, .int i3] p12.1).bind fun p20 => if (p20.2 : Int32) = 0 then RS (ZZ L xs) (d + 1) mX12_came 36 [some (.ref o), some (.int i1), some (.int i2), some (.int i3), some (.int i4)] [] p20.1 else (cI (ZZ L xs) d mX12_within [.int i4, .int 0, .int 1] p20.1).bind fun p30 => if ¬ (p30.2 : Int32) = 0 then (iO p30.1 (.ref o) 12).bind fun b39 => (cV (ZZ L xs) d mX12_windClock [.ref b39] p30.1).bind fun p39 => (fR p39 (.ref o) 12 9).bind fun x43 => (iO p39 x43 2).bind fun b51 => (cI (ZZ L xs) d mX2_cameFrom [.ref b51, .int i1, .int i2, .int i3, .int i4] p39).bind fun p51 => some (p51.1, some (.int p51.2)) else RS (ZZ L xs) (d + 1) mX12_came 36 [some (.ref o), some (.int i1), some (.int i2), some (.int i3), some (.int i4)] [] p30.1 := by
  refine Eq.trans (q_aload_n dX12_came_0 (mk0 rfl) rfl rfl) ?_
  refine Eq.trans (q_iload_n dX12_came_1 (mk0 rfl) rfl) ?_
  refine Eq.trans (q_callV (as := [.int i1]) dX12_came_2 (mk0 rfl) rfl rfl rfl (Nat.le_of_ble_eq_true rfl) (Nat.le_of_ble_eq_true rfl)) (bind_cg fun b2 => ?_)
  refine Eq.trans (cI_bind (Or.inr rfl)) (bind_cg fun p2 => ?_)
  show RS (ZZ L xs) (d + 1) mX12_came 5 [some (.ref o), some (.int i1), some (.int i2), some (.int i3), some (.int i4)] [.int p2.2] p2.1 = _
  refine Eq.trans (q_if_eq (t := 36) dX12_came_5 (mk0 rfl) rfl) (ite_cg ?_ ?_)
  · rfl
  · refine Eq.trans (q_iload_n dX12_came_8 (mk0 rfl) rfl) ?_
    refine Eq.trans (q_iconst (v := 1) dX12_came_9 (mk0 rfl) rfl) ?_
    refine Eq.trans (q_bipush (v := 30) dX12_came_10 (mk0 rfl) rfl) ?_
    refine Eq.trans (q_callS (as := [.int i2, .int 1, .int 30]) dX12_came_12 (mk0 rfl) rfl (Or.inl rfl) rfl rfl (Nat.le_of_ble_eq_true rfl) (Nat.le_of_ble_eq_true rfl)) ?_
    refine Eq.trans (cI_bind (Or.inr rfl)) (bind_cg fun p12 => ?_)
    show RS (ZZ L xs) (d + 1) mX12_came 15 [some (.ref o), some (.int i1), some (.int i2), some (.int i3), some (.int i4)] [.int p12.2] p12.1 = _
    refine Eq.trans (q_if_eq (t := 36) dX12_came_15 (mk0 rfl) rfl) (ite_cg ?_ ?_)
    · rfl
    · refine Eq.trans (q_aload_n dX12_came_18 (mk0 rfl) rfl rfl) ?_
      refine Eq.trans (q_iload_n dX12_came_19 (mk0 rfl) rfl) ?_
      refine Eq.trans (q_callV (as := [.int i3]) dX12_came_20 (mk0 rfl) rfl rfl rfl (Nat.le_of_ble_eq_true rfl) (Nat.le_of_ble_eq_true rfl)) (bind_cg fun b20 => ?_)
      refine Eq.trans (cI_bind (Or.inr rfl)) (bind_cg fun p20 => ?_)
      show RS (ZZ L xs) (d + 1) mX12_came 23 [some (.ref o), some (.int i1), some (.int i2), some (.int i3), some (.int i4)] [.int p20.2] p20.1 = _
      refine Eq.trans (q_if_eq (t := 36) dX12_came_23 (mk0 rfl) rfl) (ite_cg ?_ ?_)
      · rfl
      · refine Eq.trans (q_iload dX12_came_26 (mk0 rfl) rfl) ?_
        refine Eq.trans (q_iconst (v := 0) dX12_came_28 (mk0 rfl) rfl) ?_
        refine Eq.trans (q_iconst (v := 1) dX12_came_29 (mk0 rfl) rfl) ?_
        refine Eq.trans (q_callS (as := [.int i4, .int 0, .int 1]) dX12_came_30 (mk0 rfl) rfl (Or.inl rfl) rfl rfl (Nat.le_of_ble_eq_true rfl) (Nat.le_of_ble_eq_true rfl)) ?_
        refine Eq.trans (cI_bind (Or.inr rfl)) (bind_cg fun p30 => ?_)
        show RS (ZZ L xs) (d + 1) mX12_came 33 [some (.ref o), some (.int i1), some (.int i2), some (.int i3), some (.int i4)] [.int p30.2] p30.1 = _
        refine Eq.trans (q_if_ne (t := 38) dX12_came_33 (mk0 rfl) rfl) (ite_cg ?_ ?_)
        · refine Eq.trans (q_aload_n dX12_came_38 (mk0 rfl) rfl rfl) ?_
          refine Eq.trans (q_callV (as := []) dX12_came_39 (mk0 rfl) rfl rfl rfl (Nat.le_of_ble_eq_true rfl) (Nat.le_of_ble_eq_true rfl)) (bind_cg fun b39 => ?_)
          refine Eq.trans (cV_bind rfl) (bind_cg fun p39 => ?_)
          show RS (ZZ L xs) (d + 1) mX12_came 42 [some (.ref o), some (.int i1), some (.int i2), some (.int i3), some (.int i4)] [] p39 = _
          refine Eq.trans (q_aload_n dX12_came_42 (mk0 rfl) rfl rfl) ?_
          refine Eq.trans (q_getR (ci := 12) (k := 9) dX12_came_43 (mk0 rfl) rfl) (bind_cg2 fun x43 hx43 => ?_)
          have hx43 := fR_isR hx43
          refine Eq.trans (q_iload_n dX12_came_46 (mk0 rfl) rfl) ?_
          refine Eq.trans (q_iload_n dX12_came_47 (mk0 rfl) rfl) ?_
          refine Eq.trans (q_iload_n dX12_came_48 (mk0 rfl) rfl) ?_
          refine Eq.trans (q_iload dX12_came_49 (mk0 rfl) rfl) ?_
          refine Eq.trans (q_callV (as := [.int i1, .int i2, .int i3, .int i4]) dX12_came_51 (mk0 rfl) rfl rfl rfl (Nat.le_of_ble_eq_true rfl) (Nat.le_of_ble_eq_true rfl)) (bind_cg fun b51 => ?_)
          refine Eq.trans (cI_bind (Or.inl rfl)) (bind_cg fun p51 => ?_)
          show RS (ZZ L xs) (d + 1) mX12_came 54 [some (.ref o), some (.int i1), some (.int i2), some (.int i3), some (.int i4)] [.int p51.2] p51.1 = _
          exact q_ireturn dX12_came_54 (mk0 rfl) rfl
        · rfl
set_option maxRecDepth 20000 in
theorem bX12_came_36 {L : Nat} {xs : Nat → Int32} (d : Nat) (u0 : Option Value) (u1 : Option Value) (u2 : Option Value) (u3 : Option Value) (u4 : Option Value) (ph : PH) : RS (ZZ L xs) (d + 1) mX12_came 36 [u0, u1, u2, u3, u4] [] ph = some (ph, some (.int ((-1)))) := by
  refine Eq.trans (q_iconst (v := (-1)) dX12_came_36 (show mK mX12_came 36 [u0, u1, u2, u3, u4] = [none, none, none, none, none] from rfl) rfl) ?_
  exact q_ireturn dX12_came_37 (mk0 rfl) rfl
set_option maxRecDepth 20000 in
theorem bX12_post_0 {L : Nat} {xs : Nat → Int32} (d : Nat) (o : Nat) (i1 : Int32) (i2 : Int32) (ph : PH) : RS (ZZ L xs) (d + 1) mX12_post 0 [some (.ref o), some (.int i1), some (.int i2)] [] ph = (iO ph (.ref o) 12).bind fun b1 => (cI (ZZ L xs) d mX12_hasTown [.ref b1] ph).bind fun p1 => if (p1.2 : Int32) = 0 then RS (ZZ L xs) (d + 1) mX12_post 26 [some (.ref o), some (.int i1), some (.int i2)] [] p1.1 else (cI (ZZ L xs) d mX12_within [.int i1, .int 1, .int 60] p1.1).bind fun p11 => if (p11.2 : Int32) = 0 then RS (ZZ L xs) (d + 1) mX12_post 26 [some (.ref o), some (.int i1), some (.int i2)] [] p11.1 else (cI (ZZ L xs) d mX12_within [.int i2, .int 0, .int 2] p11.1).bind fun p20 => if ¬ (p20.2 : Int32) = 0 then (iO p20.1 (.ref o) 12).bind fun b30 => (cV (ZZ L xs) d mX12_windClock [.ref b30] p20.1).bind fun p30 => (fR p30 (.ref o) 12 9).bind fun x34 => (iO p30 x34 2).bind fun b39 => (cI (ZZ L xs) d mX2_bestShut [.ref b39, .int i1, .int i2] p30).bind fun p39 => some (p39.1, some (.int p39.2)) else RS (ZZ L xs) (d + 1) mX12_post 26 [some (.ref o), some (.int i1), some (.int i2)] [] p20.1 := by
  refine Eq.trans (q_aload_n dX12_post_0 (mk0 rfl) rfl rfl) ?_
  refine Eq.trans (q_callV (as := []) dX12_post_1 (mk0 rfl) rfl rfl rfl (Nat.le_of_ble_eq_true rfl) (Nat.le_of_ble_eq_true rfl)) (bind_cg fun b1 => ?_)
  refine Eq.trans (cI_bind (Or.inr rfl)) (bind_cg fun p1 => ?_)
  show RS (ZZ L xs) (d + 1) mX12_post 4 [some (.ref o), some (.int i1), some (.int i2)] [.int p1.2] p1.1 = _
  refine Eq.trans (q_if_eq (t := 26) dX12_post_4 (mk0 rfl) rfl) (ite_cg ?_ ?_)
  · rfl
  · refine Eq.trans (q_iload_n dX12_post_7 (mk0 rfl) rfl) ?_
    refine Eq.trans (q_iconst (v := 1) dX12_post_8 (mk0 rfl) rfl) ?_
    refine Eq.trans (q_bipush (v := 60) dX12_post_9 (mk0 rfl) rfl) ?_
    refine Eq.trans (q_callS (as := [.int i1, .int 1, .int 60]) dX12_post_11 (mk0 rfl) rfl (Or.inl rfl) rfl rfl (Nat.le_of_ble_eq_true rfl) (Nat.le_of_ble_eq_true rfl)) ?_
    refine Eq.trans (cI_bind (Or.inr rfl)) (bind_cg fun p11 => ?_)
    show RS (ZZ L xs) (d + 1) mX12_post 14 [some (.ref o), some (.int i1), some (.int i2)] [.int p11.2] p11.1 = _
    refine Eq.trans (q_if_eq (t := 26) dX12_post_14 (mk0 rfl) rfl) (ite_cg ?_ ?_)
    · rfl
    · refine Eq.trans (q_iload_n dX12_post_17 (mk0 rfl) rfl) ?_
      refine Eq.trans (q_iconst (v := 0) dX12_post_18 (mk0 rfl) rfl) ?_
      refine Eq.trans (q_iconst (v := 2) dX12_post_19 (mk0 rfl) rfl) ?_
      refine Eq.trans (q_callS (as := [.int i2, .int 0, .int 2]) dX12_post_20 (mk0 rfl) rfl (Or.inl rfl) rfl rfl (Nat.le_of_ble_eq_true rfl) (Nat.le_of_ble_eq_true rfl)) ?_
      refine Eq.trans (cI_bind (Or.inr rfl)) (bind_cg fun p20 => ?_)
      show RS (ZZ L xs) (d + 1) mX12_post 23 [some (.ref o), some (.int i1), some (.int i2)] [.int p20.2] p20.1 = _
      refine Eq.trans (q_if_ne (t := 29) dX12_post_23 (mk0 rfl) rfl) (ite_cg ?_ ?_)
      · refine Eq.trans (q_aload_n dX12_post_29 (mk0 rfl) rfl rfl) ?_
        refine Eq.trans (q_callV (as := []) dX12_post_30 (mk0 rfl) rfl rfl rfl (Nat.le_of_ble_eq_true rfl) (Nat.le_of_ble_eq_true rfl)) (bind_cg fun b30 => ?_)
        refine Eq.trans (cV_bind rfl) (bind_cg fun p30 => ?_)
        show RS (ZZ L xs) (d + 1) mX12_post 33 [some (.ref o), some (.int i1), some (.int i2)] [] p30 = _
        refine Eq.trans (q_aload_n dX12_post_33 (mk0 rfl) rfl rfl) ?_
        refine Eq.trans (q_getR (ci := 12) (k := 9) dX12_post_34 (mk0 rfl) rfl) (bind_cg2 fun x34 hx34 => ?_)
        have hx34 := fR_isR hx34
        refine Eq.trans (q_iload_n dX12_post_37 (mk0 rfl) rfl) ?_
        refine Eq.trans (q_iload_n dX12_post_38 (mk0 rfl) rfl) ?_
        refine Eq.trans (q_callV (as := [.int i1, .int i2]) dX12_post_39 (mk0 rfl) rfl rfl rfl (Nat.le_of_ble_eq_true rfl) (Nat.le_of_ble_eq_true rfl)) (bind_cg fun b39 => ?_)
        refine Eq.trans (cI_bind (Or.inl rfl)) (bind_cg fun p39 => ?_)
        show RS (ZZ L xs) (d + 1) mX12_post 42 [some (.ref o), some (.int i1), some (.int i2)] [.int p39.2] p39.1 = _
        exact q_ireturn dX12_post_42 (mk0 rfl) rfl
      · rfl
set_option maxRecDepth 20000 in
theorem bX12_post_26 {L : Nat} {xs : Nat → Int32} (d : Nat) (u0 : Option Value) (u1 : Option Value) (u2 : Option Value) (ph : PH) : RS (ZZ L xs) (d + 1) mX12_post 26 [u0, u1, u2] [] ph = some (ph, some (.int ((-2)))) := by
  refine Eq.trans (q_bipush (v := (-2)) dX12_post_26 (show mK mX12_post 26 [u0, u1, u2] = [none, none, none] from rfl) rfl) ?_
  exact q_ireturn dX12_post_28 (mk0 rfl) rfl
set_option maxRecDepth 20000 in
theorem bX12_game_0 {L : Nat} {xs : Nat → Int32} (d : Nat) (o : Nat) (i1 : Int32) (i2 : Int32) (i3 : Int32) (i4 : Int32) (ph : PH) : RS (ZZ L xs) (d + 1) mX12_game 0 [some (.ref o), some (.int i1), some (.int i2), some (.int i3), some (.int i4), none] [] ph = (iO ph (.ref o) 12).bind fun b2 => (cI (ZZ L xs) d mX12_isPerson [.ref b2, .int i1] ph).bind fun p2 => if (p2.2 : Int32) = 0 then RS (ZZ L xs) (d + 1) mX12_game 25 [some (.ref o), some (.int i1), some (.int i2), some (.int i3), some (.int i4), none] [] p2.1 else (iO p2.1 (.ref o) 12).bind fun b10 => (cI (ZZ L xs) d mX12_isPerson [.ref b10, .int i2] p2.1).bind fun p10 => if (p10.2 : Int32) = 0 then RS (ZZ L xs) (d + 1) mX12_game 25 [some (.ref o), some (.int i1), some (.int i2), some (.int i3), some (.int i4), none] [] p10.1 else if (i1 : Int32) = i2 then RS (ZZ L xs) (d + 1) mX12_game 25 [some (.ref o), some (.int i1), some (.int i2), some (.int i3), some (.int i4), none] [] p10.1 else RS (ZZ L xs) (d + 1) mX12_game 26 [some (.ref o), some (.int i1), some (.int i2), some (.int i3), some (.int i4), none] [.int 1] p10.1 := by
  refine Eq.trans (q_aload_n dX12_game_0 (mk0 rfl) rfl rfl) ?_
  refine Eq.trans (q_iload_n dX12_game_1 (mk0 rfl) rfl) ?_
  refine Eq.trans (q_callV (as := [.int i1]) dX12_game_2 (mk0 rfl) rfl rfl rfl (Nat.le_of_ble_eq_true rfl) (Nat.le_of_ble_eq_true rfl)) (bind_cg fun b2 => ?_)
  refine Eq.trans (cI_bind (Or.inr rfl)) (bind_cg fun p2 => ?_)
  show RS (ZZ L xs) (d + 1) mX12_game 5 [some (.ref o), some (.int i1), some (.int i2), some (.int i3), some (.int i4), none] [.int p2.2] p2.1 = _
  refine Eq.trans (q_if_eq (t := 25) dX12_game_5 (mk0 rfl) rfl) (ite_cg ?_ ?_)
  · rfl
  · refine Eq.trans (q_aload_n dX12_game_8 (mk0 rfl) rfl rfl) ?_
    refine Eq.trans (q_iload_n dX12_game_9 (mk0 rfl) rfl) ?_
    refine Eq.trans (q_callV (as := [.int i2]) dX12_game_10 (mk0 rfl) rfl rfl rfl (Nat.le_of_ble_eq_true rfl) (Nat.le_of_ble_eq_true rfl)) (bind_cg fun b10 => ?_)
    refine Eq.trans (cI_bind (Or.inr rfl)) (bind_cg fun p10 => ?_)
    show RS (ZZ L xs) (d + 1) mX12_game 13 [some (.ref o), some (.int i1), some (.int i2), some (.int i3), some (.int i4), none] [.int p10.2] p10.1 = _
    refine Eq.trans (q_if_eq (t := 25) dX12_game_13 (mk0 rfl) rfl) (ite_cg ?_ ?_)
    · rfl
    · refine Eq.trans (q_iload_n dX12_game_16 (mk0 rfl) rfl) ?_
      refine Eq.trans (q_iload_n dX12_game_17 (mk0 rfl) rfl) ?_
      refine Eq.trans (q_icmp_eq (t := 25) dX12_game_18 (mk0 rfl) rfl) (ite_cg ?_ ?_)
      · rfl
      · refine Eq.trans (q_iconst (v := 1) dX12_game_21 (mk0 rfl) rfl) ?_
        refine Eq.trans (q_goto (t := 26) dX12_game_22 (mk0 rfl) rfl) ?_
        rfl
set_option maxRecDepth 20000 in
theorem bX12_game_25 {L : Nat} {xs : Nat → Int32} (d : Nat) (o : Nat) (i1 : Int32) (i2 : Int32) (i3 : Int32) (i4 : Int32) (u5 : Option Value) (ph : PH) : RS (ZZ L xs) (d + 1) mX12_game 25 [some (.ref o), some (.int i1), some (.int i2), some (.int i3), some (.int i4), u5] [] ph = RS (ZZ L xs) (d + 1) mX12_game 26 [some (.ref o), some (.int i1), some (.int i2), some (.int i3), some (.int i4), none] [.int 0] ph := by
  refine Eq.trans (q_iconst (v := 0) dX12_game_25 (show mK mX12_game 25 [some (.ref o), some (.int i1), some (.int i2), some (.int i3), some (.int i4), u5] = [some (.ref o), some (.int i1), some (.int i2), some (.int i3), some (.int i4), none] from rfl) rfl) ?_
  rfl
set_option maxRecDepth 20000 in
theorem bX12_game_26 {L : Nat} {xs : Nat → Int32} (d : Nat) (o : Nat) (i1 : Int32) (i2 : Int32) (i3 : Int32) (i4 : Int32) (u5 : Option Value) (t0 : Int32) (ph : PH) : RS (ZZ L xs) (d + 1) mX12_game 26 [some (.ref o), some (.int i1), some (.int i2), some (.int i3), some (.int i4), u5] [.int t0] ph = if (t0 : Int32) = 0 then RS (ZZ L xs) (d + 1) mX12_game 52 [some (.ref o), some (.int i1), some (.int i2), some (.int i3), some (.int i4), some (.int t0)] [] ph else (cI (ZZ L xs) d mX12_within [.int i3, .int 1, .int 3] ph).bind fun p36 => if (p36.2 : Int32) = 0 then RS (ZZ L xs) (d + 1) mX12_game 52 [some (.ref o), some (.int i1), some (.int i2), some (.int i3), some (.int i4), some (.int t0)] [] p36.1 else (cI (ZZ L xs) d mX12_within [.int i4, .int 0, .int 1] p36.1).bind fun p46 => if ¬ (p46.2 : Int32) = 0 then (iO p46.1 (.ref o) 12).bind fun b57 => (cV (ZZ L xs) d mX12_windClock [.ref b57] p46.1).bind fun p57 => (fR p57 (.ref o) 12 9).bind fun x61 => (iO p57 x61 2).bind fun b69 => (cI (ZZ L xs) d mX2_duel [.ref b69, .int i1, .int i2, .int i3, .int i4] p57).bind fun p69 => some (p69.1, some (.int p69.2)) else RS (ZZ L xs) (d + 1) mX12_game 52 [some (.ref o), some (.int i1), some (.int i2), some (.int i3), some (.int i4), some (.int t0)] [] p46.1 := by
  refine Eq.trans (q_istore (lv2 := [some (.ref o), some (.int i1), some (.int i2), some (.int i3), some (.int i4), some (.int t0)]) dX12_game_26 (show mK mX12_game 26 [some (.ref o), some (.int i1), some (.int i2), some (.int i3), some (.int i4), u5] = [some (.ref o), some (.int i1), some (.int i2), some (.int i3), some (.int i4), none] from rfl) (Nat.le_of_ble_eq_true rfl) rfl) ?_
  refine Eq.trans (q_iload dX12_game_28 (mk0 rfl) rfl) ?_
  refine Eq.trans (q_if_eq (t := 52) dX12_game_30 (mk0 rfl) rfl) (ite_cg ?_ ?_)
  · rfl
  · refine Eq.trans (q_iload_n dX12_game_33 (mk0 rfl) rfl) ?_
    refine Eq.trans (q_iconst (v := 1) dX12_game_34 (mk0 rfl) rfl) ?_
    refine Eq.trans (q_iconst (v := 3) dX12_game_35 (mk0 rfl) rfl) ?_
    refine Eq.trans (q_callS (as := [.int i3, .int 1, .int 3]) dX12_game_36 (mk0 rfl) rfl (Or.inl rfl) rfl rfl (Nat.le_of_ble_eq_true rfl) (Nat.le_of_ble_eq_true rfl)) ?_
    refine Eq.trans (cI_bind (Or.inr rfl)) (bind_cg fun p36 => ?_)
    show RS (ZZ L xs) (d + 1) mX12_game 39 [some (.ref o), some (.int i1), some (.int i2), some (.int i3), some (.int i4), some (.int t0)] [.int p36.2] p36.1 = _
    refine Eq.trans (q_if_eq (t := 52) dX12_game_39 (mk0 rfl) rfl) (ite_cg ?_ ?_)
    · rfl
    · refine Eq.trans (q_iload dX12_game_42 (mk0 rfl) rfl) ?_
      refine Eq.trans (q_iconst (v := 0) dX12_game_44 (mk0 rfl) rfl) ?_
      refine Eq.trans (q_iconst (v := 1) dX12_game_45 (mk0 rfl) rfl) ?_
      refine Eq.trans (q_callS (as := [.int i4, .int 0, .int 1]) dX12_game_46 (mk0 rfl) rfl (Or.inl rfl) rfl rfl (Nat.le_of_ble_eq_true rfl) (Nat.le_of_ble_eq_true rfl)) ?_
      refine Eq.trans (cI_bind (Or.inr rfl)) (bind_cg fun p46 => ?_)
      show RS (ZZ L xs) (d + 1) mX12_game 49 [some (.ref o), some (.int i1), some (.int i2), some (.int i3), some (.int i4), some (.int t0)] [.int p46.2] p46.1 = _
      refine Eq.trans (q_if_ne (t := 56) dX12_game_49 (mk0 rfl) rfl) (ite_cg ?_ ?_)
      · refine Eq.trans (q_aload_n dX12_game_56 (mk0 rfl) rfl rfl) ?_
        refine Eq.trans (q_callV (as := []) dX12_game_57 (mk0 rfl) rfl rfl rfl (Nat.le_of_ble_eq_true rfl) (Nat.le_of_ble_eq_true rfl)) (bind_cg fun b57 => ?_)
        refine Eq.trans (cV_bind rfl) (bind_cg fun p57 => ?_)
        show RS (ZZ L xs) (d + 1) mX12_game 60 [some (.ref o), some (.int i1), some (.int i2), some (.int i3), some (.int i4), some (.int t0)] [] p57 = _
        refine Eq.trans (q_aload_n dX12_game_60 (mk0 rfl) rfl rfl) ?_
        refine Eq.trans (q_getR (ci := 12) (k := 9) dX12_game_61 (mk0 rfl) rfl) (bind_cg2 fun x61 hx61 => ?_)
        have hx61 := fR_isR hx61
        refine Eq.trans (q_iload_n dX12_game_64 (mk0 rfl) rfl) ?_
        refine Eq.trans (q_iload_n dX12_game_65 (mk0 rfl) rfl) ?_
        refine Eq.trans (q_iload_n dX12_game_66 (mk0 rfl) rfl) ?_
        refine Eq.trans (q_iload dX12_game_67 (mk0 rfl) rfl) ?_
        refine Eq.trans (q_callV (as := [.int i1, .int i2, .int i3, .int i4]) dX12_game_69 (mk0 rfl) rfl rfl rfl (Nat.le_of_ble_eq_true rfl) (Nat.le_of_ble_eq_true rfl)) (bind_cg fun b69 => ?_)
        refine Eq.trans (cI_bind (Or.inl rfl)) (bind_cg fun p69 => ?_)
        show RS (ZZ L xs) (d + 1) mX12_game 72 [some (.ref o), some (.int i1), some (.int i2), some (.int i3), some (.int i4), some (.int t0)] [.int p69.2] p69.1 = _
        exact q_ireturn dX12_game_72 (mk0 rfl) rfl
      · rfl
set_option maxRecDepth 20000 in
theorem bX12_game_52 {L : Nat} {xs : Nat → Int32} (d : Nat) (u0 : Option Value) (u1 : Option Value) (u2 : Option Value) (u3 : Option Value) (u4 : Option Value) (u5 : Option Value) (ph : PH) : RS (ZZ L xs) (d + 1) mX12_game 52 [u0, u1, u2, u3, u4, u5] [] ph = some (ph, some (.int ((-1000)))) := by
  refine Eq.trans (q_sipush (v := (-1000)) dX12_game_52 (show mK mX12_game 52 [u0, u1, u2, u3, u4, u5] = [none, none, none, none, none, none] from rfl) rfl) ?_
  exact q_ireturn dX12_game_55 (mk0 rfl) rfl
set_option maxRecDepth 20000 in
theorem bX12_rests_0 {L : Nat} {xs : Nat → Int32} (d : Nat) (o : Nat) (i1 : Int32) (i2 : Int32) (i3 : Int32) (i4 : Int32) (ph : PH) : RS (ZZ L xs) (d + 1) mX12_rests 0 [some (.ref o), some (.int i1), some (.int i2), some (.int i3), some (.int i4), none] [] ph = (iO ph (.ref o) 12).bind fun b2 => (cI (ZZ L xs) d mX12_isPerson [.ref b2, .int i1] ph).bind fun p2 => if (p2.2 : Int32) = 0 then RS (ZZ L xs) (d + 1) mX12_rests 25 [some (.ref o), some (.int i1), some (.int i2), some (.int i3), some (.int i4), none] [] p2.1 else (iO p2.1 (.ref o) 12).bind fun b10 => (cI (ZZ L xs) d mX12_isPerson [.ref b10, .int i2] p2.1).bind fun p10 => if (p10.2 : Int32) = 0 then RS (ZZ L xs) (d + 1) mX12_rests 25 [some (.ref o), some (.int i1), some (.int i2), some (.int i3), some (.int i4), none] [] p10.1 else if (i1 : Int32) = i2 then RS (ZZ L xs) (d + 1) mX12_rests 25 [some (.ref o), some (.int i1), some (.int i2), some (.int i3), some (.int i4), none] [] p10.1 else RS (ZZ L xs) (d + 1) mX12_rests 26 [some (.ref o), some (.int i1), some (.int i2), some (.int i3), some (.int i4), none] [.int 1] p10.1 := by
  refine Eq.trans (q_aload_n dX12_rests_0 (mk0 rfl) rfl rfl) ?_
  refine Eq.trans (q_iload_n dX12_rests_1 (mk0 rfl) rfl) ?_
  refine Eq.trans (q_callV (as := [.int i1]) dX12_rests_2 (mk0 rfl) rfl rfl rfl (Nat.le_of_ble_eq_true rfl) (Nat.le_of_ble_eq_true rfl)) (bind_cg fun b2 => ?_)
  refine Eq.trans (cI_bind (Or.inr rfl)) (bind_cg fun p2 => ?_)
  show RS (ZZ L xs) (d + 1) mX12_rests 5 [some (.ref o), some (.int i1), some (.int i2), some (.int i3), some (.int i4), none] [.int p2.2] p2.1 = _
  refine Eq.trans (q_if_eq (t := 25) dX12_rests_5 (mk0 rfl) rfl) (ite_cg ?_ ?_)
  · rfl
  · refine Eq.trans (q_aload_n dX12_rests_8 (mk0 rfl) rfl rfl) ?_
    refine Eq.trans (q_iload_n dX12_rests_9 (mk0 rfl) rfl) ?_
    refine Eq.trans (q_callV (as := [.int i2]) dX12_rests_10 (mk0 rfl) rfl rfl rfl (Nat.le_of_ble_eq_true rfl) (Nat.le_of_ble_eq_true rfl)) (bind_cg fun b10 => ?_)
    refine Eq.trans (cI_bind (Or.inr rfl)) (bind_cg fun p10 => ?_)
    show RS (ZZ L xs) (d + 1) mX12_rests 13 [some (.ref o), some (.int i1), some (.int i2), some (.int i3), some (.int i4), none] [.int p10.2] p10.1 = _
    refine Eq.trans (q_if_eq (t := 25) dX12_rests_13 (mk0 rfl) rfl) (ite_cg ?_ ?_)
    · rfl
    · refine Eq.trans (q_iload_n dX12_rests_16 (mk0 rfl) rfl) ?_
      refine Eq.trans (q_iload_n dX12_rests_17 (mk0 rfl) rfl) ?_
      refine Eq.trans (q_icmp_eq (t := 25) dX12_rests_18 (mk0 rfl) rfl) (ite_cg ?_ ?_)
      · rfl
      · refine Eq.trans (q_iconst (v := 1) dX12_rests_21 (mk0 rfl) rfl) ?_
        refine Eq.trans (q_goto (t := 26) dX12_rests_22 (mk0 rfl) rfl) ?_
        rfl
set_option maxRecDepth 20000 in
theorem bX12_rests_25 {L : Nat} {xs : Nat → Int32} (d : Nat) (o : Nat) (i1 : Int32) (i2 : Int32) (i3 : Int32) (i4 : Int32) (u5 : Option Value) (ph : PH) : RS (ZZ L xs) (d + 1) mX12_rests 25 [some (.ref o), some (.int i1), some (.int i2), some (.int i3), some (.int i4), u5] [] ph = RS (ZZ L xs) (d + 1) mX12_rests 26 [some (.ref o), some (.int i1), some (.int i2), some (.int i3), some (.int i4), none] [.int 0] ph := by
  refine Eq.trans (q_iconst (v := 0) dX12_rests_25 (show mK mX12_rests 25 [some (.ref o), some (.int i1), some (.int i2), some (.int i3), some (.int i4), u5] = [some (.ref o), some (.int i1), some (.int i2), some (.int i3), some (.int i4), none] from rfl) rfl) ?_
  rfl
set_option maxRecDepth 20000 in
theorem bX12_rests_26 {L : Nat} {xs : Nat → Int32} (d : Nat) (o : Nat) (i1 : Int32) (i2 : Int32) (i3 : Int32) (i4 : Int32) (u5 : Option Value) (t0 : Int32) (ph : PH) : RS (ZZ L xs) (d + 1) mX12_rests 26 [some (.ref o), some (.int i1), some (.int i2), some (.int i3), some (.int i4), u5] [.int t0] ph = if (t0 : Int32) = 0 then RS (ZZ L xs) (d + 1) mX12_rests 53 [some (.ref o), some (.int i1), some (.int i2), some (.int i3), some (.int i4), some (.int t0)] [] ph else (cI (ZZ L xs) d mX12_within [.int i3, .int 1, .int 20] ph).bind fun p37 => if (p37.2 : Int32) = 0 then RS (ZZ L xs) (d + 1) mX12_rests 53 [some (.ref o), some (.int i1), some (.int i2), some (.int i3), some (.int i4), some (.int t0)] [] p37.1 else (cI (ZZ L xs) d mX12_within [.int i4, .int 0, .int 2] p37.1).bind fun p47 => if ¬ (p47.2 : Int32) = 0 then (iO p47.1 (.ref o) 12).bind fun b56 => (cV (ZZ L xs) d mX12_windClock [.ref b56] p47.1).bind fun p56 => (fR p56 (.ref o) 12 9).bind fun x60 => (iO p56 x60 2).bind fun b68 => (cI (ZZ L xs) d mX2_stableTwos [.ref b68, .int i1, .int i2, .int i3, .int i4] p56).bind fun p68 => some (p68.1, some (.int p68.2)) else RS (ZZ L xs) (d + 1) mX12_rests 53 [some (.ref o), some (.int i1), some (.int i2), some (.int i3), some (.int i4), some (.int t0)] [] p47.1 := by
  refine Eq.trans (q_istore (lv2 := [some (.ref o), some (.int i1), some (.int i2), some (.int i3), some (.int i4), some (.int t0)]) dX12_rests_26 (show mK mX12_rests 26 [some (.ref o), some (.int i1), some (.int i2), some (.int i3), some (.int i4), u5] = [some (.ref o), some (.int i1), some (.int i2), some (.int i3), some (.int i4), none] from rfl) (Nat.le_of_ble_eq_true rfl) rfl) ?_
  refine Eq.trans (q_iload dX12_rests_28 (mk0 rfl) rfl) ?_
  refine Eq.trans (q_if_eq (t := 53) dX12_rests_30 (mk0 rfl) rfl) (ite_cg ?_ ?_)
  · rfl
  · refine Eq.trans (q_iload_n dX12_rests_33 (mk0 rfl) rfl) ?_
    refine Eq.trans (q_iconst (v := 1) dX12_rests_34 (mk0 rfl) rfl) ?_
    refine Eq.trans (q_bipush (v := 20) dX12_rests_35 (mk0 rfl) rfl) ?_
    refine Eq.trans (q_callS (as := [.int i3, .int 1, .int 20]) dX12_rests_37 (mk0 rfl) rfl (Or.inl rfl) rfl rfl (Nat.le_of_ble_eq_true rfl) (Nat.le_of_ble_eq_true rfl)) ?_
    refine Eq.trans (cI_bind (Or.inr rfl)) (bind_cg fun p37 => ?_)
    show RS (ZZ L xs) (d + 1) mX12_rests 40 [some (.ref o), some (.int i1), some (.int i2), some (.int i3), some (.int i4), some (.int t0)] [.int p37.2] p37.1 = _
    refine Eq.trans (q_if_eq (t := 53) dX12_rests_40 (mk0 rfl) rfl) (ite_cg ?_ ?_)
    · rfl
    · refine Eq.trans (q_iload dX12_rests_43 (mk0 rfl) rfl) ?_
      refine Eq.trans (q_iconst (v := 0) dX12_rests_45 (mk0 rfl) rfl) ?_
      refine Eq.trans (q_iconst (v := 2) dX12_rests_46 (mk0 rfl) rfl) ?_
      refine Eq.trans (q_callS (as := [.int i4, .int 0, .int 2]) dX12_rests_47 (mk0 rfl) rfl (Or.inl rfl) rfl rfl (Nat.le_of_ble_eq_true rfl) (Nat.le_of_ble_eq_true rfl)) ?_
      refine Eq.trans (cI_bind (Or.inr rfl)) (bind_cg fun p47 => ?_)
      show RS (ZZ L xs) (d + 1) mX12_rests 50 [some (.ref o), some (.int i1), some (.int i2), some (.int i3), some (.int i4), some (.int t0)] [.int p47.2] p47.1 = _
      refine Eq.trans (q_if_ne (t := 55) dX12_rests_50 (mk0 rfl) rfl) (ite_cg ?_ ?_)
      · refine Eq.trans (q_aload_n dX12_rests_55 (mk0 rfl) rfl rfl) ?_
        refine Eq.trans (q_callV (as := []) dX12_rests_56 (mk0 rfl) rfl rfl rfl (Nat.le_of_ble_eq_true rfl) (Nat.le_of_ble_eq_true rfl)) (bind_cg fun b56 => ?_)
        refine Eq.trans (cV_bind rfl) (bind_cg fun p56 => ?_)
        show RS (ZZ L xs) (d + 1) mX12_rests 59 [some (.ref o), some (.int i1), some (.int i2), some (.int i3), some (.int i4), some (.int t0)] [] p56 = _
        refine Eq.trans (q_aload_n dX12_rests_59 (mk0 rfl) rfl rfl) ?_
        refine Eq.trans (q_getR (ci := 12) (k := 9) dX12_rests_60 (mk0 rfl) rfl) (bind_cg2 fun x60 hx60 => ?_)
        have hx60 := fR_isR hx60
        refine Eq.trans (q_iload_n dX12_rests_63 (mk0 rfl) rfl) ?_
        refine Eq.trans (q_iload_n dX12_rests_64 (mk0 rfl) rfl) ?_
        refine Eq.trans (q_iload_n dX12_rests_65 (mk0 rfl) rfl) ?_
        refine Eq.trans (q_iload dX12_rests_66 (mk0 rfl) rfl) ?_
        refine Eq.trans (q_callV (as := [.int i1, .int i2, .int i3, .int i4]) dX12_rests_68 (mk0 rfl) rfl rfl rfl (Nat.le_of_ble_eq_true rfl) (Nat.le_of_ble_eq_true rfl)) (bind_cg fun b68 => ?_)
        refine Eq.trans (cI_bind (Or.inl rfl)) (bind_cg fun p68 => ?_)
        show RS (ZZ L xs) (d + 1) mX12_rests 71 [some (.ref o), some (.int i1), some (.int i2), some (.int i3), some (.int i4), some (.int t0)] [.int p68.2] p68.1 = _
        exact q_ireturn dX12_rests_71 (mk0 rfl) rfl
      · rfl
set_option maxRecDepth 20000 in
theorem bX12_rests_53 {L : Nat} {xs : Nat → Int32} (d : Nat) (u0 : Option Value) (u1 : Option Value) (u2 : Option Value) (u3 : Option Value) (u4 : Option Value) (u5 : Option Value) (ph : PH) : RS (ZZ L xs) (d + 1) mX12_rests 53 [u0, u1, u2, u3, u4, u5] [] ph = some (ph, some (.int ((-1)))) := by
  refine Eq.trans (q_iconst (v := (-1)) dX12_rests_53 (show mK mX12_rests 53 [u0, u1, u2, u3, u4, u5] = [none, none, none, none, none, none] from rfl) rfl) ?_
  exact q_ireturn dX12_rests_54 (mk0 rfl) rfl
set_option maxRecDepth 20000 in
theorem bX12_pence_0 {L : Nat} {xs : Nat → Int32} (d : Nat) (o : Nat) (i1 : Int32) (i2 : Int32) (ph : PH) : RS (ZZ L xs) (d + 1) mX12_pence 0 [some (.ref o), some (.int i1), some (.int i2)] [] ph = (cI (ZZ L xs) d mX12_within [.int i1, .int 0, .int 9999] ph).bind fun p5 => if (p5.2 : Int32) = 0 then RS (ZZ L xs) (d + 1) mX12_pence 19 [some (.ref o), some (.int i1), some (.int i2)] [] p5.1 else (iO p5.1 (.ref o) 12).bind fun b13 => (cI (ZZ L xs) d mX12_isPerson [.ref b13, .int i2] p5.1).bind fun p13 => if ¬ (p13.2 : Int32) = 0 then (fR p13.1 (.ref o) 12 6).bind fun x22 => (iO p13.1 x22 6).bind fun b27 => (cI (ZZ L xs) d mX6_share [.ref b27, .int i1, .int i2] p13.1).bind fun p27 => some (p27.1, some (.int p27.2)) else RS (ZZ L xs) (d + 1) mX12_pence 19 [some (.ref o), some (.int i1), some (.int i2)] [] p13.1 := by
  refine Eq.trans (q_iload_n dX12_pence_0 (mk0 rfl) rfl) ?_
  refine Eq.trans (q_iconst (v := 0) dX12_pence_1 (mk0 rfl) rfl) ?_
  refine Eq.trans (q_sipush (v := 9999) dX12_pence_2 (mk0 rfl) rfl) ?_
  refine Eq.trans (q_callS (as := [.int i1, .int 0, .int 9999]) dX12_pence_5 (mk0 rfl) rfl (Or.inl rfl) rfl rfl (Nat.le_of_ble_eq_true rfl) (Nat.le_of_ble_eq_true rfl)) ?_
  refine Eq.trans (cI_bind (Or.inr rfl)) (bind_cg fun p5 => ?_)
  show RS (ZZ L xs) (d + 1) mX12_pence 8 [some (.ref o), some (.int i1), some (.int i2)] [.int p5.2] p5.1 = _
  refine Eq.trans (q_if_eq (t := 19) dX12_pence_8 (mk0 rfl) rfl) (ite_cg ?_ ?_)
  · rfl
  · refine Eq.trans (q_aload_n dX12_pence_11 (mk0 rfl) rfl rfl) ?_
    refine Eq.trans (q_iload_n dX12_pence_12 (mk0 rfl) rfl) ?_
    refine Eq.trans (q_callV (as := [.int i2]) dX12_pence_13 (mk0 rfl) rfl rfl rfl (Nat.le_of_ble_eq_true rfl) (Nat.le_of_ble_eq_true rfl)) (bind_cg fun b13 => ?_)
    refine Eq.trans (cI_bind (Or.inr rfl)) (bind_cg fun p13 => ?_)
    show RS (ZZ L xs) (d + 1) mX12_pence 16 [some (.ref o), some (.int i1), some (.int i2)] [.int p13.2] p13.1 = _
    refine Eq.trans (q_if_ne (t := 21) dX12_pence_16 (mk0 rfl) rfl) (ite_cg ?_ ?_)
    · refine Eq.trans (q_aload_n dX12_pence_21 (mk0 rfl) rfl rfl) ?_
      refine Eq.trans (q_getR (ci := 12) (k := 6) dX12_pence_22 (mk0 rfl) rfl) (bind_cg2 fun x22 hx22 => ?_)
      have hx22 := fR_isR hx22
      refine Eq.trans (q_iload_n dX12_pence_25 (mk0 rfl) rfl) ?_
      refine Eq.trans (q_iload_n dX12_pence_26 (mk0 rfl) rfl) ?_
      refine Eq.trans (q_callV (as := [.int i1, .int i2]) dX12_pence_27 (mk0 rfl) rfl rfl rfl (Nat.le_of_ble_eq_true rfl) (Nat.le_of_ble_eq_true rfl)) (bind_cg fun b27 => ?_)
      refine Eq.trans (cI_bind (Or.inl rfl)) (bind_cg fun p27 => ?_)
      show RS (ZZ L xs) (d + 1) mX12_pence 30 [some (.ref o), some (.int i1), some (.int i2)] [.int p27.2] p27.1 = _
      exact q_ireturn dX12_pence_30 (mk0 rfl) rfl
    · rfl
set_option maxRecDepth 20000 in
theorem bX12_pence_19 {L : Nat} {xs : Nat → Int32} (d : Nat) (u0 : Option Value) (u1 : Option Value) (u2 : Option Value) (ph : PH) : RS (ZZ L xs) (d + 1) mX12_pence 19 [u0, u1, u2] [] ph = some (ph, some (.int ((-1)))) := by
  refine Eq.trans (q_iconst (v := (-1)) dX12_pence_19 (show mK mX12_pence 19 [u0, u1, u2] = [none, none, none] from rfl) rfl) ?_
  exact q_ireturn dX12_pence_20 (mk0 rfl) rfl
set_option maxRecDepth 20000 in
theorem bX12_markets_0 {L : Nat} {xs : Nat → Int32} (d : Nat) (o : Nat) (i1 : Int32) (i2 : Int32) (i3 : Int32) (i4 : Int32) (ph : PH) : RS (ZZ L xs) (d + 1) mX12_markets 0 [some (.ref o), some (.int i1), some (.int i2), some (.int i3), some (.int i4), none] [] ph = (cI (ZZ L xs) d mX12_within [.int i1, .int 1, .int 10] ph).bind fun p4 => if (p4.2 : Int32) = 0 then RS (ZZ L xs) (d + 1) mX12_markets 34 [some (.ref o), some (.int i1), some (.int i2), some (.int i3), some (.int i4), none] [] p4.1 else (cI (ZZ L xs) d mX12_within [.int i2, .int 1, .int 60] p4.1).bind fun p14 => if (p14.2 : Int32) = 0 then RS (ZZ L xs) (d + 1) mX12_markets 34 [some (.ref o), some (.int i1), some (.int i2), some (.int i3), some (.int i4), none] [] p14.1 else (cI (ZZ L xs) d mX12_within [.int i3, .int 0, .int 100] p14.1).bind fun p24 => if (p24.2 : Int32) = 0 then RS (ZZ L xs) (d + 1) mX12_markets 34 [some (.ref o), some (.int i1), some (.int i2), some (.int i3), some (.int i4), none] [] p24.1 else RS (ZZ L xs) (d + 1) mX12_markets 35 [some (.ref o), some (.int i1), some (.int i2), some (.int i3), some (.int i4), none] [.int 1] p24.1 := by
  refine Eq.trans (q_iload_n dX12_markets_0 (mk0 rfl) rfl) ?_
  refine Eq.trans (q_iconst (v := 1) dX12_markets_1 (mk0 rfl) rfl) ?_
  refine Eq.trans (q_bipush (v := 10) dX12_markets_2 (mk0 rfl) rfl) ?_
  refine Eq.trans (q_callS (as := [.int i1, .int 1, .int 10]) dX12_markets_4 (mk0 rfl) rfl (Or.inl rfl) rfl rfl (Nat.le_of_ble_eq_true rfl) (Nat.le_of_ble_eq_true rfl)) ?_
  refine Eq.trans (cI_bind (Or.inr rfl)) (bind_cg fun p4 => ?_)
  show RS (ZZ L xs) (d + 1) mX12_markets 7 [some (.ref o), some (.int i1), some (.int i2), some (.int i3), some (.int i4), none] [.int p4.2] p4.1 = _
  refine Eq.trans (q_if_eq (t := 34) dX12_markets_7 (mk0 rfl) rfl) (ite_cg ?_ ?_)
  · rfl
  · refine Eq.trans (q_iload_n dX12_markets_10 (mk0 rfl) rfl) ?_
    refine Eq.trans (q_iconst (v := 1) dX12_markets_11 (mk0 rfl) rfl) ?_
    refine Eq.trans (q_bipush (v := 60) dX12_markets_12 (mk0 rfl) rfl) ?_
    refine Eq.trans (q_callS (as := [.int i2, .int 1, .int 60]) dX12_markets_14 (mk0 rfl) rfl (Or.inl rfl) rfl rfl (Nat.le_of_ble_eq_true rfl) (Nat.le_of_ble_eq_true rfl)) ?_
    refine Eq.trans (cI_bind (Or.inr rfl)) (bind_cg fun p14 => ?_)
    show RS (ZZ L xs) (d + 1) mX12_markets 17 [some (.ref o), some (.int i1), some (.int i2), some (.int i3), some (.int i4), none] [.int p14.2] p14.1 = _
    refine Eq.trans (q_if_eq (t := 34) dX12_markets_17 (mk0 rfl) rfl) (ite_cg ?_ ?_)
    · rfl
    · refine Eq.trans (q_iload_n dX12_markets_20 (mk0 rfl) rfl) ?_
      refine Eq.trans (q_iconst (v := 0) dX12_markets_21 (mk0 rfl) rfl) ?_
      refine Eq.trans (q_bipush (v := 100) dX12_markets_22 (mk0 rfl) rfl) ?_
      refine Eq.trans (q_callS (as := [.int i3, .int 0, .int 100]) dX12_markets_24 (mk0 rfl) rfl (Or.inl rfl) rfl rfl (Nat.le_of_ble_eq_true rfl) (Nat.le_of_ble_eq_true rfl)) ?_
      refine Eq.trans (cI_bind (Or.inr rfl)) (bind_cg fun p24 => ?_)
      show RS (ZZ L xs) (d + 1) mX12_markets 27 [some (.ref o), some (.int i1), some (.int i2), some (.int i3), some (.int i4), none] [.int p24.2] p24.1 = _
      refine Eq.trans (q_if_eq (t := 34) dX12_markets_27 (mk0 rfl) rfl) (ite_cg ?_ ?_)
      · rfl
      · refine Eq.trans (q_iconst (v := 1) dX12_markets_30 (mk0 rfl) rfl) ?_
        refine Eq.trans (q_goto (t := 35) dX12_markets_31 (mk0 rfl) rfl) ?_
        rfl
set_option maxRecDepth 20000 in
theorem bX12_markets_34 {L : Nat} {xs : Nat → Int32} (d : Nat) (o : Nat) (i1 : Int32) (i2 : Int32) (i3 : Int32) (i4 : Int32) (u5 : Option Value) (ph : PH) : RS (ZZ L xs) (d + 1) mX12_markets 34 [some (.ref o), some (.int i1), some (.int i2), some (.int i3), some (.int i4), u5] [] ph = RS (ZZ L xs) (d + 1) mX12_markets 35 [some (.ref o), some (.int i1), some (.int i2), some (.int i3), some (.int i4), none] [.int 0] ph := by
  refine Eq.trans (q_iconst (v := 0) dX12_markets_34 (show mK mX12_markets 34 [some (.ref o), some (.int i1), some (.int i2), some (.int i3), some (.int i4), u5] = [some (.ref o), some (.int i1), some (.int i2), some (.int i3), some (.int i4), none] from rfl) rfl) ?_
  rfl
set_option maxRecDepth 20000 in
theorem bX12_markets_35 {L : Nat} {xs : Nat → Int32} (d : Nat) (o : Nat) (i1 : Int32) (i2 : Int32) (i3 : Int32) (i4 : Int32) (u5 : Option Value) (t0 : Int32) (ph : PH) : RS (ZZ L xs) (d + 1) mX12_markets 35 [some (.ref o), some (.int i1), some (.int i2), some (.int i3), some (.int i4), u5] [.int t0] ph = (iO ph (.ref o) 12).bind fun b38 => (cI (ZZ L xs) d mX12_hasTown [.ref b38] ph).bind fun p38 => if (p38.2 : Int32) = 0 then RS (ZZ L xs) (d + 1) mX12_markets 59 [some (.ref o), some (.int i1), some (.int i2), some (.int i3), some (.int i4), some (.int t0)] [] p38.1 else if (t0 : Int32) = 0 then RS (ZZ L xs) (d + 1) mX12_markets 59 [some (.ref o), some (.int i1), some (.int i2), some (.int i3), some (.int i4), some (.int t0)] [] p38.1 else (cI (ZZ L xs) d mX12_within [.int i4, .int 0, .int 1] p38.1).bind fun p53 => if ¬ (p53.2 : Int32) = 0 then (iO p53.1 (.ref o) 12).bind fun b62 => (cV (ZZ L xs) d mX12_windClock [.ref b62] p53.1).bind fun p62 => (fR p62 (.ref o) 12 9).bind fun x66 => (iO p62 x66 2).bind fun b74 => (cI (ZZ L xs) d mX2_drawn [.ref b74, .int i1, .int i2, .int i3, .int i4] p62).bind fun p74 => some (p74.1, some (.int p74.2)) else RS (ZZ L xs) (d + 1) mX12_markets 59 [some (.ref o), some (.int i1), some (.int i2), some (.int i3), some (.int i4), some (.int t0)] [] p53.1 := by
  refine Eq.trans (q_istore (lv2 := [some (.ref o), some (.int i1), some (.int i2), some (.int i3), some (.int i4), some (.int t0)]) dX12_markets_35 (show mK mX12_markets 35 [some (.ref o), some (.int i1), some (.int i2), some (.int i3), some (.int i4), u5] = [some (.ref o), some (.int i1), some (.int i2), some (.int i3), some (.int i4), none] from rfl) (Nat.le_of_ble_eq_true rfl) rfl) ?_
  refine Eq.trans (q_aload_n dX12_markets_37 (mk0 rfl) rfl rfl) ?_
  refine Eq.trans (q_callV (as := []) dX12_markets_38 (mk0 rfl) rfl rfl rfl (Nat.le_of_ble_eq_true rfl) (Nat.le_of_ble_eq_true rfl)) (bind_cg fun b38 => ?_)
  refine Eq.trans (cI_bind (Or.inr rfl)) (bind_cg fun p38 => ?_)
  show RS (ZZ L xs) (d + 1) mX12_markets 41 [some (.ref o), some (.int i1), some (.int i2), some (.int i3), some (.int i4), some (.int t0)] [.int p38.2] p38.1 = _
  refine Eq.trans (q_if_eq (t := 59) dX12_markets_41 (mk0 rfl) rfl) (ite_cg ?_ ?_)
  · rfl
  · refine Eq.trans (q_iload dX12_markets_44 (mk0 rfl) rfl) ?_
    refine Eq.trans (q_if_eq (t := 59) dX12_markets_46 (mk0 rfl) rfl) (ite_cg ?_ ?_)
    · rfl
    · refine Eq.trans (q_iload dX12_markets_49 (mk0 rfl) rfl) ?_
      refine Eq.trans (q_iconst (v := 0) dX12_markets_51 (mk0 rfl) rfl) ?_
      refine Eq.trans (q_iconst (v := 1) dX12_markets_52 (mk0 rfl) rfl) ?_
      refine Eq.trans (q_callS (as := [.int i4, .int 0, .int 1]) dX12_markets_53 (mk0 rfl) rfl (Or.inl rfl) rfl rfl (Nat.le_of_ble_eq_true rfl) (Nat.le_of_ble_eq_true rfl)) ?_
      refine Eq.trans (cI_bind (Or.inr rfl)) (bind_cg fun p53 => ?_)
      show RS (ZZ L xs) (d + 1) mX12_markets 56 [some (.ref o), some (.int i1), some (.int i2), some (.int i3), some (.int i4), some (.int t0)] [.int p53.2] p53.1 = _
      refine Eq.trans (q_if_ne (t := 61) dX12_markets_56 (mk0 rfl) rfl) (ite_cg ?_ ?_)
      · refine Eq.trans (q_aload_n dX12_markets_61 (mk0 rfl) rfl rfl) ?_
        refine Eq.trans (q_callV (as := []) dX12_markets_62 (mk0 rfl) rfl rfl rfl (Nat.le_of_ble_eq_true rfl) (Nat.le_of_ble_eq_true rfl)) (bind_cg fun b62 => ?_)
        refine Eq.trans (cV_bind rfl) (bind_cg fun p62 => ?_)
        show RS (ZZ L xs) (d + 1) mX12_markets 65 [some (.ref o), some (.int i1), some (.int i2), some (.int i3), some (.int i4), some (.int t0)] [] p62 = _
        refine Eq.trans (q_aload_n dX12_markets_65 (mk0 rfl) rfl rfl) ?_
        refine Eq.trans (q_getR (ci := 12) (k := 9) dX12_markets_66 (mk0 rfl) rfl) (bind_cg2 fun x66 hx66 => ?_)
        have hx66 := fR_isR hx66
        refine Eq.trans (q_iload_n dX12_markets_69 (mk0 rfl) rfl) ?_
        refine Eq.trans (q_iload_n dX12_markets_70 (mk0 rfl) rfl) ?_
        refine Eq.trans (q_iload_n dX12_markets_71 (mk0 rfl) rfl) ?_
        refine Eq.trans (q_iload dX12_markets_72 (mk0 rfl) rfl) ?_
        refine Eq.trans (q_callV (as := [.int i1, .int i2, .int i3, .int i4]) dX12_markets_74 (mk0 rfl) rfl rfl rfl (Nat.le_of_ble_eq_true rfl) (Nat.le_of_ble_eq_true rfl)) (bind_cg fun b74 => ?_)
        refine Eq.trans (cI_bind (Or.inl rfl)) (bind_cg fun p74 => ?_)
        show RS (ZZ L xs) (d + 1) mX12_markets 77 [some (.ref o), some (.int i1), some (.int i2), some (.int i3), some (.int i4), some (.int t0)] [.int p74.2] p74.1 = _
        exact q_ireturn dX12_markets_77 (mk0 rfl) rfl
      · rfl
set_option maxRecDepth 20000 in
theorem bX12_markets_59 {L : Nat} {xs : Nat → Int32} (d : Nat) (u0 : Option Value) (u1 : Option Value) (u2 : Option Value) (u3 : Option Value) (u4 : Option Value) (u5 : Option Value) (ph : PH) : RS (ZZ L xs) (d + 1) mX12_markets 59 [u0, u1, u2, u3, u4, u5] [] ph = some (ph, some (.int ((-1)))) := by
  refine Eq.trans (q_iconst (v := (-1)) dX12_markets_59 (show mK mX12_markets 59 [u0, u1, u2, u3, u4, u5] = [none, none, none, none, none, none] from rfl) rfl) ?_
  exact q_ireturn dX12_markets_60 (mk0 rfl) rfl
set_option maxRecDepth 20000 in
theorem bX12_note_0 {L : Nat} {xs : Nat → Int32} (d : Nat) (o : Nat) (i1 : Int32) (i2 : Int32) (i3 : Int32) (ph : PH) : RS (ZZ L xs) (d + 1) mX12_note 0 [some (.ref o), some (.int i1), some (.int i2), some (.int i3), none] [] ph = if ¬ (i1 : Int32) = (-1) then (iO ph (.ref o) 12).bind fun b17 => (cI (ZZ L xs) d mX12_isStranger [.ref b17, .int i2] ph).bind fun p17 => if (p17.2 : Int32) = 0 then RS (ZZ L xs) (d + 1) mX12_note 40 [some (.ref o), some (.int i1), some (.int i2), some (.int i3), none] [] p17.1 else if (i3 : Int32) = (-1) then RS (ZZ L xs) (d + 1) mX12_note 36 [some (.ref o), some (.int i1), some (.int i2), some (.int i3), none] [] p17.1 else (iO p17.1 (.ref o) 12).bind fun b30 => (cI (ZZ L xs) d mX12_isPerson [.ref b30, .int i3] p17.1).bind fun p30 => if (p30.2 : Int32) = 0 then RS (ZZ L xs) (d + 1) mX12_note 40 [some (.ref o), some (.int i1), some (.int i2), some (.int i3), none] [] p30.1 else RS (ZZ L xs) (d + 1) mX12_note 36 [some (.ref o), some (.int i1), some (.int i2), some (.int i3), none] [] p30.1 else (fR ph (.ref o) 12 6).bind fun x6 => (fP ph x6 6 5 (.int 0)).bind fun h10 => some (h10, some (.int 0)) := by
  refine Eq.trans (q_iload_n dX12_note_0 (mk0 rfl) rfl) ?_
  refine Eq.trans (q_iconst (v := (-1)) dX12_note_1 (mk0 rfl) rfl) ?_
  refine Eq.trans (q_icmp_ne (t := 15) dX12_note_2 (mk0 rfl) rfl) (ite_cg ?_ ?_)
  · refine Eq.trans (q_aload_n dX12_note_15 (mk0 rfl) rfl rfl) ?_
    refine Eq.trans (q_iload_n dX12_note_16 (mk0 rfl) rfl) ?_
    refine Eq.trans (q_callV (as := [.int i2]) dX12_note_17 (mk0 rfl) rfl rfl rfl (Nat.le_of_ble_eq_true rfl) (Nat.le_of_ble_eq_true rfl)) (bind_cg fun b17 => ?_)
    refine Eq.trans (cI_bind (Or.inr rfl)) (bind_cg fun p17 => ?_)
    show RS (ZZ L xs) (d + 1) mX12_note 20 [some (.ref o), some (.int i1), some (.int i2), some (.int i3), none] [.int p17.2] p17.1 = _
    refine Eq.trans (q_if_eq (t := 40) dX12_note_20 (mk0 rfl) rfl) (ite_cg ?_ ?_)
    · rfl
    · refine Eq.trans (q_iload_n dX12_note_23 (mk0 rfl) rfl) ?_
      refine Eq.trans (q_iconst (v := (-1)) dX12_note_24 (mk0 rfl) rfl) ?_
      refine Eq.trans (q_icmp_eq (t := 36) dX12_note_25 (mk0 rfl) rfl) (ite_cg ?_ ?_)
      · rfl
      · refine Eq.trans (q_aload_n dX12_note_28 (mk0 rfl) rfl rfl) ?_
        refine Eq.trans (q_iload_n dX12_note_29 (mk0 rfl) rfl) ?_
        refine Eq.trans (q_callV (as := [.int i3]) dX12_note_30 (mk0 rfl) rfl rfl rfl (Nat.le_of_ble_eq_true rfl) (Nat.le_of_ble_eq_true rfl)) (bind_cg fun b30 => ?_)
        refine Eq.trans (cI_bind (Or.inr rfl)) (bind_cg fun p30 => ?_)
        show RS (ZZ L xs) (d + 1) mX12_note 33 [some (.ref o), some (.int i1), some (.int i2), some (.int i3), none] [.int p30.2] p30.1 = _
        refine Eq.trans (q_if_eq (t := 40) dX12_note_33 (mk0 rfl) rfl) (ite_cg ?_ ?_)
        · rfl
        · rfl
  · refine Eq.trans (q_aload_n dX12_note_5 (mk0 rfl) rfl rfl) ?_
    refine Eq.trans (q_getR (ci := 12) (k := 6) dX12_note_6 (mk0 rfl) rfl) (bind_cg2 fun x6 hx6 => ?_)
    have hx6 := fR_isR hx6
    refine Eq.trans (q_iconst (v := 0) dX12_note_9 (mk0 rfl) rfl) ?_
    refine Eq.trans (q_put (ci := 6) (k := 5) (kd := 0) dX12_note_10 (mk0 rfl) rfl rfl (fun h => by cases h)) (bind_cg fun h10 => ?_)
    refine Eq.trans (q_iconst (v := 0) dX12_note_13 (mk0 rfl) rfl) ?_
    exact q_ireturn dX12_note_14 (mk0 rfl) rfl
set_option maxRecDepth 20000 in
theorem bX12_note_36 {L : Nat} {xs : Nat → Int32} (d : Nat) (o : Nat) (i1 : Int32) (i2 : Int32) (i3 : Int32) (u4 : Option Value) (ph : PH) : RS (ZZ L xs) (d + 1) mX12_note 36 [some (.ref o), some (.int i1), some (.int i2), some (.int i3), u4] [] ph = RS (ZZ L xs) (d + 1) mX12_note 41 [some (.ref o), some (.int i1), some (.int i2), some (.int i3), none] [.int 1] ph := by
  refine Eq.trans (q_iconst (v := 1) dX12_note_36 (show mK mX12_note 36 [some (.ref o), some (.int i1), some (.int i2), some (.int i3), u4] = [some (.ref o), some (.int i1), some (.int i2), some (.int i3), none] from rfl) rfl) ?_
  refine Eq.trans (q_goto (t := 41) dX12_note_37 (mk0 rfl) rfl) ?_
  rfl
set_option maxRecDepth 20000 in
theorem bX12_note_40 {L : Nat} {xs : Nat → Int32} (d : Nat) (o : Nat) (i1 : Int32) (i2 : Int32) (i3 : Int32) (u4 : Option Value) (ph : PH) : RS (ZZ L xs) (d + 1) mX12_note 40 [some (.ref o), some (.int i1), some (.int i2), some (.int i3), u4] [] ph = RS (ZZ L xs) (d + 1) mX12_note 41 [some (.ref o), some (.int i1), some (.int i2), some (.int i3), none] [.int 0] ph := by
  refine Eq.trans (q_iconst (v := 0) dX12_note_40 (show mK mX12_note 40 [some (.ref o), some (.int i1), some (.int i2), some (.int i3), u4] = [some (.ref o), some (.int i1), some (.int i2), some (.int i3), none] from rfl) rfl) ?_
  rfl
set_option maxRecDepth 20000 in
theorem bX12_note_41 {L : Nat} {xs : Nat → Int32} (d : Nat) (o : Nat) (i1 : Int32) (i2 : Int32) (i3 : Int32) (u4 : Option Value) (t0 : Int32) (ph : PH) : RS (ZZ L xs) (d + 1) mX12_note 41 [some (.ref o), some (.int i1), some (.int i2), some (.int i3), u4] [.int t0] ph = (cI (ZZ L xs) d mX12_within [.int i1, .int 0, .int 60] ph).bind fun p47 => if (p47.2 : Int32) = 0 then RS (ZZ L xs) (d + 1) mX12_note 70 [some (.ref o), some (.int i1), some (.int i2), some (.int i3), some (.int t0)] [] p47.1 else if (t0 : Int32) = 0 then RS (ZZ L xs) (d + 1) mX12_note 70 [some (.ref o), some (.int i1), some (.int i2), some (.int i3), some (.int t0)] [] p47.1 else (fR p47.1 (.ref o) 12 6).bind fun x59 => (fI p47.1 x59 6 5).bind fun x62 => if (x62 : Int32) < 10 then (fR p47.1 (.ref o) 12 6).bind fun x74 => (iO p47.1 x74 6).bind fun b80 => (cV (ZZ L xs) d mX6_addNote [.ref b80, .int i1, .int i2, .int i3] p47.1).bind fun p80 => (fR p80 (.ref o) 12 6).bind fun x84 => (fI p80 x84 6 5).bind fun x87 => some (p80, some (.int x87)) else RS (ZZ L xs) (d + 1) mX12_note 70 [some (.ref o), some (.int i1), some (.int i2), some (.int i3), some (.int t0)] [] p47.1 := by
  refine Eq.trans (q_istore (lv2 := [some (.ref o), some (.int i1), some (.int i2), some (.int i3), some (.int t0)]) dX12_note_41 (show mK mX12_note 41 [some (.ref o), some (.int i1), some (.int i2), some (.int i3), u4] = [some (.ref o), some (.int i1), some (.int i2), some (.int i3), none] from rfl) (Nat.le_of_ble_eq_true rfl) rfl) ?_
  refine Eq.trans (q_iload_n dX12_note_43 (mk0 rfl) rfl) ?_
  refine Eq.trans (q_iconst (v := 0) dX12_note_44 (mk0 rfl) rfl) ?_
  refine Eq.trans (q_bipush (v := 60) dX12_note_45 (mk0 rfl) rfl) ?_
  refine Eq.trans (q_callS (as := [.int i1, .int 0, .int 60]) dX12_note_47 (mk0 rfl) rfl (Or.inl rfl) rfl rfl (Nat.le_of_ble_eq_true rfl) (Nat.le_of_ble_eq_true rfl)) ?_
  refine Eq.trans (cI_bind (Or.inr rfl)) (bind_cg fun p47 => ?_)
  show RS (ZZ L xs) (d + 1) mX12_note 50 [some (.ref o), some (.int i1), some (.int i2), some (.int i3), some (.int t0)] [.int p47.2] p47.1 = _
  refine Eq.trans (q_if_eq (t := 70) dX12_note_50 (mk0 rfl) rfl) (ite_cg ?_ ?_)
  · rfl
  · refine Eq.trans (q_iload dX12_note_53 (mk0 rfl) rfl) ?_
    refine Eq.trans (q_if_eq (t := 70) dX12_note_55 (mk0 rfl) rfl) (ite_cg ?_ ?_)
    · rfl
    · refine Eq.trans (q_aload_n dX12_note_58 (mk0 rfl) rfl rfl) ?_
      refine Eq.trans (q_getR (ci := 12) (k := 6) dX12_note_59 (mk0 rfl) rfl) (bind_cg2 fun x59 hx59 => ?_)
      have hx59 := fR_isR hx59
      refine Eq.trans (q_getI (ci := 6) (k := 5) dX12_note_62 (mk0 rfl) rfl) (bind_cg fun x62 => ?_)
      refine Eq.trans (q_bipush (v := 10) dX12_note_65 (mk0 rfl) rfl) ?_
      refine Eq.trans (q_icmp_lt (t := 73) dX12_note_67 (mk0 rfl) rfl) (ite_cg ?_ ?_)
      · refine Eq.trans (q_aload_n dX12_note_73 (mk0 rfl) rfl rfl) ?_
        refine Eq.trans (q_getR (ci := 12) (k := 6) dX12_note_74 (mk0 rfl) rfl) (bind_cg2 fun x74 hx74 => ?_)
        have hx74 := fR_isR hx74
        refine Eq.trans (q_iload_n dX12_note_77 (mk0 rfl) rfl) ?_
        refine Eq.trans (q_iload_n dX12_note_78 (mk0 rfl) rfl) ?_
        refine Eq.trans (q_iload_n dX12_note_79 (mk0 rfl) rfl) ?_
        refine Eq.trans (q_callV (as := [.int i1, .int i2, .int i3]) dX12_note_80 (mk0 rfl) rfl rfl rfl (Nat.le_of_ble_eq_true rfl) (Nat.le_of_ble_eq_true rfl)) (bind_cg fun b80 => ?_)
        refine Eq.trans (cV_bind rfl) (bind_cg fun p80 => ?_)
        show RS (ZZ L xs) (d + 1) mX12_note 83 [some (.ref o), some (.int i1), some (.int i2), some (.int i3), some (.int t0)] [] p80 = _
        refine Eq.trans (q_aload_n dX12_note_83 (mk0 rfl) rfl rfl) ?_
        refine Eq.trans (q_getR (ci := 12) (k := 6) dX12_note_84 (mk0 rfl) rfl) (bind_cg2 fun x84 hx84 => ?_)
        have hx84 := fR_isR hx84
        refine Eq.trans (q_getI (ci := 6) (k := 5) dX12_note_87 (mk0 rfl) rfl) (bind_cg fun x87 => ?_)
        exact q_ireturn dX12_note_90 (mk0 rfl) rfl
      · rfl
set_option maxRecDepth 20000 in
theorem bX12_note_70 {L : Nat} {xs : Nat → Int32} (d : Nat) (u0 : Option Value) (u1 : Option Value) (u2 : Option Value) (u3 : Option Value) (u4 : Option Value) (ph : PH) : RS (ZZ L xs) (d + 1) mX12_note 70 [u0, u1, u2, u3, u4] [] ph = some (ph, some (.int ((-2)))) := by
  refine Eq.trans (q_bipush (v := (-2)) dX12_note_70 (show mK mX12_note 70 [u0, u1, u2, u3, u4] = [none, none, none, none, none] from rfl) rfl) ?_
  exact q_ireturn dX12_note_72 (mk0 rfl) rfl
set_option maxRecDepth 20000 in
theorem bX12_liars_0 {L : Nat} {xs : Nat → Int32} (d : Nat) (o : Nat) (i1 : Int32) (ph : PH) : RS (ZZ L xs) (d + 1) mX12_liars 0 [some (.ref o), some (.int i1)] [] ph = (iO ph (.ref o) 12).bind fun b1 => (cI (ZZ L xs) d mX12_hasTown [.ref b1] ph).bind fun p1 => if (p1.2 : Int32) = 0 then RS (ZZ L xs) (d + 1) mX12_liars 16 [some (.ref o), some (.int i1)] [] p1.1 else (cI (ZZ L xs) d mX12_within [.int i1, .int 0, .int 2] p1.1).bind fun p10 => if ¬ (p10.2 : Int32) = 0 then (fR p10.1 (.ref o) 12 10).bind fun x20 => (fR p10.1 (.ref o) 12 6).bind fun x25 => (fI p10.1 x25 6 3).bind fun x28 => (iO p10.1 (.ref o) 12).bind fun b31 => (cR (ZZ L xs) d mX12_ruleNumbered [.ref b31, .int x28] p10.1).bind fun p31 => (iO p31.1 x20 1).bind fun b35 => (cI (ZZ L xs) d mX1_wrongSets [.ref b35, p31.2, .int i1] p31.1).bind fun p35 => some (p35.1, some (.int p35.2)) else RS (ZZ L xs) (d + 1) mX12_liars 16 [some (.ref o), some (.int i1)] [] p10.1 := by
  refine Eq.trans (q_aload_n dX12_liars_0 (mk0 rfl) rfl rfl) ?_
  refine Eq.trans (q_callV (as := []) dX12_liars_1 (mk0 rfl) rfl rfl rfl (Nat.le_of_ble_eq_true rfl) (Nat.le_of_ble_eq_true rfl)) (bind_cg fun b1 => ?_)
  refine Eq.trans (cI_bind (Or.inr rfl)) (bind_cg fun p1 => ?_)
  show RS (ZZ L xs) (d + 1) mX12_liars 4 [some (.ref o), some (.int i1)] [.int p1.2] p1.1 = _
  refine Eq.trans (q_if_eq (t := 16) dX12_liars_4 (mk0 rfl) rfl) (ite_cg ?_ ?_)
  · rfl
  · refine Eq.trans (q_iload_n dX12_liars_7 (mk0 rfl) rfl) ?_
    refine Eq.trans (q_iconst (v := 0) dX12_liars_8 (mk0 rfl) rfl) ?_
    refine Eq.trans (q_iconst (v := 2) dX12_liars_9 (mk0 rfl) rfl) ?_
    refine Eq.trans (q_callS (as := [.int i1, .int 0, .int 2]) dX12_liars_10 (mk0 rfl) rfl (Or.inl rfl) rfl rfl (Nat.le_of_ble_eq_true rfl) (Nat.le_of_ble_eq_true rfl)) ?_
    refine Eq.trans (cI_bind (Or.inr rfl)) (bind_cg fun p10 => ?_)
    show RS (ZZ L xs) (d + 1) mX12_liars 13 [some (.ref o), some (.int i1)] [.int p10.2] p10.1 = _
    refine Eq.trans (q_if_ne (t := 19) dX12_liars_13 (mk0 rfl) rfl) (ite_cg ?_ ?_)
    · refine Eq.trans (q_aload_n dX12_liars_19 (mk0 rfl) rfl rfl) ?_
      refine Eq.trans (q_getR (ci := 12) (k := 10) dX12_liars_20 (mk0 rfl) rfl) (bind_cg2 fun x20 hx20 => ?_)
      have hx20 := fR_isR hx20
      refine Eq.trans (q_aload_n dX12_liars_23 (mk0 rfl) rfl rfl) ?_
      refine Eq.trans (q_aload_n dX12_liars_24 (mk0 rfl) rfl rfl) ?_
      refine Eq.trans (q_getR (ci := 12) (k := 6) dX12_liars_25 (mk0 rfl) rfl) (bind_cg2 fun x25 hx25 => ?_)
      have hx25 := fR_isR hx25
      refine Eq.trans (q_getI (ci := 6) (k := 3) dX12_liars_28 (mk0 rfl) rfl) (bind_cg fun x28 => ?_)
      refine Eq.trans (q_callV (as := [.int x28]) dX12_liars_31 (mk0 rfl) rfl rfl rfl (by simp [catS, ct_i, ct_l, ct_r, ct_n, ct_x, (cat_R hx20)]) (Nat.le_of_ble_eq_true rfl)) (bind_cg fun b31 => ?_)
      refine Eq.trans (cR_bind rfl) (bind_cg2 fun p31 hp31 => ?_)
      have hp31 := cR_isA hp31
      show RS (ZZ L xs) (d + 1) mX12_liars 34 [some (.ref o), some (.int i1)] [p31.2, x20] p31.1 = _
      refine Eq.trans (q_iload_n dX12_liars_34 (mk0 rfl) rfl) ?_
      refine Eq.trans (q_callV (as := [p31.2, .int i1]) dX12_liars_35 (mk0 rfl) rfl rfl rfl (Nat.le_of_ble_eq_true rfl) (by simp [eA, ct_i, ct_l, ct_r, ct_n, ct_x, mX1_wrongSets, (cat_A hp31)])) (bind_cg fun b35 => ?_)
      refine Eq.trans (cI_bind (Or.inl rfl)) (bind_cg fun p35 => ?_)
      show RS (ZZ L xs) (d + 1) mX12_liars 38 [some (.ref o), some (.int i1)] [.int p35.2] p35.1 = _
      exact q_ireturn dX12_liars_38 (mk0 rfl) rfl
    · rfl
set_option maxRecDepth 20000 in
theorem bX12_liars_16 {L : Nat} {xs : Nat → Int32} (d : Nat) (u0 : Option Value) (u1 : Option Value) (ph : PH) : RS (ZZ L xs) (d + 1) mX12_liars 16 [u0, u1] [] ph = some (ph, some (.int ((-3)))) := by
  refine Eq.trans (q_bipush (v := (-3)) dX12_liars_16 (show mK mX12_liars 16 [u0, u1] = [none, none] from rfl) rfl) ?_
  exact q_ireturn dX12_liars_18 (mk0 rfl) rfl
set_option maxRecDepth 20000 in
theorem bX12_ruled_0 {L : Nat} {xs : Nat → Int32} (d : Nat) (o : Nat) (i1 : Int32) (ph : PH) : RS (ZZ L xs) (d + 1) mX12_ruled 0 [some (.ref o), some (.int i1)] [] ph = (iO ph (.ref o) 12).bind fun b1 => (cI (ZZ L xs) d mX12_hasTown [.ref b1] ph).bind fun p1 => if (p1.2 : Int32) = 0 then RS (ZZ L xs) (d + 1) mX12_ruled 16 [some (.ref o), some (.int i1)] [] p1.1 else (cI (ZZ L xs) d mX12_within [.int i1, .int 0, .int 1] p1.1).bind fun p10 => if ¬ (p10.2 : Int32) = 0 then (fR p10.1 (.ref o) 12 10).bind fun x20 => (fR p10.1 (.ref o) 12 3).bind fun x24 => (fI p10.1 (.ref o) 12 4).bind fun x28 => (iO p10.1 x20 1).bind fun b32 => (cI (ZZ L xs) d mX1_rulesThatFit [.ref b32, x24, .int x28, .int i1] p10.1).bind fun p32 => some (p32.1, some (.int p32.2)) else RS (ZZ L xs) (d + 1) mX12_ruled 16 [some (.ref o), some (.int i1)] [] p10.1 := by
  refine Eq.trans (q_aload_n dX12_ruled_0 (mk0 rfl) rfl rfl) ?_
  refine Eq.trans (q_callV (as := []) dX12_ruled_1 (mk0 rfl) rfl rfl rfl (Nat.le_of_ble_eq_true rfl) (Nat.le_of_ble_eq_true rfl)) (bind_cg fun b1 => ?_)
  refine Eq.trans (cI_bind (Or.inr rfl)) (bind_cg fun p1 => ?_)
  show RS (ZZ L xs) (d + 1) mX12_ruled 4 [some (.ref o), some (.int i1)] [.int p1.2] p1.1 = _
  refine Eq.trans (q_if_eq (t := 16) dX12_ruled_4 (mk0 rfl) rfl) (ite_cg ?_ ?_)
  · rfl
  · refine Eq.trans (q_iload_n dX12_ruled_7 (mk0 rfl) rfl) ?_
    refine Eq.trans (q_iconst (v := 0) dX12_ruled_8 (mk0 rfl) rfl) ?_
    refine Eq.trans (q_iconst (v := 1) dX12_ruled_9 (mk0 rfl) rfl) ?_
    refine Eq.trans (q_callS (as := [.int i1, .int 0, .int 1]) dX12_ruled_10 (mk0 rfl) rfl (Or.inl rfl) rfl rfl (Nat.le_of_ble_eq_true rfl) (Nat.le_of_ble_eq_true rfl)) ?_
    refine Eq.trans (cI_bind (Or.inr rfl)) (bind_cg fun p10 => ?_)
    show RS (ZZ L xs) (d + 1) mX12_ruled 13 [some (.ref o), some (.int i1)] [.int p10.2] p10.1 = _
    refine Eq.trans (q_if_ne (t := 19) dX12_ruled_13 (mk0 rfl) rfl) (ite_cg ?_ ?_)
    · refine Eq.trans (q_aload_n dX12_ruled_19 (mk0 rfl) rfl rfl) ?_
      refine Eq.trans (q_getR (ci := 12) (k := 10) dX12_ruled_20 (mk0 rfl) rfl) (bind_cg2 fun x20 hx20 => ?_)
      have hx20 := fR_isR hx20
      refine Eq.trans (q_aload_n dX12_ruled_23 (mk0 rfl) rfl rfl) ?_
      refine Eq.trans (q_getR (ci := 12) (k := 3) dX12_ruled_24 (mk0 rfl) rfl) (bind_cg2 fun x24 hx24 => ?_)
      have hx24 := fR_isR hx24
      refine Eq.trans (q_aload_n dX12_ruled_27 (mk0 rfl) rfl rfl) ?_
      refine Eq.trans (q_getI (ci := 12) (k := 4) dX12_ruled_28 (mk0 rfl) rfl) (bind_cg fun x28 => ?_)
      refine Eq.trans (q_iload_n dX12_ruled_31 (mk0 rfl) rfl) ?_
      refine Eq.trans (q_callV (as := [x24, .int x28, .int i1]) dX12_ruled_32 (mk0 rfl) rfl rfl rfl (Nat.le_of_ble_eq_true rfl) (by simp [eA, ct_i, ct_l, ct_r, ct_n, ct_x, mX1_rulesThatFit, (cat_R hx24)])) (bind_cg fun b32 => ?_)
      refine Eq.trans (cI_bind (Or.inl rfl)) (bind_cg fun p32 => ?_)
      show RS (ZZ L xs) (d + 1) mX12_ruled 35 [some (.ref o), some (.int i1)] [.int p32.2] p32.1 = _
      exact q_ireturn dX12_ruled_35 (mk0 rfl) rfl
    · rfl
set_option maxRecDepth 20000 in
theorem bX12_ruled_16 {L : Nat} {xs : Nat → Int32} (d : Nat) (u0 : Option Value) (u1 : Option Value) (ph : PH) : RS (ZZ L xs) (d + 1) mX12_ruled 16 [u0, u1] [] ph = some (ph, some (.int ((-3)))) := by
  refine Eq.trans (q_bipush (v := (-3)) dX12_ruled_16 (show mK mX12_ruled 16 [u0, u1] = [none, none] from rfl) rfl) ?_
  exact q_ireturn dX12_ruled_18 (mk0 rfl) rfl
set_option maxRecDepth 20000 in
theorem bX12_look_0 {L : Nat} {xs : Nat → Int32} (d : Nat) (o : Nat) (i1 : Int32) (i2 : Int32) (ph : PH) : RS (ZZ L xs) (d + 1) mX12_look 0 [some (.ref o), some (.int i1), some (.int i2)] [] ph = (iO ph (.ref o) 12).bind fun b1 => (cI (ZZ L xs) d mX12_hasTown [.ref b1] ph).bind fun p1 => if (p1.2 : Int32) = 0 then RS (ZZ L xs) (d + 1) mX12_look 26 [some (.ref o), some (.int i1), some (.int i2)] [] p1.1 else (cI (ZZ L xs) d mX12_within [.int i1, .int 0, .int 60] p1.1).bind fun p11 => if (p11.2 : Int32) = 0 then RS (ZZ L xs) (d + 1) mX12_look 26 [some (.ref o), some (.int i1), some (.int i2)] [] p11.1 else (cI (ZZ L xs) d mX12_within [.int i2, .int 0, .int 1] p11.1).bind fun p20 => if ¬ (p20.2 : Int32) = 0 then (fR p20.1 (.ref o) 12 10).bind fun x29 => (fR p20.1 (.ref o) 12 3).bind fun x33 => (fI p20.1 (.ref o) 12 4).bind fun x37 => (iO p20.1 x29 1).bind fun b42 => (cI (ZZ L xs) d mX1_bestLook [.ref b42, x33, .int x37, .int i1, .int i2] p20.1).bind fun p42 => some (p42.1, some (.int p42.2)) else RS (ZZ L xs) (d + 1) mX12_look 26 [some (.ref o), some (.int i1), some (.int i2)] [] p20.1 := by
  refine Eq.trans (q_aload_n dX12_look_0 (mk0 rfl) rfl rfl) ?_
  refine Eq.trans (q_callV (as := []) dX12_look_1 (mk0 rfl) rfl rfl rfl (Nat.le_of_ble_eq_true rfl) (Nat.le_of_ble_eq_true rfl)) (bind_cg fun b1 => ?_)
  refine Eq.trans (cI_bind (Or.inr rfl)) (bind_cg fun p1 => ?_)
  show RS (ZZ L xs) (d + 1) mX12_look 4 [some (.ref o), some (.int i1), some (.int i2)] [.int p1.2] p1.1 = _
  refine Eq.trans (q_if_eq (t := 26) dX12_look_4 (mk0 rfl) rfl) (ite_cg ?_ ?_)
  · rfl
  · refine Eq.trans (q_iload_n dX12_look_7 (mk0 rfl) rfl) ?_
    refine Eq.trans (q_iconst (v := 0) dX12_look_8 (mk0 rfl) rfl) ?_
    refine Eq.trans (q_bipush (v := 60) dX12_look_9 (mk0 rfl) rfl) ?_
    refine Eq.trans (q_callS (as := [.int i1, .int 0, .int 60]) dX12_look_11 (mk0 rfl) rfl (Or.inl rfl) rfl rfl (Nat.le_of_ble_eq_true rfl) (Nat.le_of_ble_eq_true rfl)) ?_
    refine Eq.trans (cI_bind (Or.inr rfl)) (bind_cg fun p11 => ?_)
    show RS (ZZ L xs) (d + 1) mX12_look 14 [some (.ref o), some (.int i1), some (.int i2)] [.int p11.2] p11.1 = _
    refine Eq.trans (q_if_eq (t := 26) dX12_look_14 (mk0 rfl) rfl) (ite_cg ?_ ?_)
    · rfl
    · refine Eq.trans (q_iload_n dX12_look_17 (mk0 rfl) rfl) ?_
      refine Eq.trans (q_iconst (v := 0) dX12_look_18 (mk0 rfl) rfl) ?_
      refine Eq.trans (q_iconst (v := 1) dX12_look_19 (mk0 rfl) rfl) ?_
      refine Eq.trans (q_callS (as := [.int i2, .int 0, .int 1]) dX12_look_20 (mk0 rfl) rfl (Or.inl rfl) rfl rfl (Nat.le_of_ble_eq_true rfl) (Nat.le_of_ble_eq_true rfl)) ?_
      refine Eq.trans (cI_bind (Or.inr rfl)) (bind_cg fun p20 => ?_)
      show RS (ZZ L xs) (d + 1) mX12_look 23 [some (.ref o), some (.int i1), some (.int i2)] [.int p20.2] p20.1 = _
      refine Eq.trans (q_if_ne (t := 28) dX12_look_23 (mk0 rfl) rfl) (ite_cg ?_ ?_)
      · refine Eq.trans (q_aload_n dX12_look_28 (mk0 rfl) rfl rfl) ?_
        refine Eq.trans (q_getR (ci := 12) (k := 10) dX12_look_29 (mk0 rfl) rfl) (bind_cg2 fun x29 hx29 => ?_)
        have hx29 := fR_isR hx29
        refine Eq.trans (q_aload_n dX12_look_32 (mk0 rfl) rfl rfl) ?_
        refine Eq.trans (q_getR (ci := 12) (k := 3) dX12_look_33 (mk0 rfl) rfl) (bind_cg2 fun x33 hx33 => ?_)
        have hx33 := fR_isR hx33
        refine Eq.trans (q_aload_n dX12_look_36 (mk0 rfl) rfl rfl) ?_
        refine Eq.trans (q_getI (ci := 12) (k := 4) dX12_look_37 (mk0 rfl) rfl) (bind_cg fun x37 => ?_)
        refine Eq.trans (q_iload_n dX12_look_40 (mk0 rfl) rfl) ?_
        refine Eq.trans (q_iload_n dX12_look_41 (mk0 rfl) rfl) ?_
        refine Eq.trans (q_callV (as := [x33, .int x37, .int i1, .int i2]) dX12_look_42 (mk0 rfl) rfl rfl rfl (Nat.le_of_ble_eq_true rfl) (by simp [eA, ct_i, ct_l, ct_r, ct_n, ct_x, mX1_bestLook, (cat_R hx33)])) (bind_cg fun b42 => ?_)
        refine Eq.trans (cI_bind (Or.inl rfl)) (bind_cg fun p42 => ?_)
        show RS (ZZ L xs) (d + 1) mX12_look 45 [some (.ref o), some (.int i1), some (.int i2)] [.int p42.2] p42.1 = _
        exact q_ireturn dX12_look_45 (mk0 rfl) rfl
      · rfl
set_option maxRecDepth 20000 in
theorem bX12_look_26 {L : Nat} {xs : Nat → Int32} (d : Nat) (u0 : Option Value) (u1 : Option Value) (u2 : Option Value) (ph : PH) : RS (ZZ L xs) (d + 1) mX12_look 26 [u0, u1, u2] [] ph = some (ph, some (.int ((-1)))) := by
  refine Eq.trans (q_iconst (v := (-1)) dX12_look_26 (show mK mX12_look 26 [u0, u1, u2] = [none, none, none] from rfl) rfl) ?_
  exact q_ireturn dX12_look_27 (mk0 rfl) rfl
set_option maxRecDepth 20000 in
theorem bX12_seed_0 {L : Nat} {xs : Nat → Int32} (d : Nat) (o : Nat) (i1 : Int32) (ph : PH) : RS (ZZ L xs) (d + 1) mX12_seed 0 [some (.ref o), some (.int i1), none] [] ph = if (0 : Int32) ≤ i1 then (fR ph (.ref o) 12 6).bind fun x7 => (fI ph x7 6 4).bind fun x10 => (fR ph (.ref o) 12 6).bind fun x15 => (fP ph x15 6 4 (.int i1)).bind fun h19 => some (h19, some (.int x10)) else some (ph, some (.int ((-1)))) := by
  refine Eq.trans (q_iload_n dX12_seed_0 (mk0 rfl) rfl) ?_
  refine Eq.trans (q_if_ge (t := 6) dX12_seed_1 (mk0 rfl) rfl) (ite_cg ?_ ?_)
  · refine Eq.trans (q_aload_n dX12_seed_6 (mk0 rfl) rfl rfl) ?_
    refine Eq.trans (q_getR (ci := 12) (k := 6) dX12_seed_7 (mk0 rfl) rfl) (bind_cg2 fun x7 hx7 => ?_)
    have hx7 := fR_isR hx7
    refine Eq.trans (q_getI (ci := 6) (k := 4) dX12_seed_10 (mk0 rfl) rfl) (bind_cg fun x10 => ?_)
    refine Eq.trans (q_istore_n (lv2 := [some (.ref o), some (.int i1), some (.int x10)]) dX12_seed_13 (mk0 rfl) (Nat.le_of_ble_eq_true rfl) rfl) ?_
    refine Eq.trans (q_aload_n dX12_seed_14 (mk0 rfl) rfl rfl) ?_
    refine Eq.trans (q_getR (ci := 12) (k := 6) dX12_seed_15 (mk0 rfl) rfl) (bind_cg2 fun x15 hx15 => ?_)
    have hx15 := fR_isR hx15
    refine Eq.trans (q_iload_n dX12_seed_18 (mk0 rfl) rfl) ?_
    refine Eq.trans (q_put (ci := 6) (k := 4) (kd := 0) dX12_seed_19 (mk0 rfl) rfl rfl (fun h => by cases h)) (bind_cg fun h19 => ?_)
    refine Eq.trans (q_iload_n dX12_seed_22 (mk0 rfl) rfl) ?_
    exact q_ireturn dX12_seed_23 (mk0 rfl) rfl
  · refine Eq.trans (q_iconst (v := (-1)) dX12_seed_4 (mk0 rfl) rfl) ?_
    exact q_ireturn dX12_seed_5 (mk0 rfl) rfl
set_option maxRecDepth 20000 in
theorem bX12_count_0 {L : Nat} {xs : Nat → Int32} (d : Nat) (o : Nat) (i1 : Int32) (ph : PH) : RS (ZZ L xs) (d + 1) mX12_count 0 [some (.ref o), some (.int i1)] [] ph = if (i1 : Int32) = 0 then RS (ZZ L xs) (d + 1) mX12_count 72 [some (.ref o), some (.int i1)] [] ph else if (i1 : Int32) = 1 then RS (ZZ L xs) (d + 1) mX12_count 83 [some (.ref o), some (.int i1)] [] ph else if (i1 : Int32) = 2 then RS (ZZ L xs) (d + 1) mX12_count 94 [some (.ref o), some (.int i1)] [] ph else if (i1 : Int32) = 3 then RS (ZZ L xs) (d + 1) mX12_count 105 [some (.ref o), some (.int i1)] [] ph else if (i1 : Int32) = 4 then RS (ZZ L xs) (d + 1) mX12_count 116 [some (.ref o), some (.int i1)] [] ph else if (i1 : Int32) = 5 then RS (ZZ L xs) (d + 1) mX12_count 121 [some (.ref o), some (.int i1)] [] ph else if (i1 : Int32) = 6 then RS (ZZ L xs) (d + 1) mX12_count 129 [some (.ref o), some (.int i1)] [] ph else if (i1 : Int32) = 7 then RS (ZZ L xs) (d + 1) mX12_count 140 [some (.ref o), some (.int i1)] [] ph else if (i1 : Int32) = 8 then RS (ZZ L xs) (d + 1) mX12_count 151 [some (.ref o), some (.int i1)] [] ph else if (i1 : Int32) = 9 then RS (ZZ L xs) (d + 1) mX12_count 162 [some (.ref o), some (.int i1)] [] ph else if (i1 : Int32) = 10 then RS (ZZ L xs) (d + 1) mX12_count 173 [some (.ref o), some (.int i1)] [] ph else if (i1 : Int32) = 11 then RS (ZZ L xs) (d + 1) mX12_count 181 [some (.ref o), some (.int i1)] [] ph else if (i1 : Int32) = 12 then RS (ZZ L xs) (d + 1) mX12_count 192 [some (.ref o), some (.int i1)] [] ph else if (i1 : Int32) = 13 then RS (ZZ L xs) (d + 1) mX12_count 200 [some (.ref o), some (.int i1)] [] ph else RS (ZZ L xs) (d + 1) mX12_count 208 [some (.ref o), some (.int i1)] [] ph := by
  refine Eq.trans (q_iload_n dX12_count_0 (mk0 rfl) rfl) ?_
  refine Eq.trans (q_tableswitch dX12_count_1 (mk0 rfl)) ?_
  generalize (i1 : Int32) = y1
  by_cases hy0 : y1 = 0
  · rw [if_pos hy0, hy0]; rfl
  rw [if_neg hy0]
  by_cases hy1 : y1 = 1
  · rw [if_pos hy1, hy1]; rfl
  rw [if_neg hy1]
  by_cases hy2 : y1 = 2
  · rw [if_pos hy2, hy2]; rfl
  rw [if_neg hy2]
  by_cases hy3 : y1 = 3
  · rw [if_pos hy3, hy3]; rfl
  rw [if_neg hy3]
  by_cases hy4 : y1 = 4
  · rw [if_pos hy4, hy4]; rfl
  rw [if_neg hy4]
  by_cases hy5 : y1 = 5
  · rw [if_pos hy5, hy5]; rfl
  rw [if_neg hy5]
  by_cases hy6 : y1 = 6
  · rw [if_pos hy6, hy6]; rfl
  rw [if_neg hy6]
  by_cases hy7 : y1 = 7
  · rw [if_pos hy7, hy7]; rfl
  rw [if_neg hy7]
  by_cases hy8 : y1 = 8
  · rw [if_pos hy8, hy8]; rfl
  rw [if_neg hy8]
  by_cases hy9 : y1 = 9
  · rw [if_pos hy9, hy9]; rfl
  rw [if_neg hy9]
  by_cases hy10 : y1 = 10
  · rw [if_pos hy10, hy10]; rfl
  rw [if_neg hy10]
  by_cases hy11 : y1 = 11
  · rw [if_pos hy11, hy11]; rfl
  rw [if_neg hy11]
  by_cases hy12 : y1 = 12
  · rw [if_pos hy12, hy12]; rfl
  rw [if_neg hy12]
  by_cases hy13 : y1 = 13
  · rw [if_pos hy13, hy13]; rfl
  rw [if_neg hy13]
  have ny0 := i32_ne hy0 (n := 0) rfl
  have ny1 := i32_ne hy1 (n := 1) rfl
  have ny2 := i32_ne hy2 (n := 2) rfl
  have ny3 := i32_ne hy3 (n := 3) rfl
  have ny4 := i32_ne hy4 (n := 4) rfl
  have ny5 := i32_ne hy5 (n := 5) rfl
  have ny6 := i32_ne hy6 (n := 6) rfl
  have ny7 := i32_ne hy7 (n := 7) rfl
  have ny8 := i32_ne hy8 (n := 8) rfl
  have ny9 := i32_ne hy9 (n := 9) rfl
  have ny10 := i32_ne hy10 (n := 10) rfl
  have ny11 := i32_ne hy11 (n := 11) rfl
  have ny12 := i32_ne hy12 (n := 12) rfl
  have ny13 := i32_ne hy13 (n := 13) rfl
  rw [sw_out (t := 208) (by omega) rfl]
  rfl
set_option maxRecDepth 20000 in
theorem bX12_count_72 {L : Nat} {xs : Nat → Int32} (d : Nat) (o : Nat) (u1 : Option Value) (ph : PH) : RS (ZZ L xs) (d + 1) mX12_count 72 [some (.ref o), u1] [] ph = (fR ph (.ref o) 12 6).bind fun x73 => (fR ph x73 6 0).bind fun x76 => (fI ph x76 9 0).bind fun x79 => some (ph, some (.int x79)) := by
  refine Eq.trans (q_aload_n dX12_count_72 (show mK mX12_count 72 [some (.ref o), u1] = [some (.ref o), none] from rfl) rfl rfl) ?_
  refine Eq.trans (q_getR (ci := 12) (k := 6) dX12_count_73 (mk0 rfl) rfl) (bind_cg2 fun x73 hx73 => ?_)
  have hx73 := fR_isR hx73
  refine Eq.trans (q_getR (ci := 6) (k := 0) dX12_count_76 (mk0 rfl) rfl) (bind_cg2 fun x76 hx76 => ?_)
  have hx76 := fR_isR hx76
  refine Eq.trans (q_getI (ci := 9) (k := 0) dX12_count_79 (mk0 rfl) rfl) (bind_cg fun x79 => ?_)
  exact q_ireturn dX12_count_82 (mk0 rfl) rfl
set_option maxRecDepth 20000 in
theorem bX12_count_83 {L : Nat} {xs : Nat → Int32} (d : Nat) (o : Nat) (u1 : Option Value) (ph : PH) : RS (ZZ L xs) (d + 1) mX12_count 83 [some (.ref o), u1] [] ph = (fR ph (.ref o) 12 6).bind fun x84 => (fR ph x84 6 0).bind fun x87 => (fI ph x87 9 1).bind fun x90 => some (ph, some (.int x90)) := by
  refine Eq.trans (q_aload_n dX12_count_83 (show mK mX12_count 83 [some (.ref o), u1] = [some (.ref o), none] from rfl) rfl rfl) ?_
  refine Eq.trans (q_getR (ci := 12) (k := 6) dX12_count_84 (mk0 rfl) rfl) (bind_cg2 fun x84 hx84 => ?_)
  have hx84 := fR_isR hx84
  refine Eq.trans (q_getR (ci := 6) (k := 0) dX12_count_87 (mk0 rfl) rfl) (bind_cg2 fun x87 hx87 => ?_)
  have hx87 := fR_isR hx87
  refine Eq.trans (q_getI (ci := 9) (k := 1) dX12_count_90 (mk0 rfl) rfl) (bind_cg fun x90 => ?_)
  exact q_ireturn dX12_count_93 (mk0 rfl) rfl
set_option maxRecDepth 20000 in
theorem bX12_count_94 {L : Nat} {xs : Nat → Int32} (d : Nat) (o : Nat) (u1 : Option Value) (ph : PH) : RS (ZZ L xs) (d + 1) mX12_count 94 [some (.ref o), u1] [] ph = (fR ph (.ref o) 12 6).bind fun x95 => (fR ph x95 6 0).bind fun x98 => (fI ph x98 9 2).bind fun x101 => some (ph, some (.int x101)) := by
  refine Eq.trans (q_aload_n dX12_count_94 (show mK mX12_count 94 [some (.ref o), u1] = [some (.ref o), none] from rfl) rfl rfl) ?_
  refine Eq.trans (q_getR (ci := 12) (k := 6) dX12_count_95 (mk0 rfl) rfl) (bind_cg2 fun x95 hx95 => ?_)
  have hx95 := fR_isR hx95
  refine Eq.trans (q_getR (ci := 6) (k := 0) dX12_count_98 (mk0 rfl) rfl) (bind_cg2 fun x98 hx98 => ?_)
  have hx98 := fR_isR hx98
  refine Eq.trans (q_getI (ci := 9) (k := 2) dX12_count_101 (mk0 rfl) rfl) (bind_cg fun x101 => ?_)
  exact q_ireturn dX12_count_104 (mk0 rfl) rfl
set_option maxRecDepth 20000 in
theorem bX12_count_105 {L : Nat} {xs : Nat → Int32} (d : Nat) (o : Nat) (u1 : Option Value) (ph : PH) : RS (ZZ L xs) (d + 1) mX12_count 105 [some (.ref o), u1] [] ph = (fR ph (.ref o) 12 6).bind fun x106 => (fR ph x106 6 0).bind fun x109 => (fI ph x109 9 3).bind fun x112 => some (ph, some (.int x112)) := by
  refine Eq.trans (q_aload_n dX12_count_105 (show mK mX12_count 105 [some (.ref o), u1] = [some (.ref o), none] from rfl) rfl rfl) ?_
  refine Eq.trans (q_getR (ci := 12) (k := 6) dX12_count_106 (mk0 rfl) rfl) (bind_cg2 fun x106 hx106 => ?_)
  have hx106 := fR_isR hx106
  refine Eq.trans (q_getR (ci := 6) (k := 0) dX12_count_109 (mk0 rfl) rfl) (bind_cg2 fun x109 hx109 => ?_)
  have hx109 := fR_isR hx109
  refine Eq.trans (q_getI (ci := 9) (k := 3) dX12_count_112 (mk0 rfl) rfl) (bind_cg fun x112 => ?_)
  exact q_ireturn dX12_count_115 (mk0 rfl) rfl
set_option maxRecDepth 20000 in
theorem bX12_count_116 {L : Nat} {xs : Nat → Int32} (d : Nat) (o : Nat) (u1 : Option Value) (ph : PH) : RS (ZZ L xs) (d + 1) mX12_count 116 [some (.ref o), u1] [] ph = (fI ph (.ref o) 12 4).bind fun x117 => some (ph, some (.int x117)) := by
  refine Eq.trans (q_aload_n dX12_count_116 (show mK mX12_count 116 [some (.ref o), u1] = [some (.ref o), none] from rfl) rfl rfl) ?_
  refine Eq.trans (q_getI (ci := 12) (k := 4) dX12_count_117 (mk0 rfl) rfl) (bind_cg fun x117 => ?_)
  exact q_ireturn dX12_count_120 (mk0 rfl) rfl
set_option maxRecDepth 20000 in
theorem bX12_count_121 {L : Nat} {xs : Nat → Int32} (d : Nat) (o : Nat) (u1 : Option Value) (ph : PH) : RS (ZZ L xs) (d + 1) mX12_count 121 [some (.ref o), u1] [] ph = (fR ph (.ref o) 12 6).bind fun x122 => (fI ph x122 6 3).bind fun x125 => some (ph, some (.int x125)) := by
  refine Eq.trans (q_aload_n dX12_count_121 (show mK mX12_count 121 [some (.ref o), u1] = [some (.ref o), none] from rfl) rfl rfl) ?_
  refine Eq.trans (q_getR (ci := 12) (k := 6) dX12_count_122 (mk0 rfl) rfl) (bind_cg2 fun x122 hx122 => ?_)
  have hx122 := fR_isR hx122
  refine Eq.trans (q_getI (ci := 6) (k := 3) dX12_count_125 (mk0 rfl) rfl) (bind_cg fun x125 => ?_)
  exact q_ireturn dX12_count_128 (mk0 rfl) rfl
set_option maxRecDepth 20000 in
theorem bX12_count_129 {L : Nat} {xs : Nat → Int32} (d : Nat) (o : Nat) (u1 : Option Value) (ph : PH) : RS (ZZ L xs) (d + 1) mX12_count 129 [some (.ref o), u1] [] ph = (fR ph (.ref o) 12 6).bind fun x130 => (fR ph x130 6 1).bind fun x133 => (fI ph x133 7 0).bind fun x136 => some (ph, some (.int x136)) := by
  refine Eq.trans (q_aload_n dX12_count_129 (show mK mX12_count 129 [some (.ref o), u1] = [some (.ref o), none] from rfl) rfl rfl) ?_
  refine Eq.trans (q_getR (ci := 12) (k := 6) dX12_count_130 (mk0 rfl) rfl) (bind_cg2 fun x130 hx130 => ?_)
  have hx130 := fR_isR hx130
  refine Eq.trans (q_getR (ci := 6) (k := 1) dX12_count_133 (mk0 rfl) rfl) (bind_cg2 fun x133 hx133 => ?_)
  have hx133 := fR_isR hx133
  refine Eq.trans (q_getI (ci := 7) (k := 0) dX12_count_136 (mk0 rfl) rfl) (bind_cg fun x136 => ?_)
  exact q_ireturn dX12_count_139 (mk0 rfl) rfl
set_option maxRecDepth 20000 in
theorem bX12_count_140 {L : Nat} {xs : Nat → Int32} (d : Nat) (o : Nat) (u1 : Option Value) (ph : PH) : RS (ZZ L xs) (d + 1) mX12_count 140 [some (.ref o), u1] [] ph = (fR ph (.ref o) 12 6).bind fun x141 => (fR ph x141 6 1).bind fun x144 => (fI ph x144 7 1).bind fun x147 => some (ph, some (.int x147)) := by
  refine Eq.trans (q_aload_n dX12_count_140 (show mK mX12_count 140 [some (.ref o), u1] = [some (.ref o), none] from rfl) rfl rfl) ?_
  refine Eq.trans (q_getR (ci := 12) (k := 6) dX12_count_141 (mk0 rfl) rfl) (bind_cg2 fun x141 hx141 => ?_)
  have hx141 := fR_isR hx141
  refine Eq.trans (q_getR (ci := 6) (k := 1) dX12_count_144 (mk0 rfl) rfl) (bind_cg2 fun x144 hx144 => ?_)
  have hx144 := fR_isR hx144
  refine Eq.trans (q_getI (ci := 7) (k := 1) dX12_count_147 (mk0 rfl) rfl) (bind_cg fun x147 => ?_)
  exact q_ireturn dX12_count_150 (mk0 rfl) rfl
set_option maxRecDepth 20000 in
theorem bX12_count_151 {L : Nat} {xs : Nat → Int32} (d : Nat) (o : Nat) (u1 : Option Value) (ph : PH) : RS (ZZ L xs) (d + 1) mX12_count 151 [some (.ref o), u1] [] ph = (fR ph (.ref o) 12 6).bind fun x152 => (fR ph x152 6 1).bind fun x155 => (fI ph x155 7 2).bind fun x158 => some (ph, some (.int x158)) := by
  refine Eq.trans (q_aload_n dX12_count_151 (show mK mX12_count 151 [some (.ref o), u1] = [some (.ref o), none] from rfl) rfl rfl) ?_
  refine Eq.trans (q_getR (ci := 12) (k := 6) dX12_count_152 (mk0 rfl) rfl) (bind_cg2 fun x152 hx152 => ?_)
  have hx152 := fR_isR hx152
  refine Eq.trans (q_getR (ci := 6) (k := 1) dX12_count_155 (mk0 rfl) rfl) (bind_cg2 fun x155 hx155 => ?_)
  have hx155 := fR_isR hx155
  refine Eq.trans (q_getI (ci := 7) (k := 2) dX12_count_158 (mk0 rfl) rfl) (bind_cg fun x158 => ?_)
  exact q_ireturn dX12_count_161 (mk0 rfl) rfl
set_option maxRecDepth 20000 in
theorem bX12_count_162 {L : Nat} {xs : Nat → Int32} (d : Nat) (o : Nat) (u1 : Option Value) (ph : PH) : RS (ZZ L xs) (d + 1) mX12_count 162 [some (.ref o), u1] [] ph = (fR ph (.ref o) 12 6).bind fun x163 => (fR ph x163 6 1).bind fun x166 => (iO ph x166 7).bind fun b169 => (cI (ZZ L xs) d mX7_askedInAll [.ref b169] ph).bind fun p169 => some (p169.1, some (.int p169.2)) := by
  refine Eq.trans (q_aload_n dX12_count_162 (show mK mX12_count 162 [some (.ref o), u1] = [some (.ref o), none] from rfl) rfl rfl) ?_
  refine Eq.trans (q_getR (ci := 12) (k := 6) dX12_count_163 (mk0 rfl) rfl) (bind_cg2 fun x163 hx163 => ?_)
  have hx163 := fR_isR hx163
  refine Eq.trans (q_getR (ci := 6) (k := 1) dX12_count_166 (mk0 rfl) rfl) (bind_cg2 fun x166 hx166 => ?_)
  have hx166 := fR_isR hx166
  refine Eq.trans (q_callV (as := []) dX12_count_169 (mk0 rfl) rfl rfl rfl (Nat.le_of_ble_eq_true rfl) (Nat.le_of_ble_eq_true rfl)) (bind_cg fun b169 => ?_)
  refine Eq.trans (cI_bind (Or.inl rfl)) (bind_cg fun p169 => ?_)
  show RS (ZZ L xs) (d + 1) mX12_count 172 [some (.ref o), none] [.int p169.2] p169.1 = _
  exact q_ireturn dX12_count_172 (mk0 rfl) rfl
set_option maxRecDepth 20000 in
theorem bX12_count_173 {L : Nat} {xs : Nat → Int32} (d : Nat) (o : Nat) (u1 : Option Value) (ph : PH) : RS (ZZ L xs) (d + 1) mX12_count 173 [some (.ref o), u1] [] ph = (fR ph (.ref o) 12 6).bind fun x174 => (fI ph x174 6 5).bind fun x177 => some (ph, some (.int x177)) := by
  refine Eq.trans (q_aload_n dX12_count_173 (show mK mX12_count 173 [some (.ref o), u1] = [some (.ref o), none] from rfl) rfl rfl) ?_
  refine Eq.trans (q_getR (ci := 12) (k := 6) dX12_count_174 (mk0 rfl) rfl) (bind_cg2 fun x174 hx174 => ?_)
  have hx174 := fR_isR hx174
  refine Eq.trans (q_getI (ci := 6) (k := 5) dX12_count_177 (mk0 rfl) rfl) (bind_cg fun x177 => ?_)
  exact q_ireturn dX12_count_180 (mk0 rfl) rfl
set_option maxRecDepth 20000 in
theorem bX12_count_181 {L : Nat} {xs : Nat → Int32} (d : Nat) (o : Nat) (u1 : Option Value) (ph : PH) : RS (ZZ L xs) (d + 1) mX12_count 181 [some (.ref o), u1] [] ph = (fR ph (.ref o) 12 6).bind fun x182 => (fR ph x182 6 2).bind fun x185 => (fI ph x185 3 0).bind fun x188 => some (ph, some (.int x188)) := by
  refine Eq.trans (q_aload_n dX12_count_181 (show mK mX12_count 181 [some (.ref o), u1] = [some (.ref o), none] from rfl) rfl rfl) ?_
  refine Eq.trans (q_getR (ci := 12) (k := 6) dX12_count_182 (mk0 rfl) rfl) (bind_cg2 fun x182 hx182 => ?_)
  have hx182 := fR_isR hx182
  refine Eq.trans (q_getR (ci := 6) (k := 2) dX12_count_185 (mk0 rfl) rfl) (bind_cg2 fun x185 hx185 => ?_)
  have hx185 := fR_isR hx185
  refine Eq.trans (q_getI (ci := 3) (k := 0) dX12_count_188 (mk0 rfl) rfl) (bind_cg fun x188 => ?_)
  exact q_ireturn dX12_count_191 (mk0 rfl) rfl
set_option maxRecDepth 20000 in
theorem bX12_count_192 {L : Nat} {xs : Nat → Int32} (d : Nat) (o : Nat) (u1 : Option Value) (ph : PH) : RS (ZZ L xs) (d + 1) mX12_count 192 [some (.ref o), u1] [] ph = (fR ph (.ref o) 12 6).bind fun x193 => (fI ph x193 6 4).bind fun x196 => some (ph, some (.int x196)) := by
  refine Eq.trans (q_aload_n dX12_count_192 (show mK mX12_count 192 [some (.ref o), u1] = [some (.ref o), none] from rfl) rfl rfl) ?_
  refine Eq.trans (q_getR (ci := 12) (k := 6) dX12_count_193 (mk0 rfl) rfl) (bind_cg2 fun x193 hx193 => ?_)
  have hx193 := fR_isR hx193
  refine Eq.trans (q_getI (ci := 6) (k := 4) dX12_count_196 (mk0 rfl) rfl) (bind_cg fun x196 => ?_)
  exact q_ireturn dX12_count_199 (mk0 rfl) rfl
set_option maxRecDepth 20000 in
theorem bX12_count_200 {L : Nat} {xs : Nat → Int32} (d : Nat) (o : Nat) (u1 : Option Value) (ph : PH) : RS (ZZ L xs) (d + 1) mX12_count 200 [some (.ref o), u1] [] ph = (fR ph (.ref o) 12 0).bind fun x201 => (fI ph x201 8 1).bind fun x204 => some (ph, some (.int x204)) := by
  refine Eq.trans (q_aload_n dX12_count_200 (show mK mX12_count 200 [some (.ref o), u1] = [some (.ref o), none] from rfl) rfl rfl) ?_
  refine Eq.trans (q_getR (ci := 12) (k := 0) dX12_count_201 (mk0 rfl) rfl) (bind_cg2 fun x201 hx201 => ?_)
  have hx201 := fR_isR hx201
  refine Eq.trans (q_getI (ci := 8) (k := 1) dX12_count_204 (mk0 rfl) rfl) (bind_cg fun x204 => ?_)
  exact q_ireturn dX12_count_207 (mk0 rfl) rfl
set_option maxRecDepth 20000 in
theorem bX12_count_208 {L : Nat} {xs : Nat → Int32} (d : Nat) (u0 : Option Value) (u1 : Option Value) (ph : PH) : RS (ZZ L xs) (d + 1) mX12_count 208 [u0, u1] [] ph = some (ph, some (.int ((-1)))) := by
  refine Eq.trans (q_iconst (v := (-1)) dX12_count_208 (show mK mX12_count 208 [u0, u1] = [none, none] from rfl) rfl) ?_
  exact q_ireturn dX12_count_209 (mk0 rfl) rfl
set_option maxRecDepth 20000 in
theorem bX12_image_0 {L : Nat} {xs : Nat → Int32} (d : Nat) (o : Nat) (i1 : Int32) (ph : PH) : RS (ZZ L xs) (d + 1) mX12_image 0 [some (.ref o), some (.int i1), none] [] ph = (cI (ZZ L xs) d mX12_within [.int i1, .int 0, .int 3] ph).bind fun p3 => if ¬ (p3.2 : Int32) = 0 then (fR p3.1 (.ref o) 12 7).bind fun x12 => (eR p3.1 x12 i1).bind fun x16 => (isN x16).bind fun z19 => if z19 = true then (dR (.ref p3.1.length)).bind fun b26 => (cV (ZZ L xs) d mX6_init [.ref b26] (p3.1 ++ [.inr (6, [.null, .null, .null, .int 0, .int 0, .int 0, .null, .null, .null])])).bind fun p26 => (fR p26 (.ref o) 12 7).bind fun x31 => (wR p26 x31 i1 (.ref p3.1.length)).bind fun h36 => RS (ZZ L xs) (d + 1) mX12_image 37 [some (.ref o), some (.int i1), some (.ref p3.1.length)] [] h36 else RS (ZZ L xs) (d + 1) mX12_image 37 [some (.ref o), some (.int i1), some (x16)] [] p3.1 else some (p3.1, some (.int ((-1)))) := by
  refine Eq.trans (q_iload_n dX12_image_0 (mk0 rfl) rfl) ?_
  refine Eq.trans (q_iconst (v := 0) dX12_image_1 (mk0 rfl) rfl) ?_
  refine Eq.trans (q_iconst (v := 3) dX12_image_2 (mk0 rfl) rfl) ?_
  refine Eq.trans (q_callS (as := [.int i1, .int 0, .int 3]) dX12_image_3 (mk0 rfl) rfl (Or.inl rfl) rfl rfl (Nat.le_of_ble_eq_true rfl) (Nat.le_of_ble_eq_true rfl)) ?_
  refine Eq.trans (cI_bind (Or.inr rfl)) (bind_cg fun p3 => ?_)
  show RS (ZZ L xs) (d + 1) mX12_image 6 [some (.ref o), some (.int i1), none] [.int p3.2] p3.1 = _
  refine Eq.trans (q_if_ne (t := 11) dX12_image_6 (mk0 rfl) rfl) (ite_cg ?_ ?_)
  · refine Eq.trans (q_aload_n dX12_image_11 (mk0 rfl) rfl rfl) ?_
    refine Eq.trans (q_getR (ci := 12) (k := 7) dX12_image_12 (mk0 rfl) rfl) (bind_cg2 fun x12 hx12 => ?_)
    have hx12 := fR_isR hx12
    refine Eq.trans (q_iload_n dX12_image_15 (mk0 rfl) rfl) ?_
    refine Eq.trans (q_aaload dX12_image_16 (mk0 rfl)) (bind_cg2 fun x16 hx16 => ?_)
    have hx16 := eR_isR hx16
    refine Eq.trans (q_astore_n (lv2 := [some (.ref o), some (.int i1), some (x16)]) dX12_image_17 (mk0 rfl) (Nat.le_of_ble_eq_true rfl) (isA_R hx16) rfl) ?_
    refine Eq.trans (q_aload_n dX12_image_18 (mk0 rfl) rfl (isA_R hx16)) ?_
    refine Eq.trans (q_ifnonnull (t := 37) dX12_image_19 (mk0 rfl) rfl) (bind_cg fun z19 => ite_cg ?_ ?_)
    · refine Eq.trans (q_new dX12_image_22 (mk0 rfl) rfl) ?_
      refine Eq.trans (q_dup dX12_image_25 (mk0 rfl) rfl) ?_
      refine Eq.trans (q_callI (as := []) dX12_image_26 (mk0 rfl) rfl (Or.inr rfl) rfl rfl (Nat.le_of_ble_eq_true rfl) (Nat.le_of_ble_eq_true rfl)) (bind_cg fun b26 => ?_)
      refine Eq.trans (cV_bind rfl) (bind_cg fun p26 => ?_)
      show RS (ZZ L xs) (d + 1) mX12_image 29 [some (.ref o), some (.int i1), some (x16)] [.ref p3.1.length] p26 = _
      refine Eq.trans (q_astore_n (lv2 := [some (.ref o), some (.int i1), some (.ref p3.1.length)]) dX12_image_29 (mk0 rfl) (Nat.le_of_ble_eq_true rfl) rfl rfl) ?_
      refine Eq.trans (q_aload_n dX12_image_30 (mk0 rfl) rfl rfl) ?_
      refine Eq.trans (q_getR (ci := 12) (k := 7) dX12_image_31 (mk0 rfl) rfl) (bind_cg2 fun x31 hx31 => ?_)
      have hx31 := fR_isR hx31
      refine Eq.trans (q_iload_n dX12_image_34 (mk0 rfl) rfl) ?_
      refine Eq.trans (q_aload_n dX12_image_35 (mk0 rfl) rfl rfl) ?_
      refine Eq.trans (q_aastore dX12_image_36 (mk0 rfl)) (bind_cg fun h36 => ?_)
      rfl
    · rfl
  · refine Eq.trans (q_iconst (v := (-1)) dX12_image_9 (mk0 rfl) rfl) ?_
    exact q_ireturn dX12_image_10 (mk0 rfl) rfl
set_option maxRecDepth 20000 in
theorem bX12_image_37 {L : Nat} {xs : Nat → Int32} (d : Nat) (o : Nat) (u1 : Option Value) (v2 : Value) (hv2 : isR v2 = true) (ph : PH) : RS (ZZ L xs) (d + 1) mX12_image 37 [some (.ref o), u1, some (v2)] [] ph = (fR ph (.ref o) 12 6).bind fun x39 => (iO ph v2 6).bind fun b42 => (cV (ZZ L xs) d mX6_copyFrom [.ref b42, x39] ph).bind fun p42 => (fR p42 (.ref o) 12 6).bind fun x46 => (fR p42 x46 6 1).bind fun x49 => (fI p42 x49 7 0).bind fun x52 => some (p42, some (.int x52)) := by
  refine Eq.trans (q_aload_n dX12_image_37 (show mK mX12_image 37 [some (.ref o), u1, some (v2)] = [some (.ref o), none, some (v2)] from rfl) rfl (isA_R hv2)) ?_
  refine Eq.trans (q_aload_n dX12_image_38 (mk0 rfl) rfl rfl) ?_
  refine Eq.trans (q_getR (ci := 12) (k := 6) dX12_image_39 (mk0 rfl) rfl) (bind_cg2 fun x39 hx39 => ?_)
  have hx39 := fR_isR hx39
  refine Eq.trans (q_callV (as := [x39]) dX12_image_42 (mk0 rfl) rfl rfl rfl (Nat.le_of_ble_eq_true rfl) (by simp [eA, ct_i, ct_l, ct_r, ct_n, ct_x, mX6_copyFrom, (cat_R hx39)])) (bind_cg fun b42 => ?_)
  refine Eq.trans (cV_bind rfl) (bind_cg fun p42 => ?_)
  show RS (ZZ L xs) (d + 1) mX12_image 45 [some (.ref o), none, some (v2)] [] p42 = _
  refine Eq.trans (q_aload_n dX12_image_45 (mk0 rfl) rfl rfl) ?_
  refine Eq.trans (q_getR (ci := 12) (k := 6) dX12_image_46 (mk0 rfl) rfl) (bind_cg2 fun x46 hx46 => ?_)
  have hx46 := fR_isR hx46
  refine Eq.trans (q_getR (ci := 6) (k := 1) dX12_image_49 (mk0 rfl) rfl) (bind_cg2 fun x49 hx49 => ?_)
  have hx49 := fR_isR hx49
  refine Eq.trans (q_getI (ci := 7) (k := 0) dX12_image_52 (mk0 rfl) rfl) (bind_cg fun x52 => ?_)
  exact q_ireturn dX12_image_55 (mk0 rfl) rfl
set_option maxRecDepth 20000 in
theorem bX12_back_0 {L : Nat} {xs : Nat → Int32} (d : Nat) (o : Nat) (i1 : Int32) (ph : PH) : RS (ZZ L xs) (d + 1) mX12_back 0 [some (.ref o), some (.int i1), none] [] ph = (cI (ZZ L xs) d mX12_within [.int i1, .int 0, .int 3] ph).bind fun p3 => if ¬ (p3.2 : Int32) = 0 then (fR p3.1 (.ref o) 12 7).bind fun x12 => (eR p3.1 x12 i1).bind fun x16 => (isN x16).bind fun z19 => if z19 = true then some (p3.1, some (.int ((-1)))) else (fR p3.1 (.ref o) 12 6).bind fun x25 => (iO p3.1 x25 6).bind fun b29 => (cV (ZZ L xs) d mX6_copyFrom [.ref b29, x16] p3.1).bind fun p29 => (fR p29 (.ref o) 12 6).bind fun x33 => (fR p29 x33 6 1).bind fun x36 => (fI p29 x36 7 0).bind fun x39 => some (p29, some (.int x39)) else some (p3.1, some (.int ((-1)))) := by
  refine Eq.trans (q_iload_n dX12_back_0 (mk0 rfl) rfl) ?_
  refine Eq.trans (q_iconst (v := 0) dX12_back_1 (mk0 rfl) rfl) ?_
  refine Eq.trans (q_iconst (v := 3) dX12_back_2 (mk0 rfl) rfl) ?_
  refine Eq.trans (q_callS (as := [.int i1, .int 0, .int 3]) dX12_back_3 (mk0 rfl) rfl (Or.inl rfl) rfl rfl (Nat.le_of_ble_eq_true rfl) (Nat.le_of_ble_eq_true rfl)) ?_
  refine Eq.trans (cI_bind (Or.inr rfl)) (bind_cg fun p3 => ?_)
  show RS (ZZ L xs) (d + 1) mX12_back 6 [some (.ref o), some (.int i1), none] [.int p3.2] p3.1 = _
  refine Eq.trans (q_if_ne (t := 11) dX12_back_6 (mk0 rfl) rfl) (ite_cg ?_ ?_)
  · refine Eq.trans (q_aload_n dX12_back_11 (mk0 rfl) rfl rfl) ?_
    refine Eq.trans (q_getR (ci := 12) (k := 7) dX12_back_12 (mk0 rfl) rfl) (bind_cg2 fun x12 hx12 => ?_)
    have hx12 := fR_isR hx12
    refine Eq.trans (q_iload_n dX12_back_15 (mk0 rfl) rfl) ?_
    refine Eq.trans (q_aaload dX12_back_16 (mk0 rfl)) (bind_cg2 fun x16 hx16 => ?_)
    have hx16 := eR_isR hx16
    refine Eq.trans (q_astore_n (lv2 := [some (.ref o), some (.int i1), some (x16)]) dX12_back_17 (mk0 rfl) (Nat.le_of_ble_eq_true rfl) (isA_R hx16) rfl) ?_
    refine Eq.trans (q_aload_n dX12_back_18 (mk0 rfl) rfl (isA_R hx16)) ?_
    refine Eq.trans (q_ifnonnull (t := 24) dX12_back_19 (mk0 rfl) rfl) (bind_cg fun z19 => ite_cg ?_ ?_)
    · refine Eq.trans (q_iconst (v := (-1)) dX12_back_22 (mk0 rfl) rfl) ?_
      exact q_ireturn dX12_back_23 (mk0 rfl) rfl
    · refine Eq.trans (q_aload_n dX12_back_24 (mk0 rfl) rfl rfl) ?_
      refine Eq.trans (q_getR (ci := 12) (k := 6) dX12_back_25 (mk0 rfl) rfl) (bind_cg2 fun x25 hx25 => ?_)
      have hx25 := fR_isR hx25
      refine Eq.trans (q_aload_n dX12_back_28 (mk0 rfl) rfl (isA_R hx16)) ?_
      refine Eq.trans (q_callV (as := [x16]) dX12_back_29 (mk0 rfl) rfl rfl rfl (Nat.le_of_ble_eq_true rfl) (by simp [eA, ct_i, ct_l, ct_r, ct_n, ct_x, mX6_copyFrom, (cat_R hx16)])) (bind_cg fun b29 => ?_)
      refine Eq.trans (cV_bind rfl) (bind_cg fun p29 => ?_)
      show RS (ZZ L xs) (d + 1) mX12_back 32 [some (.ref o), some (.int i1), some (x16)] [] p29 = _
      refine Eq.trans (q_aload_n dX12_back_32 (mk0 rfl) rfl rfl) ?_
      refine Eq.trans (q_getR (ci := 12) (k := 6) dX12_back_33 (mk0 rfl) rfl) (bind_cg2 fun x33 hx33 => ?_)
      have hx33 := fR_isR hx33
      refine Eq.trans (q_getR (ci := 6) (k := 1) dX12_back_36 (mk0 rfl) rfl) (bind_cg2 fun x36 hx36 => ?_)
      have hx36 := fR_isR hx36
      refine Eq.trans (q_getI (ci := 7) (k := 0) dX12_back_39 (mk0 rfl) rfl) (bind_cg fun x39 => ?_)
      exact q_ireturn dX12_back_42 (mk0 rfl) rfl
  · refine Eq.trans (q_iconst (v := (-1)) dX12_back_9 (mk0 rfl) rfl) ?_
    exact q_ireturn dX12_back_10 (mk0 rfl) rfl
set_option maxRecDepth 20000 in
theorem bX12_hasTown_0 {L : Nat} {xs : Nat → Int32} (d : Nat) (o : Nat) (ph : PH) : RS (ZZ L xs) (d + 1) mX12_hasTown 0 [some (.ref o)] [] ph = (fR ph (.ref o) 12 6).bind fun x1 => (fR ph x1 6 0).bind fun x4 => (fI ph x4 9 0).bind fun x7 => if (x7 : Int32) ≤ 0 then RS (ZZ L xs) (d + 1) mX12_hasTown 18 [some (.ref o)] [.int 0] ph else RS (ZZ L xs) (d + 1) mX12_hasTown 18 [some (.ref o)] [.int 1] ph := by
  refine Eq.trans (q_aload_n dX12_hasTown_0 (mk0 rfl) rfl rfl) ?_
  refine Eq.trans (q_getR (ci := 12) (k := 6) dX12_hasTown_1 (mk0 rfl) rfl) (bind_cg2 fun x1 hx1 => ?_)
  have hx1 := fR_isR hx1
  refine Eq.trans (q_getR (ci := 6) (k := 0) dX12_hasTown_4 (mk0 rfl) rfl) (bind_cg2 fun x4 hx4 => ?_)
  have hx4 := fR_isR hx4
  refine Eq.trans (q_getI (ci := 9) (k := 0) dX12_hasTown_7 (mk0 rfl) rfl) (bind_cg fun x7 => ?_)
  refine Eq.trans (q_if_le (t := 17) dX12_hasTown_10 (mk0 rfl) rfl) (ite_cg ?_ ?_)
  · refine Eq.trans (q_iconst (v := 0) dX12_hasTown_17 (mk0 rfl) rfl) ?_
    rfl
  · refine Eq.trans (q_iconst (v := 1) dX12_hasTown_13 (mk0 rfl) rfl) ?_
    refine Eq.trans (q_goto (t := 18) dX12_hasTown_14 (mk0 rfl) rfl) ?_
    rfl
set_option maxRecDepth 20000 in
theorem bX12_hasTown_18 {L : Nat} {xs : Nat → Int32} (d : Nat) (u0 : Option Value) (t0 : Int32) (ph : PH) : RS (ZZ L xs) (d + 1) mX12_hasTown 18 [u0] [.int t0] ph = if (t0 : Int32) = 0 ∨ (t0 : Int32) = 1 then some (ph, some (.int t0)) else none := by
  exact q_zreturn dX12_hasTown_18 (show mK mX12_hasTown 18 [u0] = [none] from rfl) rfl
set_option maxRecDepth 20000 in
theorem bX12_isPlace_0 {L : Nat} {xs : Nat → Int32} (d : Nat) (o : Nat) (i1 : Int32) (ph : PH) : RS (ZZ L xs) (d + 1) mX12_isPlace 0 [some (.ref o), some (.int i1)] [] ph = if (i1 : Int32) < 0 then RS (ZZ L xs) (d + 1) mX12_isPlace 22 [some (.ref o), some (.int i1)] [] ph else (fR ph (.ref o) 12 6).bind fun x6 => (fR ph x6 6 0).bind fun x9 => (fI ph x9 9 0).bind fun x12 => if (x12 : Int32) ≤ i1 then RS (ZZ L xs) (d + 1) mX12_isPlace 22 [some (.ref o), some (.int i1)] [] ph else RS (ZZ L xs) (d + 1) mX12_isPlace 23 [some (.ref o), some (.int i1)] [.int 1] ph := by
  refine Eq.trans (q_iload_n dX12_isPlace_0 (mk0 rfl) rfl) ?_
  refine Eq.trans (q_if_lt (t := 22) dX12_isPlace_1 (mk0 rfl) rfl) (ite_cg ?_ ?_)
  · rfl
  · refine Eq.trans (q_iload_n dX12_isPlace_4 (mk0 rfl) rfl) ?_
    refine Eq.trans (q_aload_n dX12_isPlace_5 (mk0 rfl) rfl rfl) ?_
    refine Eq.trans (q_getR (ci := 12) (k := 6) dX12_isPlace_6 (mk0 rfl) rfl) (bind_cg2 fun x6 hx6 => ?_)
    have hx6 := fR_isR hx6
    refine Eq.trans (q_getR (ci := 6) (k := 0) dX12_isPlace_9 (mk0 rfl) rfl) (bind_cg2 fun x9 hx9 => ?_)
    have hx9 := fR_isR hx9
    refine Eq.trans (q_getI (ci := 9) (k := 0) dX12_isPlace_12 (mk0 rfl) rfl) (bind_cg fun x12 => ?_)
    refine Eq.trans (q_icmp_ge (t := 22) dX12_isPlace_15 (mk0 rfl) rfl) (ite_cg ?_ ?_)
    · rfl
    · refine Eq.trans (q_iconst (v := 1) dX12_isPlace_18 (mk0 rfl) rfl) ?_
      refine Eq.trans (q_goto (t := 23) dX12_isPlace_19 (mk0 rfl) rfl) ?_
      rfl
set_option maxRecDepth 20000 in
theorem bX12_isPlace_22 {L : Nat} {xs : Nat → Int32} (d : Nat) (u0 : Option Value) (u1 : Option Value) (ph : PH) : RS (ZZ L xs) (d + 1) mX12_isPlace 22 [u0, u1] [] ph = RS (ZZ L xs) (d + 1) mX12_isPlace 23 [none, none] [.int 0] ph := by
  refine Eq.trans (q_iconst (v := 0) dX12_isPlace_22 (show mK mX12_isPlace 22 [u0, u1] = [none, none] from rfl) rfl) ?_
  rfl
set_option maxRecDepth 20000 in
theorem bX12_isPlace_23 {L : Nat} {xs : Nat → Int32} (d : Nat) (u0 : Option Value) (u1 : Option Value) (t0 : Int32) (ph : PH) : RS (ZZ L xs) (d + 1) mX12_isPlace 23 [u0, u1] [.int t0] ph = if (t0 : Int32) = 0 ∨ (t0 : Int32) = 1 then some (ph, some (.int t0)) else none := by
  exact q_zreturn dX12_isPlace_23 (show mK mX12_isPlace 23 [u0, u1] = [none, none] from rfl) rfl
set_option maxRecDepth 20000 in
theorem bX12_isPerson_0 {L : Nat} {xs : Nat → Int32} (d : Nat) (o : Nat) (i1 : Int32) (ph : PH) : RS (ZZ L xs) (d + 1) mX12_isPerson 0 [some (.ref o), some (.int i1)] [] ph = if (i1 : Int32) < 0 then RS (ZZ L xs) (d + 1) mX12_isPerson 22 [some (.ref o), some (.int i1)] [] ph else (fR ph (.ref o) 12 6).bind fun x6 => (fR ph x6 6 0).bind fun x9 => (fI ph x9 9 2).bind fun x12 => if (x12 : Int32) ≤ i1 then RS (ZZ L xs) (d + 1) mX12_isPerson 22 [some (.ref o), some (.int i1)] [] ph else RS (ZZ L xs) (d + 1) mX12_isPerson 23 [some (.ref o), some (.int i1)] [.int 1] ph := by
  refine Eq.trans (q_iload_n dX12_isPerson_0 (mk0 rfl) rfl) ?_
  refine Eq.trans (q_if_lt (t := 22) dX12_isPerson_1 (mk0 rfl) rfl) (ite_cg ?_ ?_)
  · rfl
  · refine Eq.trans (q_iload_n dX12_isPerson_4 (mk0 rfl) rfl) ?_
    refine Eq.trans (q_aload_n dX12_isPerson_5 (mk0 rfl) rfl rfl) ?_
    refine Eq.trans (q_getR (ci := 12) (k := 6) dX12_isPerson_6 (mk0 rfl) rfl) (bind_cg2 fun x6 hx6 => ?_)
    have hx6 := fR_isR hx6
    refine Eq.trans (q_getR (ci := 6) (k := 0) dX12_isPerson_9 (mk0 rfl) rfl) (bind_cg2 fun x9 hx9 => ?_)
    have hx9 := fR_isR hx9
    refine Eq.trans (q_getI (ci := 9) (k := 2) dX12_isPerson_12 (mk0 rfl) rfl) (bind_cg fun x12 => ?_)
    refine Eq.trans (q_icmp_ge (t := 22) dX12_isPerson_15 (mk0 rfl) rfl) (ite_cg ?_ ?_)
    · rfl
    · refine Eq.trans (q_iconst (v := 1) dX12_isPerson_18 (mk0 rfl) rfl) ?_
      refine Eq.trans (q_goto (t := 23) dX12_isPerson_19 (mk0 rfl) rfl) ?_
      rfl
set_option maxRecDepth 20000 in
theorem bX12_isPerson_22 {L : Nat} {xs : Nat → Int32} (d : Nat) (u0 : Option Value) (u1 : Option Value) (ph : PH) : RS (ZZ L xs) (d + 1) mX12_isPerson 22 [u0, u1] [] ph = RS (ZZ L xs) (d + 1) mX12_isPerson 23 [none, none] [.int 0] ph := by
  refine Eq.trans (q_iconst (v := 0) dX12_isPerson_22 (show mK mX12_isPerson 22 [u0, u1] = [none, none] from rfl) rfl) ?_
  rfl
set_option maxRecDepth 20000 in
theorem bX12_isPerson_23 {L : Nat} {xs : Nat → Int32} (d : Nat) (u0 : Option Value) (u1 : Option Value) (t0 : Int32) (ph : PH) : RS (ZZ L xs) (d + 1) mX12_isPerson 23 [u0, u1] [.int t0] ph = if (t0 : Int32) = 0 ∨ (t0 : Int32) = 1 then some (ph, some (.int t0)) else none := by
  exact q_zreturn dX12_isPerson_23 (show mK mX12_isPerson 23 [u0, u1] = [none, none] from rfl) rfl
set_option maxRecDepth 20000 in
theorem bX12_isStranger_0 {L : Nat} {xs : Nat → Int32} (d : Nat) (o : Nat) (i1 : Int32) (ph : PH) : RS (ZZ L xs) (d + 1) mX12_isStranger 0 [some (.ref o), some (.int i1)] [] ph = if (i1 : Int32) < 0 then RS (ZZ L xs) (d + 1) mX12_isStranger 22 [some (.ref o), some (.int i1)] [] ph else (fR ph (.ref o) 12 6).bind fun x6 => (fR ph x6 6 0).bind fun x9 => (fI ph x9 9 3).bind fun x12 => if (x12 : Int32) ≤ i1 then RS (ZZ L xs) (d + 1) mX12_isStranger 22 [some (.ref o), some (.int i1)] [] ph else RS (ZZ L xs) (d + 1) mX12_isStranger 23 [some (.ref o), some (.int i1)] [.int 1] ph := by
  refine Eq.trans (q_iload_n dX12_isStranger_0 (mk0 rfl) rfl) ?_
  refine Eq.trans (q_if_lt (t := 22) dX12_isStranger_1 (mk0 rfl) rfl) (ite_cg ?_ ?_)
  · rfl
  · refine Eq.trans (q_iload_n dX12_isStranger_4 (mk0 rfl) rfl) ?_
    refine Eq.trans (q_aload_n dX12_isStranger_5 (mk0 rfl) rfl rfl) ?_
    refine Eq.trans (q_getR (ci := 12) (k := 6) dX12_isStranger_6 (mk0 rfl) rfl) (bind_cg2 fun x6 hx6 => ?_)
    have hx6 := fR_isR hx6
    refine Eq.trans (q_getR (ci := 6) (k := 0) dX12_isStranger_9 (mk0 rfl) rfl) (bind_cg2 fun x9 hx9 => ?_)
    have hx9 := fR_isR hx9
    refine Eq.trans (q_getI (ci := 9) (k := 3) dX12_isStranger_12 (mk0 rfl) rfl) (bind_cg fun x12 => ?_)
    refine Eq.trans (q_icmp_ge (t := 22) dX12_isStranger_15 (mk0 rfl) rfl) (ite_cg ?_ ?_)
    · rfl
    · refine Eq.trans (q_iconst (v := 1) dX12_isStranger_18 (mk0 rfl) rfl) ?_
      refine Eq.trans (q_goto (t := 23) dX12_isStranger_19 (mk0 rfl) rfl) ?_
      rfl
set_option maxRecDepth 20000 in
theorem bX12_isStranger_22 {L : Nat} {xs : Nat → Int32} (d : Nat) (u0 : Option Value) (u1 : Option Value) (ph : PH) : RS (ZZ L xs) (d + 1) mX12_isStranger 22 [u0, u1] [] ph = RS (ZZ L xs) (d + 1) mX12_isStranger 23 [none, none] [.int 0] ph := by
  refine Eq.trans (q_iconst (v := 0) dX12_isStranger_22 (show mK mX12_isStranger 22 [u0, u1] = [none, none] from rfl) rfl) ?_
  rfl
set_option maxRecDepth 20000 in
theorem bX12_isStranger_23 {L : Nat} {xs : Nat → Int32} (d : Nat) (u0 : Option Value) (u1 : Option Value) (t0 : Int32) (ph : PH) : RS (ZZ L xs) (d + 1) mX12_isStranger 23 [u0, u1] [.int t0] ph = if (t0 : Int32) = 0 ∨ (t0 : Int32) = 1 then some (ph, some (.int t0)) else none := by
  exact q_zreturn dX12_isStranger_23 (show mK mX12_isStranger 23 [u0, u1] = [none, none] from rfl) rfl
set_option maxRecDepth 20000 in
theorem bX12_within_0 {L : Nat} {xs : Nat → Int32} (d : Nat) (i0 : Int32) (i1 : Int32) (i2 : Int32) (ph : PH) : RS (ZZ L xs) (d + 1) mX12_within 0 [some (.int i0), some (.int i1), some (.int i2)] [] ph = if (i0 : Int32) < i1 then RS (ZZ L xs) (d + 1) mX12_within 14 [some (.int i0), some (.int i1), some (.int i2)] [] ph else if (i2 : Int32) < i0 then RS (ZZ L xs) (d + 1) mX12_within 14 [some (.int i0), some (.int i1), some (.int i2)] [] ph else RS (ZZ L xs) (d + 1) mX12_within 15 [some (.int i0), some (.int i1), some (.int i2)] [.int 1] ph := by
  refine Eq.trans (q_iload_n dX12_within_0 (mk0 rfl) rfl) ?_
  refine Eq.trans (q_iload_n dX12_within_1 (mk0 rfl) rfl) ?_
  refine Eq.trans (q_icmp_lt (t := 14) dX12_within_2 (mk0 rfl) rfl) (ite_cg ?_ ?_)
  · rfl
  · refine Eq.trans (q_iload_n dX12_within_5 (mk0 rfl) rfl) ?_
    refine Eq.trans (q_iload_n dX12_within_6 (mk0 rfl) rfl) ?_
    refine Eq.trans (q_icmp_gt (t := 14) dX12_within_7 (mk0 rfl) rfl) (ite_cg ?_ ?_)
    · rfl
    · refine Eq.trans (q_iconst (v := 1) dX12_within_10 (mk0 rfl) rfl) ?_
      refine Eq.trans (q_goto (t := 15) dX12_within_11 (mk0 rfl) rfl) ?_
      rfl
set_option maxRecDepth 20000 in
theorem bX12_within_14 {L : Nat} {xs : Nat → Int32} (d : Nat) (u0 : Option Value) (u1 : Option Value) (u2 : Option Value) (ph : PH) : RS (ZZ L xs) (d + 1) mX12_within 14 [u0, u1, u2] [] ph = RS (ZZ L xs) (d + 1) mX12_within 15 [none, none, none] [.int 0] ph := by
  refine Eq.trans (q_iconst (v := 0) dX12_within_14 (show mK mX12_within 14 [u0, u1, u2] = [none, none, none] from rfl) rfl) ?_
  rfl
set_option maxRecDepth 20000 in
theorem bX12_within_15 {L : Nat} {xs : Nat → Int32} (d : Nat) (u0 : Option Value) (u1 : Option Value) (u2 : Option Value) (t0 : Int32) (ph : PH) : RS (ZZ L xs) (d + 1) mX12_within 15 [u0, u1, u2] [.int t0] ph = if (t0 : Int32) = 0 ∨ (t0 : Int32) = 1 then some (ph, some (.int t0)) else none := by
  exact q_zreturn dX12_within_15 (show mK mX12_within 15 [u0, u1, u2] = [none, none, none] from rfl) rfl
set_option maxRecDepth 20000 in
theorem bX12_ruleNumbered_0 {L : Nat} {xs : Nat → Int32} (d : Nat) (o : Nat) (i1 : Int32) (ph : PH) : RS (ZZ L xs) (d + 1) mX12_ruleNumbered 0 [some (.ref o), some (.int i1)] [] ph = if (i1 : Int32) < 0 then RS (ZZ L xs) (d + 1) mX12_ruleNumbered 21 [some (.ref o), some (.int i1)] [] ph else (fI ph (.ref o) 12 4).bind fun x6 => if (x6 : Int32) ≤ i1 then RS (ZZ L xs) (d + 1) mX12_ruleNumbered 21 [some (.ref o), some (.int i1)] [] ph else (fR ph (.ref o) 12 3).bind fun x13 => (eR ph x13 i1).bind fun x17 => RS (ZZ L xs) (d + 1) mX12_ruleNumbered 22 [some (.ref o), some (.int i1)] [x17] ph := by
  refine Eq.trans (q_iload_n dX12_ruleNumbered_0 (mk0 rfl) rfl) ?_
  refine Eq.trans (q_if_lt (t := 21) dX12_ruleNumbered_1 (mk0 rfl) rfl) (ite_cg ?_ ?_)
  · rfl
  · refine Eq.trans (q_iload_n dX12_ruleNumbered_4 (mk0 rfl) rfl) ?_
    refine Eq.trans (q_aload_n dX12_ruleNumbered_5 (mk0 rfl) rfl rfl) ?_
    refine Eq.trans (q_getI (ci := 12) (k := 4) dX12_ruleNumbered_6 (mk0 rfl) rfl) (bind_cg fun x6 => ?_)
    refine Eq.trans (q_icmp_ge (t := 21) dX12_ruleNumbered_9 (mk0 rfl) rfl) (ite_cg ?_ ?_)
    · rfl
    · refine Eq.trans (q_aload_n dX12_ruleNumbered_12 (mk0 rfl) rfl rfl) ?_
      refine Eq.trans (q_getR (ci := 12) (k := 3) dX12_ruleNumbered_13 (mk0 rfl) rfl) (bind_cg2 fun x13 hx13 => ?_)
      have hx13 := fR_isR hx13
      refine Eq.trans (q_iload_n dX12_ruleNumbered_16 (mk0 rfl) rfl) ?_
      refine Eq.trans (q_aaload dX12_ruleNumbered_17 (mk0 rfl)) (bind_cg2 fun x17 hx17 => ?_)
      have hx17 := eR_isR hx17
      refine Eq.trans (q_goto (t := 22) dX12_ruleNumbered_18 (mk0 rfl) rfl) ?_
      rfl
set_option maxRecDepth 20000 in
theorem bX12_ruleNumbered_21 {L : Nat} {xs : Nat → Int32} (d : Nat) (u0 : Option Value) (u1 : Option Value) (ph : PH) : RS (ZZ L xs) (d + 1) mX12_ruleNumbered 21 [u0, u1] [] ph = RS (ZZ L xs) (d + 1) mX12_ruleNumbered 22 [none, none] [.null] ph := by
  refine Eq.trans (q_aconst_null dX12_ruleNumbered_21 (show mK mX12_ruleNumbered 21 [u0, u1] = [none, none] from rfl)) ?_
  rfl
set_option maxRecDepth 20000 in
theorem bX12_ruleNumbered_22 {L : Nat} {xs : Nat → Int32} (d : Nat) (u0 : Option Value) (u1 : Option Value) (w0 : Value) (hw0 : isR w0 = true) (ph : PH) : RS (ZZ L xs) (d + 1) mX12_ruleNumbered 22 [u0, u1] [w0] ph = some (ph, some (w0)) := by
  exact q_areturn dX12_ruleNumbered_22 (show mK mX12_ruleNumbered 22 [u0, u1] = [none, none] from rfl) rfl (isA_R hw0)
set_option maxRecDepth 20000 in
theorem bX12_windClock_0 {L : Nat} {xs : Nat → Int32} (d : Nat) (o : Nat) (ph : PH) : RS (ZZ L xs) (d + 1) mX12_windClock 0 [some (.ref o)] [] ph = (fR ph (.ref o) 12 8).bind fun x1 => (fR ph (.ref o) 12 6).bind fun x5 => (fR ph x5 6 0).bind fun x8 => (fR ph (.ref o) 12 6).bind fun x13 => (fI ph x13 6 3).bind fun x16 => (iO ph (.ref o) 12).bind fun b19 => (cR (ZZ L xs) d mX12_ruleNumbered [.ref b19, .int x16] ph).bind fun p19 => (fR p19.1 (.ref o) 12 6).bind fun x23 => (fR p19.1 x23 6 0).bind fun x26 => (fI p19.1 x26 9 5).bind fun x29 => (iO p19.1 x1 0).bind fun b32 => (cV (ZZ L xs) d mX0_wind [.ref b32, x8, p19.2, .int x29] p19.1).bind fun p32 => some (p32, none) := by
  refine Eq.trans (q_aload_n dX12_windClock_0 (mk0 rfl) rfl rfl) ?_
  refine Eq.trans (q_getR (ci := 12) (k := 8) dX12_windClock_1 (mk0 rfl) rfl) (bind_cg2 fun x1 hx1 => ?_)
  have hx1 := fR_isR hx1
  refine Eq.trans (q_aload_n dX12_windClock_4 (mk0 rfl) rfl rfl) ?_
  refine Eq.trans (q_getR (ci := 12) (k := 6) dX12_windClock_5 (mk0 rfl) rfl) (bind_cg2 fun x5 hx5 => ?_)
  have hx5 := fR_isR hx5
  refine Eq.trans (q_getR (ci := 6) (k := 0) dX12_windClock_8 (mk0 rfl) rfl) (bind_cg2 fun x8 hx8 => ?_)
  have hx8 := fR_isR hx8
  refine Eq.trans (q_aload_n dX12_windClock_11 (mk0 rfl) rfl rfl) ?_
  refine Eq.trans (q_aload_n dX12_windClock_12 (mk0 rfl) rfl rfl) ?_
  refine Eq.trans (q_getR (ci := 12) (k := 6) dX12_windClock_13 (mk0 rfl) rfl) (bind_cg2 fun x13 hx13 => ?_)
  have hx13 := fR_isR hx13
  refine Eq.trans (q_getI (ci := 6) (k := 3) dX12_windClock_16 (mk0 rfl) rfl) (bind_cg fun x16 => ?_)
  refine Eq.trans (q_callV (as := [.int x16]) dX12_windClock_19 (mk0 rfl) rfl rfl rfl (by simp [catS, ct_i, ct_l, ct_r, ct_n, ct_x, (cat_R hx8), (cat_R hx1)]) (Nat.le_of_ble_eq_true rfl)) (bind_cg fun b19 => ?_)
  refine Eq.trans (cR_bind rfl) (bind_cg2 fun p19 hp19 => ?_)
  have hp19 := cR_isA hp19
  show RS (ZZ L xs) (d + 1) mX12_windClock 22 [some (.ref o)] [p19.2, x8, x1] p19.1 = _
  refine Eq.trans (q_aload_n dX12_windClock_22 (mk0 rfl) rfl rfl) ?_
  refine Eq.trans (q_getR (ci := 12) (k := 6) dX12_windClock_23 (mk0 rfl) rfl) (bind_cg2 fun x23 hx23 => ?_)
  have hx23 := fR_isR hx23
  refine Eq.trans (q_getR (ci := 6) (k := 0) dX12_windClock_26 (mk0 rfl) rfl) (bind_cg2 fun x26 hx26 => ?_)
  have hx26 := fR_isR hx26
  refine Eq.trans (q_getI (ci := 9) (k := 5) dX12_windClock_29 (mk0 rfl) rfl) (bind_cg fun x29 => ?_)
  refine Eq.trans (q_callV (as := [x8, p19.2, .int x29]) dX12_windClock_32 (mk0 rfl) rfl rfl rfl (Nat.le_of_ble_eq_true rfl) (by simp [eA, ct_i, ct_l, ct_r, ct_n, ct_x, mX0_wind, (cat_R hx8), (cat_A hp19)])) (bind_cg fun b32 => ?_)
  refine Eq.trans (cV_bind rfl) (bind_cg fun p32 => ?_)
  show RS (ZZ L xs) (d + 1) mX12_windClock 35 [some (.ref o)] [] p32 = _
  exact q_return dX12_windClock_35 (mk0 rfl) rfl
