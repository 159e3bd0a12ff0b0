set_option maxRecDepth 20000 in
theorem bX11_init_0 {L : Nat} {xs : Nat → Int32} (d : Nat) (o : Nat) (ph : PH) : RS (ZZ L xs) (d + 1) mX11_init 0 [some (.ref o)] [] ph = (fP (ph ++ [nwAr 0 64]) (.ref o) 11 1 (.ref ph.length)).bind fun h9 => (iO h9 (.ref o) 11).bind fun b14 => (cV (ZZ L xs) d mX11_measure [.ref b14, .long 0] h9).bind fun p14 => some (p14, none) := by
  refine Eq.trans (q_aload_n dX11_init_0 (mk0 rfl) rfl rfl) ?_
  refine Eq.trans (q_obj dX11_init_1 (mk0 rfl) rfl (Nat.le_of_ble_eq_true rfl)) ?_
  refine Eq.trans (q_aload_n dX11_init_4 (mk0 rfl) rfl rfl) ?_
  refine Eq.trans (q_bipush (v := 64) dX11_init_5 (mk0 rfl) rfl) ?_
  refine Eq.trans (q_newarray (t := 0) (e := nwAr 0 64) dX11_init_7 (mk0 rfl) (Or.inl ⟨rfl, rfl⟩) ⟨by decide, by decide⟩ rfl) ?_
  refine Eq.trans (q_put (ci := 11) (k := 1) (kd := 2) dX11_init_9 (mk0 rfl) rfl rfl (fun _ => ⟨rfl, rfl⟩)) (bind_cg fun h9 => ?_)
  refine Eq.trans (q_aload_n dX11_init_12 (mk0 rfl) rfl rfl) ?_
  refine Eq.trans (q_lconst (v := 0) dX11_init_13 (mk0 rfl) rfl) ?_
  refine Eq.trans (q_callV (as := [.long 0]) dX11_init_14 (mk0 rfl) rfl rfl rfl (Nat.le_of_ble_eq_true rfl) (Nat.le_of_ble_eq_true rfl)) (bind_cg fun b14 => ?_)
  refine Eq.trans (cV_bind rfl) (bind_cg fun p14 => ?_)
  show RS (ZZ L xs) (d + 1) mX11_init 17 [some (.ref o)] [] p14 = _
  exact q_return dX11_init_17 (mk0 rfl) rfl
set_option maxRecDepth 20000 in
theorem bX11_street_0 {L : Nat} {xs : Nat → Int32} (d : Nat) (i0 : Int32) (i1 : Int32) (ph : PH) : RS (ZZ L xs) (d + 1) mX11_street 0 [some (.int i0), some (.int i1)] [] ph = if ¬ (i0 : Int32) = i1 then RS (ZZ L xs) (d + 1) mX11_street 26 [some (.int i0), some (.int i1)] [.long ((lShl 1 ((i0 * 8) + i1)) ||| (lShl 1 ((i1 * 8) + i0)))] ph else RS (ZZ L xs) (d + 1) mX11_street 26 [some (.int i0), some (.int i1)] [.long 0] ph := by
  refine Eq.trans (q_iload_n dX11_street_0 (mk0 rfl) rfl) ?_
  refine Eq.trans (q_iload_n dX11_street_1 (mk0 rfl) rfl) ?_
  refine Eq.trans (q_icmp_ne (t := 9) dX11_street_2 (mk0 rfl) rfl) (ite_cg ?_ ?_)
  · refine Eq.trans (q_lconst (v := 1) dX11_street_9 (mk0 rfl) rfl) ?_
    refine Eq.trans (q_iload_n dX11_street_10 (mk0 rfl) rfl) ?_
    refine Eq.trans (q_bipush (v := 8) dX11_street_11 (mk0 rfl) rfl) ?_
    refine Eq.trans (q_imul dX11_street_13 (mk0 rfl)) ?_
    refine Eq.trans (q_iload_n dX11_street_14 (mk0 rfl) rfl) ?_
    refine Eq.trans (q_iadd dX11_street_15 (mk0 rfl)) ?_
    refine Eq.trans (q_lshl dX11_street_16 (mk0 rfl)) ?_
    refine Eq.trans (q_lconst (v := 1) dX11_street_17 (mk0 rfl) rfl) ?_
    refine Eq.trans (q_iload_n dX11_street_18 (mk0 rfl) rfl) ?_
    refine Eq.trans (q_bipush (v := 8) dX11_street_19 (mk0 rfl) rfl) ?_
    refine Eq.trans (q_imul dX11_street_21 (mk0 rfl)) ?_
    refine Eq.trans (q_iload_n dX11_street_22 (mk0 rfl) rfl) ?_
    refine Eq.trans (q_iadd dX11_street_23 (mk0 rfl)) ?_
    refine Eq.trans (q_lshl dX11_street_24 (mk0 rfl)) ?_
    refine Eq.trans (q_lor dX11_street_25 (mk0 rfl)) ?_
    rfl
  · refine Eq.trans (q_lconst (v := 0) dX11_street_5 (mk0 rfl) rfl) ?_
    refine Eq.trans (q_goto (t := 26) dX11_street_6 (mk0 rfl) rfl) ?_
    rfl
set_option maxRecDepth 20000 in
theorem bX11_street_26 {L : Nat} {xs : Nat → Int32} (d : Nat) (u0 : Option Value) (u1 : Option Value) (t0 : Int64) (ph : PH) : RS (ZZ L xs) (d + 1) mX11_street 26 [u0, u1] [.long t0] ph = some (ph, some (.long t0)) := by
  exact q_lreturn dX11_street_26 (show mK mX11_street 26 [u0, u1] = [none, none] from rfl) rfl
set_option maxRecDepth 20000 in
theorem bX11_neighbours_0 {L : Nat} {xs : Nat → Int32} (d : Nat) (l0 : Int64) (i2 : Int32) (ph : PH) : RS (ZZ L xs) (d + 1) mX11_neighbours 0 [some (.long l0), none, some (.int i2)] [] ph = some (ph, some (.int (((lUshr l0 (i2 * 8) : Int64).toInt32) &&& 255))) := by
  refine Eq.trans (q_lload_n dX11_neighbours_0 (mk0 rfl) rfl) ?_
  refine Eq.trans (q_iload_n dX11_neighbours_1 (mk0 rfl) rfl) ?_
  refine Eq.trans (q_bipush (v := 8) dX11_neighbours_2 (mk0 rfl) rfl) ?_
  refine Eq.trans (q_imul dX11_neighbours_4 (mk0 rfl)) ?_
  refine Eq.trans (q_lushr dX11_neighbours_5 (mk0 rfl)) ?_
  refine Eq.trans (q_l2i dX11_neighbours_6 (mk0 rfl)) ?_
  refine Eq.trans (q_sipush (v := 255) dX11_neighbours_7 (mk0 rfl) rfl) ?_
  refine Eq.trans (q_iand dX11_neighbours_10 (mk0 rfl)) ?_
  exact q_ireturn dX11_neighbours_11 (mk0 rfl) rfl
set_option maxRecDepth 20000 in
theorem bX11_follow_0 {L : Nat} {xs : Nat → Int32} (d : Nat) (o : Nat) (l1 : Int64) (ph : PH) : RS (ZZ L xs) (d + 1) mX11_follow 0 [some (.ref o), some (.long l1), none] [] ph = (fL ph (.ref o) 11 0).bind fun x2 => if (lg_cmp l1 x2 : Int32) = 0 then RS (ZZ L xs) (d + 1) mX11_follow 14 [some (.ref o), some (.long l1), none] [] ph else (iO ph (.ref o) 11).bind fun b11 => (cV (ZZ L xs) d mX11_measure [.ref b11, .long l1] ph).bind fun p11 => RS (ZZ L xs) (d + 1) mX11_follow 14 [some (.ref o), some (.long l1), none] [] p11 := by
  refine Eq.trans (q_lload_n dX11_follow_0 (mk0 rfl) rfl) ?_
  refine Eq.trans (q_aload_n dX11_follow_1 (mk0 rfl) rfl rfl) ?_
  refine Eq.trans (q_getL (ci := 11) (k := 0) dX11_follow_2 (mk0 rfl) rfl) (bind_cg fun x2 => ?_)
  refine Eq.trans (q_lcmp dX11_follow_5 (mk0 rfl)) ?_
  refine Eq.trans (q_if_eq (t := 14) dX11_follow_6 (mk0 rfl) rfl) (ite_cg ?_ ?_)
  · rfl
  · refine Eq.trans (q_aload_n dX11_follow_9 (mk0 rfl) rfl rfl) ?_
    refine Eq.trans (q_lload_n dX11_follow_10 (mk0 rfl) rfl) ?_
    refine Eq.trans (q_callV (as := [.long l1]) dX11_follow_11 (mk0 rfl) rfl rfl rfl (Nat.le_of_ble_eq_true rfl) (Nat.le_of_ble_eq_true rfl)) (bind_cg fun b11 => ?_)
    refine Eq.trans (cV_bind rfl) (bind_cg fun p11 => ?_)
    show RS (ZZ L xs) (d + 1) mX11_follow 14 [some (.ref o), some (.long l1), none] [] p11 = _
    rfl
set_option maxRecDepth 20000 in
theorem bX11_follow_14 {L : Nat} {xs : Nat → Int32} (d : Nat) (u0 : Option Value) (u1 : Option Value) (u2 : Option Value) (ph : PH) : RS (ZZ L xs) (d + 1) mX11_follow 14 [u0, u1, u2] [] ph = some (ph, none) := by
  exact q_return dX11_follow_14 (show mK mX11_follow 14 [u0, u1, u2] = [none, none, none] from rfl) rfl
set_option maxRecDepth 20000 in
theorem bX11_measure_0 {L : Nat} {xs : Nat → Int32} (d : Nat) (o : Nat) (l1 : Int64) (ph : PH) : RS (ZZ L xs) (d + 1) mX11_measure 0 [some (.ref o), some (.long l1), none, none, none, none, none, none, none] [] ph = (fP ph (.ref o) 11 0 (.long l1)).bind fun h2 => (fR h2 (.ref o) 11 1).bind fun x6 => (cV (ZZ L xs) d mJ7_fill_53178 [x6, .int 99] h2).bind fun p11 => RS (ZZ L xs) (d + 1) mX11_measure 16 [some (.ref o), some (.long l1), none, some (.int 0), none, none, none, none, none] [] p11 := by
  refine Eq.trans (q_aload_n dX11_measure_0 (mk0 rfl) rfl rfl) ?_
  refine Eq.trans (q_lload_n dX11_measure_1 (mk0 rfl) rfl) ?_
  refine Eq.trans (q_put (ci := 11) (k := 0) (kd := 1) dX11_measure_2 (mk0 rfl) rfl rfl (fun h => by cases h)) (bind_cg fun h2 => ?_)
  refine Eq.trans (q_aload_n dX11_measure_5 (mk0 rfl) rfl rfl) ?_
  refine Eq.trans (q_getR (ci := 11) (k := 1) dX11_measure_6 (mk0 rfl) rfl) (bind_cg2 fun x6 hx6 => ?_)
  have hx6 := fR_isR hx6
  refine Eq.trans (q_bipush (v := 99) dX11_measure_9 (mk0 rfl) rfl) ?_
  refine Eq.trans (q_callS (as := [x6, .int 99]) dX11_measure_11 (mk0 rfl) rfl (Or.inl rfl) rfl rfl (Nat.le_of_ble_eq_true rfl) (by simp [eA, ct_i, ct_l, ct_r, ct_n, ct_x, mJ7_fill_53178, (cat_R hx6)])) ?_
  refine Eq.trans (cV_bind rfl) (bind_cg fun p11 => ?_)
  show RS (ZZ L xs) (d + 1) mX11_measure 14 [some (.ref o), some (.long l1), none, none, none, none, none, none, none] [] p11 = _
  refine Eq.trans (q_iconst (v := 0) dX11_measure_14 (mk0 rfl) rfl) ?_
  refine Eq.trans (q_istore_n (lv2 := [some (.ref o), some (.long l1), none, some (.int 0), none, none, none, none, none]) dX11_measure_15 (mk0 rfl) (Nat.le_of_ble_eq_true rfl) rfl) ?_
  rfl
set_option maxRecDepth 20000 in
theorem bX11_measure_16 {L : Nat} {xs : Nat → Int32} (d : Nat) (o : Nat) (l1 : Int64) (i3 : Int32) (u4 : Option Value) (u5 : Option Value) (u6 : Option Value) (u7 : Option Value) (u8 : Option Value) (ph : PH) : RS (ZZ L xs) (d + 1) mX11_measure 16 [some (.ref o), some (.long l1), none, some (.int i3), u4, u5, u6, u7, u8] [] ph = if (8 : Int32) ≤ i3 then some (ph, none) else RS (ZZ L xs) (d + 1) mX11_measure 33 [some (.ref o), some (.long l1), none, some (.int i3), some (.int 0), some (.int (iShl 1 i3)), some (.int 0), none, none] [] ph := by
  refine Eq.trans (q_iload_n dX11_measure_16 (show mK mX11_measure 16 [some (.ref o), some (.long l1), none, some (.int i3), u4, u5, u6, u7, u8] = [some (.ref o), some (.long l1), none, some (.int i3), none, none, none, none, none] from rfl) rfl) ?_
  refine Eq.trans (q_bipush (v := 8) dX11_measure_17 (mk0 rfl) rfl) ?_
  refine Eq.trans (q_icmp_ge (t := 128) dX11_measure_19 (mk0 rfl) rfl) (ite_cg ?_ ?_)
  · exact q_return dX11_measure_128 (mk0 rfl) rfl
  · refine Eq.trans (q_iconst (v := 0) dX11_measure_22 (mk0 rfl) rfl) ?_
    refine Eq.trans (q_istore (lv2 := [some (.ref o), some (.long l1), none, some (.int i3), some (.int 0), none, none, none, none]) dX11_measure_23 (mk0 rfl) (Nat.le_of_ble_eq_true rfl) rfl) ?_
    refine Eq.trans (q_iconst (v := 1) dX11_measure_25 (mk0 rfl) rfl) ?_
    refine Eq.trans (q_iload_n dX11_measure_26 (mk0 rfl) rfl) ?_
    refine Eq.trans (q_ishl dX11_measure_27 (mk0 rfl)) ?_
    refine Eq.trans (q_istore (lv2 := [some (.ref o), some (.long l1), none, some (.int i3), some (.int 0), some (.int (iShl 1 i3)), none, none, none]) dX11_measure_28 (mk0 rfl) (Nat.le_of_ble_eq_true rfl) rfl) ?_
    refine Eq.trans (q_iconst (v := 0) dX11_measure_30 (mk0 rfl) rfl) ?_
    refine Eq.trans (q_istore (lv2 := [some (.ref o), some (.long l1), none, some (.int i3), some (.int 0), some (.int (iShl 1 i3)), some (.int 0), none, none]) dX11_measure_31 (mk0 rfl) (Nat.le_of_ble_eq_true rfl) rfl) ?_
    rfl
set_option maxRecDepth 20000 in
theorem bX11_measure_33 {L : Nat} {xs : Nat → Int32} (d : Nat) (o : Nat) (l1 : Int64) (i3 : Int32) (i4 : Int32) (i5 : Int32) (i6 : Int32) (u7 : Option Value) (u8 : Option Value) (ph : PH) : RS (ZZ L xs) (d + 1) mX11_measure 33 [some (.ref o), some (.long l1), none, some (.int i3), some (.int i4), some (.int i5), some (.int i6), u7, u8] [] ph = if (8 : Int32) ≤ i6 then RS (ZZ L xs) (d + 1) mX11_measure 122 [some (.ref o), some (.long l1), none, some (.int i3), some (.int i4), some (.int i5), some (.int i6), none, none] [] ph else if (i5 : Int32) = 0 then RS (ZZ L xs) (d + 1) mX11_measure 122 [some (.ref o), some (.long l1), none, some (.int i3), some (.int i4), some (.int i5), some (.int i6), none, none] [] ph else RS (ZZ L xs) (d + 1) mX11_measure 51 [some (.ref o), some (.long l1), none, some (.int i3), some (.int i4), some (.int i5), some (.int i6), some (.int 0), some (.int 0)] [] ph := by
  refine Eq.trans (q_iload dX11_measure_33 (show mK mX11_measure 33 [some (.ref o), some (.long l1), none, some (.int i3), some (.int i4), some (.int i5), some (.int i6), u7, u8] = [some (.ref o), some (.long l1), none, some (.int i3), some (.int i4), some (.int i5), some (.int i6), none, none] from rfl) rfl) ?_
  refine Eq.trans (q_bipush (v := 8) dX11_measure_35 (mk0 rfl) rfl) ?_
  refine Eq.trans (q_icmp_ge (t := 122) dX11_measure_37 (mk0 rfl) rfl) (ite_cg ?_ ?_)
  · rfl
  · refine Eq.trans (q_iload dX11_measure_40 (mk0 rfl) rfl) ?_
    refine Eq.trans (q_if_eq (t := 122) dX11_measure_42 (mk0 rfl) rfl) (ite_cg ?_ ?_)
    · rfl
    · refine Eq.trans (q_iconst (v := 0) dX11_measure_45 (mk0 rfl) rfl) ?_
      refine Eq.trans (q_istore (lv2 := [some (.ref o), some (.long l1), none, some (.int i3), some (.int i4), some (.int i5), some (.int i6), some (.int 0), none]) dX11_measure_46 (mk0 rfl) (Nat.le_of_ble_eq_true rfl) rfl) ?_
      refine Eq.trans (q_iconst (v := 0) dX11_measure_48 (mk0 rfl) rfl) ?_
      refine Eq.trans (q_istore (lv2 := [some (.ref o), some (.long l1), none, some (.int i3), some (.int i4), some (.int i5), some (.int i6), some (.int 0), some (.int 0)]) dX11_measure_49 (mk0 rfl) (Nat.le_of_ble_eq_true rfl) rfl) ?_
      rfl
set_option maxRecDepth 20000 in
theorem bX11_measure_51 {L : Nat} {xs : Nat → Int32} (d : Nat) (o : Nat) (l1 : Int64) (i3 : Int32) (i4 : Int32) (i5 : Int32) (i6 : Int32) (i7 : Int32) (i8 : Int32) (ph : PH) : RS (ZZ L xs) (d + 1) mX11_measure 51 [some (.ref o), some (.long l1), none, some (.int i3), some (.int i4), some (.int i5), some (.int i6), some (.int i7), some (.int i8)] [] ph = if (8 : Int32) ≤ i8 then RS (ZZ L xs) (d + 1) mX11_measure 33 [some (.ref o), some (.long l1), none, some (.int i3), some (.int (i4 ||| i5)), some (.int (i7 &&& ((i4 ||| i5) ^^^ ((-1))))), some (.int (i6 + 1)), some (.int i7), some (.int i8)] [] ph else if ¬ ((iShr i5 i8) &&& 1 : Int32) = 1 then RS (ZZ L xs) (d + 1) mX11_measure 94 [some (.ref o), some (.long l1), none, some (.int i3), some (.int i4), some (.int i5), some (.int i6), some (.int i7), some (.int i8)] [] ph else (fR ph (.ref o) 11 1).bind fun x70 => (wI ph x70 ((i3 * 8) + i8) i6).bind fun h82 => (cI (ZZ L xs) d mX11_neighbours [.long l1, .int i8] h82).bind fun p88 => RS (ZZ L xs) (d + 1) mX11_measure 94 [some (.ref o), some (.long l1), none, some (.int i3), some (.int i4), some (.int i5), some (.int i6), some (.int (i7 ||| p88.2)), some (.int i8)] [] p88.1 := by
  refine Eq.trans (q_iload dX11_measure_51 (mk0 rfl) rfl) ?_
  refine Eq.trans (q_bipush (v := 8) dX11_measure_53 (mk0 rfl) rfl) ?_
  refine Eq.trans (q_icmp_ge (t := 100) dX11_measure_55 (mk0 rfl) rfl) (ite_cg ?_ ?_)
  · refine Eq.trans (q_iload dX11_measure_100 (mk0 rfl) rfl) ?_
    refine Eq.trans (q_iload dX11_measure_102 (mk0 rfl) rfl) ?_
    refine Eq.trans (q_ior dX11_measure_104 (mk0 rfl)) ?_
    refine Eq.trans (q_istore (lv2 := [some (.ref o), some (.long l1), none, some (.int i3), some (.int (i4 ||| i5)), some (.int i5), some (.int i6), some (.int i7), some (.int i8)]) dX11_measure_105 (mk0 rfl) (Nat.le_of_ble_eq_true rfl) rfl) ?_
    refine Eq.trans (q_iload dX11_measure_107 (mk0 rfl) rfl) ?_
    refine Eq.trans (q_iload dX11_measure_109 (mk0 rfl) rfl) ?_
    refine Eq.trans (q_iconst (v := (-1)) dX11_measure_111 (mk0 rfl) rfl) ?_
    refine Eq.trans (q_ixor dX11_measure_112 (mk0 rfl)) ?_
    refine Eq.trans (q_iand dX11_measure_113 (mk0 rfl)) ?_
    refine Eq.trans (q_istore (lv2 := [some (.ref o), some (.long l1), none, some (.int i3), some (.int (i4 ||| i5)), some (.int (i7 &&& ((i4 ||| i5) ^^^ ((-1))))), some (.int i6), some (.int i7), some (.int i8)]) dX11_measure_114 (mk0 rfl) (Nat.le_of_ble_eq_true rfl) rfl) ?_
    refine Eq.trans (q_iinc (v := 1) (lv2 := [some (.ref o), some (.long l1), none, some (.int i3), some (.int (i4 ||| i5)), some (.int (i7 &&& ((i4 ||| i5) ^^^ ((-1))))), some (.int (i6 + 1)), some (.int i7), some (.int i8)]) dX11_measure_116 (mk0 rfl) rfl rfl rfl) ?_
    refine Eq.trans (q_goto (t := 33) dX11_measure_119 (mk0 rfl) rfl) ?_
    rfl
  · refine Eq.trans (q_iload dX11_measure_58 (mk0 rfl) rfl) ?_
    refine Eq.trans (q_iload dX11_measure_60 (mk0 rfl) rfl) ?_
    refine Eq.trans (q_ishr dX11_measure_62 (mk0 rfl)) ?_
    refine Eq.trans (q_iconst (v := 1) dX11_measure_63 (mk0 rfl) rfl) ?_
    refine Eq.trans (q_iand dX11_measure_64 (mk0 rfl)) ?_
    refine Eq.trans (q_iconst (v := 1) dX11_measure_65 (mk0 rfl) rfl) ?_
    refine Eq.trans (q_icmp_ne (t := 94) dX11_measure_66 (mk0 rfl) rfl) (ite_cg ?_ ?_)
    · rfl
    · refine Eq.trans (q_aload_n dX11_measure_69 (mk0 rfl) rfl rfl) ?_
      refine Eq.trans (q_getR (ci := 11) (k := 1) dX11_measure_70 (mk0 rfl) rfl) (bind_cg2 fun x70 hx70 => ?_)
      have hx70 := fR_isR hx70
      refine Eq.trans (q_iload_n dX11_measure_73 (mk0 rfl) rfl) ?_
      refine Eq.trans (q_bipush (v := 8) dX11_measure_74 (mk0 rfl) rfl) ?_
      refine Eq.trans (q_imul dX11_measure_76 (mk0 rfl)) ?_
      refine Eq.trans (q_iload dX11_measure_77 (mk0 rfl) rfl) ?_
      refine Eq.trans (q_iadd dX11_measure_79 (mk0 rfl)) ?_
      refine Eq.trans (q_iload dX11_measure_80 (mk0 rfl) rfl) ?_
      refine Eq.trans (q_iastore dX11_measure_82 (mk0 rfl)) (bind_cg fun h82 => ?_)
      refine Eq.trans (q_iload dX11_measure_83 (mk0 rfl) rfl) ?_
      refine Eq.trans (q_lload_n dX11_measure_85 (mk0 rfl) rfl) ?_
      refine Eq.trans (q_iload dX11_measure_86 (mk0 rfl) rfl) ?_
      refine Eq.trans (q_callS (as := [.long l1, .int i8]) dX11_measure_88 (mk0 rfl) rfl (Or.inl rfl) rfl rfl (Nat.le_of_ble_eq_true rfl) (Nat.le_of_ble_eq_true rfl)) ?_
      refine Eq.trans (cI_bind (Or.inl rfl)) (bind_cg fun p88 => ?_)
      show RS (ZZ L xs) (d + 1) mX11_measure 91 [some (.ref o), some (.long l1), none, some (.int i3), some (.int i4), some (.int i5), some (.int i6), some (.int i7), some (.int i8)] [.int p88.2, .int i7] p88.1 = _
      refine Eq.trans (q_ior dX11_measure_91 (mk0 rfl)) ?_
      refine Eq.trans (q_istore (lv2 := [some (.ref o), some (.long l1), none, some (.int i3), some (.int i4), some (.int i5), some (.int i6), some (.int (i7 ||| p88.2)), some (.int i8)]) dX11_measure_92 (mk0 rfl) (Nat.le_of_ble_eq_true rfl) rfl) ?_
      rfl
set_option maxRecDepth 20000 in
theorem bX11_measure_94 {L : Nat} {xs : Nat → Int32} (d : Nat) (o : Nat) (l1 : Int64) (i3 : Int32) (i4 : Int32) (i5 : Int32) (i6 : Int32) (i7 : Int32) (i8 : Int32) (ph : PH) : RS (ZZ L xs) (d + 1) mX11_measure 94 [some (.ref o), some (.long l1), none, some (.int i3), some (.int i4), some (.int i5), some (.int i6), some (.int i7), some (.int i8)] [] ph = RS (ZZ L xs) (d + 1) mX11_measure 51 [some (.ref o), some (.long l1), none, some (.int i3), some (.int i4), some (.int i5), some (.int i6), some (.int i7), some (.int (i8 + 1))] [] ph := by
  refine Eq.trans (q_iinc (v := 1) (lv2 := [some (.ref o), some (.long l1), none, some (.int i3), some (.int i4), some (.int i5), some (.int i6), some (.int i7), some (.int (i8 + 1))]) dX11_measure_94 (mk0 rfl) rfl rfl rfl) ?_
  refine Eq.trans (q_goto (t := 51) dX11_measure_97 (mk0 rfl) rfl) ?_
  rfl
set_option maxRecDepth 20000 in
theorem bX11_measure_122 {L : Nat} {xs : Nat → Int32} (d : Nat) (o : Nat) (l1 : Int64) (i3 : Int32) (u4 : Option Value) (u5 : Option Value) (u6 : Option Value) (u7 : Option Value) (u8 : Option Value) (ph : PH) : RS (ZZ L xs) (d + 1) mX11_measure 122 [some (.ref o), some (.long l1), none, some (.int i3), u4, u5, u6, u7, u8] [] ph = RS (ZZ L xs) (d + 1) mX11_measure 16 [some (.ref o), some (.long l1), none, some (.int (i3 + 1)), none, none, none, none, none] [] ph := by
  refine Eq.trans (q_iinc (v := 1) (lv2 := [some (.ref o), some (.long l1), none, some (.int (i3 + 1)), none, none, none, none, none]) dX11_measure_122 (show mK mX11_measure 122 [some (.ref o), some (.long l1), none, some (.int i3), u4, u5, u6, u7, u8] = [some (.ref o), some (.long l1), none, some (.int i3), none, none, none, none, none] from rfl) rfl rfl rfl) ?_
  refine Eq.trans (q_goto (t := 16) dX11_measure_125 (mk0 rfl) rfl) ?_
  rfl
set_option maxRecDepth 20000 in
theorem bX11_far_0 {L : Nat} {xs : Nat → Int32} (d : Nat) (o : Nat) (i1 : Int32) (i2 : Int32) (ph : PH) : RS (ZZ L xs) (d + 1) mX11_far 0 [some (.ref o), some (.int i1), some (.int i2), none] [] ph = if (i1 : Int32) < 0 then RS (ZZ L xs) (d + 1) mX11_far 24 [some (.ref o), some (.int i1), some (.int i2), none] [] ph else if (8 : Int32) ≤ i1 then RS (ZZ L xs) (d + 1) mX11_far 24 [some (.ref o), some (.int i1), some (.int i2), none] [] ph else if (i2 : Int32) < 0 then RS (ZZ L xs) (d + 1) mX11_far 24 [some (.ref o), some (.int i1), some (.int i2), none] [] ph else if (8 : Int32) ≤ i2 then RS (ZZ L xs) (d + 1) mX11_far 24 [some (.ref o), some (.int i1), some (.int i2), none] [] ph else RS (ZZ L xs) (d + 1) mX11_far 25 [some (.ref o), some (.int i1), some (.int i2), none] [.int 1] ph := by
  refine Eq.trans (q_iload_n dX11_far_0 (mk0 rfl) rfl) ?_
  refine Eq.trans (q_if_lt (t := 24) dX11_far_1 (mk0 rfl) rfl) (ite_cg ?_ ?_)
  · rfl
  · refine Eq.trans (q_iload_n dX11_far_4 (mk0 rfl) rfl) ?_
    refine Eq.trans (q_bipush (v := 8) dX11_far_5 (mk0 rfl) rfl) ?_
    refine Eq.trans (q_icmp_ge (t := 24) dX11_far_7 (mk0 rfl) rfl) (ite_cg ?_ ?_)
    · rfl
    · refine Eq.trans (q_iload_n dX11_far_10 (mk0 rfl) rfl) ?_
      refine Eq.trans (q_if_lt (t := 24) dX11_far_11 (mk0 rfl) rfl) (ite_cg ?_ ?_)
      · rfl
      · refine Eq.trans (q_iload_n dX11_far_14 (mk0 rfl) rfl) ?_
        refine Eq.trans (q_bipush (v := 8) dX11_far_15 (mk0 rfl) rfl) ?_
        refine Eq.trans (q_icmp_ge (t := 24) dX11_far_17 (mk0 rfl) rfl) (ite_cg ?_ ?_)
        · rfl
        · refine Eq.trans (q_iconst (v := 1) dX11_far_20 (mk0 rfl) rfl) ?_
          refine Eq.trans (q_goto (t := 25) dX11_far_21 (mk0 rfl) rfl) ?_
          rfl
set_option maxRecDepth 20000 in
theorem bX11_far_24 {L : Nat} {xs : Nat → Int32} (d : Nat) (o : Nat) (i1 : Int32) (i2 : Int32) (u3 : Option Value) (ph : PH) : RS (ZZ L xs) (d + 1) mX11_far 24 [some (.ref o), some (.int i1), some (.int i2), u3] [] ph = RS (ZZ L xs) (d + 1) mX11_far 25 [some (.ref o), some (.int i1), some (.int i2), none] [.int 0] ph := by
  refine Eq.trans (q_iconst (v := 0) dX11_far_24 (show mK mX11_far 24 [some (.ref o), some (.int i1), some (.int i2), u3] = [some (.ref o), some (.int i1), some (.int i2), none] from rfl) rfl) ?_
  rfl
set_option maxRecDepth 20000 in
theorem bX11_far_25 {L : Nat} {xs : Nat → Int32} (d : Nat) (o : Nat) (i1 : Int32) (i2 : Int32) (u3 : Option Value) (t0 : Int32) (ph : PH) : RS (ZZ L xs) (d + 1) mX11_far 25 [some (.ref o), some (.int i1), some (.int i2), u3] [.int t0] ph = if (t0 : Int32) = 0 then RS (ZZ L xs) (d + 1) mX11_far 46 [some (.ref o), some (.int i1), some (.int i2), some (.int t0)] [.int 99] ph else (fR ph (.ref o) 11 1).bind fun x31 => (eI ph x31 ((i1 * 8) + i2)).bind fun x40 => RS (ZZ L xs) (d + 1) mX11_far 46 [some (.ref o), some (.int i1), some (.int i2), some (.int t0)] [.int x40] ph := by
  refine Eq.trans (q_istore_n (lv2 := [some (.ref o), some (.int i1), some (.int i2), some (.int t0)]) dX11_far_25 (show mK mX11_far 25 [some (.ref o), some (.int i1), some (.int i2), u3] = [some (.ref o), some (.int i1), some (.int i2), none] from rfl) (Nat.le_of_ble_eq_true rfl) rfl) ?_
  refine Eq.trans (q_iload_n dX11_far_26 (mk0 rfl) rfl) ?_
  refine Eq.trans (q_if_eq (t := 44) dX11_far_27 (mk0 rfl) rfl) (ite_cg ?_ ?_)
  · refine Eq.trans (q_bipush (v := 99) dX11_far_44 (mk0 rfl) rfl) ?_
    rfl
  · refine Eq.trans (q_aload_n dX11_far_30 (mk0 rfl) rfl rfl) ?_
    refine Eq.trans (q_getR (ci := 11) (k := 1) dX11_far_31 (mk0 rfl) rfl) (bind_cg2 fun x31 hx31 => ?_)
    have hx31 := fR_isR hx31
    refine Eq.trans (q_iload_n dX11_far_34 (mk0 rfl) rfl) ?_
    refine Eq.trans (q_bipush (v := 8) dX11_far_35 (mk0 rfl) rfl) ?_
    refine Eq.trans (q_imul dX11_far_37 (mk0 rfl)) ?_
    refine Eq.trans (q_iload_n dX11_far_38 (mk0 rfl) rfl) ?_
    refine Eq.trans (q_iadd dX11_far_39 (mk0 rfl)) ?_
    refine Eq.trans (q_iaload dX11_far_40 (mk0 rfl) (no_ext hx31)) (bind_cg fun x40 => ?_)
    refine Eq.trans (q_goto (t := 46) dX11_far_41 (mk0 rfl) rfl) ?_
    rfl
set_option maxRecDepth 20000 in
theorem bX11_far_46 {L : Nat} {xs : Nat → Int32} (d : Nat) (u0 : Option Value) (u1 : Option Value) (u2 : Option Value) (u3 : Option Value) (t0 : Int32) (ph : PH) : RS (ZZ L xs) (d + 1) mX11_far 46 [u0, u1, u2, u3] [.int t0] ph = some (ph, some (.int t0)) := by
  exact q_ireturn dX11_far_46 (show mK mX11_far 46 [u0, u1, u2, u3] = [none, none, none, none] from rfl) rfl
set_option maxRecDepth 20000 in
theorem bX11_step_0 {L : Nat} {xs : Nat → Int32} (d : Nat) (o : Nat) (i1 : Int32) (i2 : Int32) (ph : PH) : RS (ZZ L xs) (d + 1) mX11_step 0 [some (.ref o), some (.int i1), some (.int i2), none, none, none] [] ph = (iO ph (.ref o) 11).bind fun b3 => (cI (ZZ L xs) d mX11_far [.ref b3, .int i1, .int i2] ph).bind fun p3 => if ¬ (p3.2 : Int32) = 99 then (fL p3.1 (.ref o) 11 0).bind fun x16 => (cI (ZZ L xs) d mX11_neighbours [.long x16, .int i1] p3.1).bind fun p20 => RS (ZZ L xs) (d + 1) mX11_step 28 [some (.ref o), some (.int i1), some (.int i2), some (.int p3.2), some (.int p20.2), some (.int 0)] [] p20.1 else some (p3.1, some (.int i1)) := by
  refine Eq.trans (q_aload_n dX11_step_0 (mk0 rfl) rfl rfl) ?_
  refine Eq.trans (q_iload_n dX11_step_1 (mk0 rfl) rfl) ?_
  refine Eq.trans (q_iload_n dX11_step_2 (mk0 rfl) rfl) ?_
  refine Eq.trans (q_callV (as := [.int i1, .int i2]) dX11_step_3 (mk0 rfl) rfl rfl rfl (Nat.le_of_ble_eq_true rfl) (Nat.le_of_ble_eq_true rfl)) (bind_cg fun b3 => ?_)
  refine Eq.trans (cI_bind (Or.inl rfl)) (bind_cg fun p3 => ?_)
  show RS (ZZ L xs) (d + 1) mX11_step 6 [some (.ref o), some (.int i1), some (.int i2), none, none, none] [.int p3.2] p3.1 = _
  refine Eq.trans (q_istore_n (lv2 := [some (.ref o), some (.int i1), some (.int i2), some (.int p3.2), none, none]) dX11_step_6 (mk0 rfl) (Nat.le_of_ble_eq_true rfl) rfl) ?_
  refine Eq.trans (q_iload_n dX11_step_7 (mk0 rfl) rfl) ?_
  refine Eq.trans (q_bipush (v := 99) dX11_step_8 (mk0 rfl) rfl) ?_
  refine Eq.trans (q_icmp_ne (t := 15) dX11_step_10 (mk0 rfl) rfl) (ite_cg ?_ ?_)
  · refine Eq.trans (q_aload_n dX11_step_15 (mk0 rfl) rfl rfl) ?_
    refine Eq.trans (q_getL (ci := 11) (k := 0) dX11_step_16 (mk0 rfl) rfl) (bind_cg fun x16 => ?_)
    refine Eq.trans (q_iload_n dX11_step_19 (mk0 rfl) rfl) ?_
    refine Eq.trans (q_callS (as := [.long x16, .int i1]) dX11_step_20 (mk0 rfl) rfl (Or.inl rfl) rfl rfl (Nat.le_of_ble_eq_true rfl) (Nat.le_of_ble_eq_true rfl)) ?_
    refine Eq.trans (cI_bind (Or.inl rfl)) (bind_cg fun p20 => ?_)
    show RS (ZZ L xs) (d + 1) mX11_step 23 [some (.ref o), some (.int i1), some (.int i2), some (.int p3.2), none, none] [.int p20.2] p20.1 = _
    refine Eq.trans (q_istore (lv2 := [some (.ref o), some (.int i1), some (.int i2), some (.int p3.2), some (.int p20.2), none]) dX11_step_23 (mk0 rfl) (Nat.le_of_ble_eq_true rfl) rfl) ?_
    refine Eq.trans (q_iconst (v := 0) dX11_step_25 (mk0 rfl) rfl) ?_
    refine Eq.trans (q_istore (lv2 := [some (.ref o), some (.int i1), some (.int i2), some (.int p3.2), some (.int p20.2), some (.int 0)]) dX11_step_26 (mk0 rfl) (Nat.le_of_ble_eq_true rfl) rfl) ?_
    rfl
  · refine Eq.trans (q_iload_n dX11_step_13 (mk0 rfl) rfl) ?_
    exact q_ireturn dX11_step_14 (mk0 rfl) rfl
set_option maxRecDepth 20000 in
theorem bX11_step_28 {L : Nat} {xs : Nat → Int32} (d : Nat) (o : Nat) (i1 : Int32) (i2 : Int32) (i3 : Int32) (i4 : Int32) (i5 : Int32) (ph : PH) : RS (ZZ L xs) (d + 1) mX11_step 28 [some (.ref o), some (.int i1), some (.int i2), some (.int i3), some (.int i4), some (.int i5)] [] ph = if (8 : Int32) ≤ i5 then some (ph, some (.int i1)) else if ¬ ((iShr i4 i5) &&& 1 : Int32) = 1 then RS (ZZ L xs) (d + 1) mX11_step 62 [some (.ref o), some (.int i1), some (.int i2), some (.int i3), some (.int i4), some (.int i5)] [] ph else (iO ph (.ref o) 11).bind fun b50 => (cI (ZZ L xs) d mX11_far [.ref b50, .int i5, .int i2] ph).bind fun p50 => if ¬ (p50.2 : Int32) = i3 - 1 then RS (ZZ L xs) (d + 1) mX11_step 62 [some (.ref o), some (.int i1), some (.int i2), some (.int i3), some (.int i4), some (.int i5)] [] p50.1 else some (p50.1, some (.int i5)) := by
  refine Eq.trans (q_iload dX11_step_28 (mk0 rfl) rfl) ?_
  refine Eq.trans (q_bipush (v := 8) dX11_step_30 (mk0 rfl) rfl) ?_
  refine Eq.trans (q_icmp_ge (t := 68) dX11_step_32 (mk0 rfl) rfl) (ite_cg ?_ ?_)
  · refine Eq.trans (q_iload_n dX11_step_68 (mk0 rfl) rfl) ?_
    exact q_ireturn dX11_step_69 (mk0 rfl) rfl
  · refine Eq.trans (q_iload dX11_step_35 (mk0 rfl) rfl) ?_
    refine Eq.trans (q_iload dX11_step_37 (mk0 rfl) rfl) ?_
    refine Eq.trans (q_ishr dX11_step_39 (mk0 rfl)) ?_
    refine Eq.trans (q_iconst (v := 1) dX11_step_40 (mk0 rfl) rfl) ?_
    refine Eq.trans (q_iand dX11_step_41 (mk0 rfl)) ?_
    refine Eq.trans (q_iconst (v := 1) dX11_step_42 (mk0 rfl) rfl) ?_
    refine Eq.trans (q_icmp_ne (t := 62) dX11_step_43 (mk0 rfl) rfl) (ite_cg ?_ ?_)
    · rfl
    · refine Eq.trans (q_aload_n dX11_step_46 (mk0 rfl) rfl rfl) ?_
      refine Eq.trans (q_iload dX11_step_47 (mk0 rfl) rfl) ?_
      refine Eq.trans (q_iload_n dX11_step_49 (mk0 rfl) rfl) ?_
      refine Eq.trans (q_callV (as := [.int i5, .int i2]) dX11_step_50 (mk0 rfl) rfl rfl rfl (Nat.le_of_ble_eq_true rfl) (Nat.le_of_ble_eq_true rfl)) (bind_cg fun b50 => ?_)
      refine Eq.trans (cI_bind (Or.inl rfl)) (bind_cg fun p50 => ?_)
      show RS (ZZ L xs) (d + 1) mX11_step 53 [some (.ref o), some (.int i1), some (.int i2), some (.int i3), some (.int i4), some (.int i5)] [.int p50.2] p50.1 = _
      refine Eq.trans (q_iload_n dX11_step_53 (mk0 rfl) rfl) ?_
      refine Eq.trans (q_iconst (v := 1) dX11_step_54 (mk0 rfl) rfl) ?_
      refine Eq.trans (q_isub dX11_step_55 (mk0 rfl)) ?_
      refine Eq.trans (q_icmp_ne (t := 62) dX11_step_56 (mk0 rfl) rfl) (ite_cg ?_ ?_)
      · rfl
      · refine Eq.trans (q_iload dX11_step_59 (mk0 rfl) rfl) ?_
        exact q_ireturn dX11_step_61 (mk0 rfl) rfl
set_option maxRecDepth 20000 in
theorem bX11_step_62 {L : Nat} {xs : Nat → Int32} (d : Nat) (o : Nat) (i1 : Int32) (i2 : Int32) (i3 : Int32) (i4 : Int32) (i5 : Int32) (ph : PH) : RS (ZZ L xs) (d + 1) mX11_step 62 [some (.ref o), some (.int i1), some (.int i2), some (.int i3), some (.int i4), some (.int i5)] [] ph = RS (ZZ L xs) (d + 1) mX11_step 28 [some (.ref o), some (.int i1), some (.int i2), some (.int i3), some (.int i4), some (.int (i5 + 1))] [] ph := by
  refine Eq.trans (q_iinc (v := 1) (lv2 := [some (.ref o), some (.int i1), some (.int i2), some (.int i3), some (.int i4), some (.int (i5 + 1))]) dX11_step_62 (mk0 rfl) rfl rfl rfl) ?_
  refine Eq.trans (q_goto (t := 28) dX11_step_65 (mk0 rfl) rfl) ?_
  rfl
set_option maxRecDepth 20000 in
theorem bX11_least_0 {L : Nat} {xs : Nat → Int32} (d : Nat) (i0 : Int32) (i1 : Int32) (ph : PH) : RS (ZZ L xs) (d + 1) mX11_least 0 [some (.int i0), some (.int i1), none] [] ph = RS (ZZ L xs) (d + 1) mX11_least 2 [some (.int i0), some (.int i1), some (.int 0)] [] ph := by
  refine Eq.trans (q_iconst (v := 0) dX11_least_0 (mk0 rfl) rfl) ?_
  refine Eq.trans (q_istore_n (lv2 := [some (.int i0), some (.int i1), some (.int 0)]) dX11_least_1 (mk0 rfl) (Nat.le_of_ble_eq_true rfl) rfl) ?_
  rfl
set_option maxRecDepth 20000 in
theorem bX11_least_2 {L : Nat} {xs : Nat → Int32} (d : Nat) (i0 : Int32) (i1 : Int32) (i2 : Int32) (ph : PH) : RS (ZZ L xs) (d + 1) mX11_least 2 [some (.int i0), some (.int i1), some (.int i2)] [] ph = if (8 : Int32) ≤ i2 then some (ph, some (.int i1)) else if ¬ ((iShr i0 i2) &&& 1 : Int32) = 1 then RS (ZZ L xs) (d + 1) mX11_least 2 [some (.int i0), some (.int i1), some (.int (i2 + 1))] [] ph else some (ph, some (.int i2)) := by
  refine Eq.trans (q_iload_n dX11_least_2 (mk0 rfl) rfl) ?_
  refine Eq.trans (q_bipush (v := 8) dX11_least_3 (mk0 rfl) rfl) ?_
  refine Eq.trans (q_icmp_ge (t := 25) dX11_least_5 (mk0 rfl) rfl) (ite_cg ?_ ?_)
  · refine Eq.trans (q_iload_n dX11_least_25 (mk0 rfl) rfl) ?_
    exact q_ireturn dX11_least_26 (mk0 rfl) rfl
  · refine Eq.trans (q_iload_n dX11_least_8 (mk0 rfl) rfl) ?_
    refine Eq.trans (q_iload_n dX11_least_9 (mk0 rfl) rfl) ?_
    refine Eq.trans (q_ishr dX11_least_10 (mk0 rfl)) ?_
    refine Eq.trans (q_iconst (v := 1) dX11_least_11 (mk0 rfl) rfl) ?_
    refine Eq.trans (q_iand dX11_least_12 (mk0 rfl)) ?_
    refine Eq.trans (q_iconst (v := 1) dX11_least_13 (mk0 rfl) rfl) ?_
    refine Eq.trans (q_icmp_ne (t := 19) dX11_least_14 (mk0 rfl) rfl) (ite_cg ?_ ?_)
    · refine Eq.trans (q_iinc (v := 1) (lv2 := [some (.int i0), some (.int i1), some (.int (i2 + 1))]) dX11_least_19 (mk0 rfl) rfl rfl rfl) ?_
      refine Eq.trans (q_goto (t := 2) dX11_least_22 (mk0 rfl) rfl) ?_
      rfl
    · refine Eq.trans (q_iload_n dX11_least_17 (mk0 rfl) rfl) ?_
      exact q_ireturn dX11_least_18 (mk0 rfl) rfl
set_option maxRecDepth 20000 in
theorem bX11_greatest_0 {L : Nat} {xs : Nat → Int32} (d : Nat) (i0 : Int32) (i1 : Int32) (ph : PH) : RS (ZZ L xs) (d + 1) mX11_greatest 0 [some (.int i0), some (.int i1), none] [] ph = RS (ZZ L xs) (d + 1) mX11_greatest 3 [some (.int i0), some (.int i1), some (.int 7)] [] ph := by
  refine Eq.trans (q_bipush (v := 7) dX11_greatest_0 (mk0 rfl) rfl) ?_
  refine Eq.trans (q_istore_n (lv2 := [some (.int i0), some (.int i1), some (.int 7)]) dX11_greatest_2 (mk0 rfl) (Nat.le_of_ble_eq_true rfl) rfl) ?_
  rfl
set_option maxRecDepth 20000 in
theorem bX11_greatest_3 {L : Nat} {xs : Nat → Int32} (d : Nat) (i0 : Int32) (i1 : Int32) (i2 : Int32) (ph : PH) : RS (ZZ L xs) (d + 1) mX11_greatest 3 [some (.int i0), some (.int i1), some (.int i2)] [] ph = if (i2 : Int32) < 0 then some (ph, some (.int i1)) else if ¬ ((iShr i0 i2) &&& 1 : Int32) = 1 then RS (ZZ L xs) (d + 1) mX11_greatest 3 [some (.int i0), some (.int i1), some (.int (i2 + (-1)))] [] ph else some (ph, some (.int i2)) := by
  refine Eq.trans (q_iload_n dX11_greatest_3 (mk0 rfl) rfl) ?_
  refine Eq.trans (q_if_lt (t := 24) dX11_greatest_4 (mk0 rfl) rfl) (ite_cg ?_ ?_)
  · refine Eq.trans (q_iload_n dX11_greatest_24 (mk0 rfl) rfl) ?_
    exact q_ireturn dX11_greatest_25 (mk0 rfl) rfl
  · refine Eq.trans (q_iload_n dX11_greatest_7 (mk0 rfl) rfl) ?_
    refine Eq.trans (q_iload_n dX11_greatest_8 (mk0 rfl) rfl) ?_
    refine Eq.trans (q_ishr dX11_greatest_9 (mk0 rfl)) ?_
    refine Eq.trans (q_iconst (v := 1) dX11_greatest_10 (mk0 rfl) rfl) ?_
    refine Eq.trans (q_iand dX11_greatest_11 (mk0 rfl)) ?_
    refine Eq.trans (q_iconst (v := 1) dX11_greatest_12 (mk0 rfl) rfl) ?_
    refine Eq.trans (q_icmp_ne (t := 18) dX11_greatest_13 (mk0 rfl) rfl) (ite_cg ?_ ?_)
    · refine Eq.trans (q_iinc (v := (-1)) (lv2 := [some (.int i0), some (.int i1), some (.int (i2 + (-1)))]) dX11_greatest_18 (mk0 rfl) rfl rfl rfl) ?_
      refine Eq.trans (q_goto (t := 3) dX11_greatest_21 (mk0 rfl) rfl) ?_
      rfl
    · refine Eq.trans (q_iload_n dX11_greatest_16 (mk0 rfl) rfl) ?_
      exact q_ireturn dX11_greatest_17 (mk0 rfl) rfl
