set_option maxRecDepth 20000 in
theorem bJ7_fill_53178_0 {L : Nat} {xs : Nat → Int32} (d : Nat) (v0 : Value) (i1 : Int32) (hv0 : isR v0 = true) (ph : PH) : RS (ZZ L xs) (d + 1) mJ7_fill_53178 0 [some (v0), some (.int i1), none, none] [] ph = (nA ph v0).bind fun x3 => RS (ZZ L xs) (d + 1) mJ7_fill_53178 5 [some (v0), some (.int i1), some (.int 0), some (.int x3)] [] ph := by
  refine Eq.trans (q_iconst (v := 0) dJ7_fill_53178_0 (mk0 rfl) rfl) ?_
  refine Eq.trans (q_istore_n (lv2 := [some (v0), some (.int i1), some (.int 0), none]) dJ7_fill_53178_1 (mk0 rfl) (Nat.le_of_ble_eq_true rfl) rfl) ?_
  refine Eq.trans (q_aload_n dJ7_fill_53178_2 (mk0 rfl) rfl (isA_R hv0)) ?_
  refine Eq.trans (q_alen dJ7_fill_53178_3 (mk0 rfl) (no_ext hv0)) (bind_cg fun x3 => ?_)
  refine Eq.trans (q_istore_n (lv2 := [some (v0), some (.int i1), some (.int 0), some (.int x3)]) dJ7_fill_53178_4 (mk0 rfl) (Nat.le_of_ble_eq_true rfl) rfl) ?_
  rfl
set_option maxRecDepth 20000 in
theorem bJ7_fill_53178_5 {L : Nat} {xs : Nat → Int32} (d : Nat) (v0 : Value) (i1 : Int32) (i2 : Int32) (i3 : Int32) (hv0 : isR v0 = true) (ph : PH) : RS (ZZ L xs) (d + 1) mJ7_fill_53178 5 [some (v0), some (.int i1), some (.int i2), some (.int i3)] [] ph = if (i3 : Int32) ≤ i2 then some (ph, none) else (wI ph v0 i2 i1).bind fun h13 => RS (ZZ L xs) (d + 1) mJ7_fill_53178 5 [some (v0), some (.int i1), some (.int (i2 + 1)), some (.int i3)] [] h13 := by
  refine Eq.trans (q_iload_n dJ7_fill_53178_5 (mk0 rfl) rfl) ?_
  refine Eq.trans (q_iload_n dJ7_fill_53178_6 (mk0 rfl) rfl) ?_
  refine Eq.trans (q_icmp_ge (t := 20) dJ7_fill_53178_7 (mk0 rfl) rfl) (ite_cg ?_ ?_)
  · exact q_return dJ7_fill_53178_20 (mk0 rfl) rfl
  · refine Eq.trans (q_aload_n dJ7_fill_53178_10 (mk0 rfl) rfl (isA_R hv0)) ?_
    refine Eq.trans (q_iload_n dJ7_fill_53178_11 (mk0 rfl) rfl) ?_
    refine Eq.trans (q_iload_n dJ7_fill_53178_12 (mk0 rfl) rfl) ?_
    refine Eq.trans (q_iastore dJ7_fill_53178_13 (mk0 rfl)) (bind_cg fun h13 => ?_)
    refine Eq.trans (q_iinc (v := 1) (lv2 := [some (v0), some (.int i1), some (.int (i2 + 1)), some (.int i3)]) dJ7_fill_53178_14 (mk0 rfl) rfl rfl rfl) ?_
    refine Eq.trans (q_goto (t := 5) dJ7_fill_53178_17 (mk0 rfl) rfl) ?_
    rfl
