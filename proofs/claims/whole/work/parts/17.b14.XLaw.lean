set_option maxRecDepth 20000 in
theorem bL_law_0 {L : Nat} {xs : Nat → Int32} (d : Nat)  (ph : PH) : RS (ZZ L xs) (d + 1) mL_law 0 [some (.retAddr 0), none, none, none] [] ph = (dR (.ref ph.length)).bind fun b4 => (cV (ZZ L xs) d mX12_init [.ref b4] (ph ++ [.inr (12, [.null, .null, .null, .null, .int 0, .null, .null, .null, .null, .null, .null])])).bind fun p4 => (dR (.ref p4.length)).bind fun b12 => (cV (ZZ L xs) d mX13_init [.ref b12] (p4 ++ [.inr (13, [.int 0, .null, .null, .null, .null, .null, .null, .null, .null, .null, .null, .null, .null, .null, .null, .null, .null, .null, .null, .null, .null, .null, .null, .null, .null, .null, .null, .null, .int 0, .int 0, .int 0, .int 0, .int 0, .int 0, .int 0, .int 0, .int 0, .int 0, .null, .null, .null, .null, .null, .null, .null, .null, .null, .null, .null, .null, .null, .int 0, .int 0, .int 0, .null, .null, .null, .null, .null, .null, .null, .int 0, .int 0])])).bind fun p12 => RS (ZZ L xs) (d + 1) mL_law 18 [some (.retAddr 0), some (.ref ph.length), some (.ref p4.length), some (.int 0)] [] p12 := by
  refine Eq.trans (q_new dL_law_0 (mk0 rfl) rfl) ?_
  refine Eq.trans (q_dup dL_law_3 (mk0 rfl) rfl) ?_
  refine Eq.trans (q_callI (as := []) dL_law_4 (mk0 rfl) rfl (Or.inl rfl) rfl rfl (Nat.le_of_ble_eq_true rfl) (Nat.le_of_ble_eq_true rfl)) (bind_cg fun b4 => ?_)
  refine Eq.trans (cV_bind rfl) (bind_cg fun p4 => ?_)
  show RS (ZZ L xs) (d + 1) mL_law 7 [some (.retAddr 0), none, none, none] [.ref ph.length] p4 = _
  refine Eq.trans (q_astore_n (lv2 := [some (.retAddr 0), some (.ref ph.length), none, none]) dL_law_7 (mk0 rfl) (Nat.le_of_ble_eq_true rfl) rfl rfl) ?_
  refine Eq.trans (q_new dL_law_8 (mk0 rfl) rfl) ?_
  refine Eq.trans (q_dup dL_law_11 (mk0 rfl) rfl) ?_
  refine Eq.trans (q_callI (as := []) dL_law_12 (mk0 rfl) rfl (Or.inl rfl) rfl rfl (Nat.le_of_ble_eq_true rfl) (Nat.le_of_ble_eq_true rfl)) (bind_cg fun b12 => ?_)
  refine Eq.trans (cV_bind rfl) (bind_cg fun p12 => ?_)
  show RS (ZZ L xs) (d + 1) mL_law 15 [some (.retAddr 0), some (.ref ph.length), none, none] [.ref p4.length] p12 = _
  refine Eq.trans (q_astore_n (lv2 := [some (.retAddr 0), some (.ref ph.length), some (.ref p4.length), none]) dL_law_15 (mk0 rfl) (Nat.le_of_ble_eq_true rfl) rfl rfl) ?_
  refine Eq.trans (q_iconst (v := 0) dL_law_16 (mk0 rfl) rfl) ?_
  refine Eq.trans (q_istore_n (lv2 := [some (.retAddr 0), some (.ref ph.length), some (.ref p4.length), some (.int 0)]) dL_law_17 (mk0 rfl) (Nat.le_of_ble_eq_true rfl) rfl) ?_
  rfl
set_option maxRecDepth 20000 in
theorem bL_law_18 {L : Nat} {xs : Nat → Int32} (d : Nat) (v1 : Value) (v2 : Value) (i3 : Int32) (hv1 : isR v1 = true) (hv2 : isR v2 = true) (ph : PH) : RS (ZZ L xs) (d + 1) mL_law 18 [some (.retAddr 0), some (v1), some (v2), some (.int i3)] [] ph = if ((Int32.ofNat L) - 6 : Int32) < i3 then if (1 : Int32) = 0 ∨ (1 : Int32) = 1 then some (ph, some (.int 1)) else none else (scr L xs i3).bind fun x29 => if (x29 &&& 63 : Int32) = 0 then RS (ZZ L xs) (d + 1) mL_law 184 [some (.retAddr 0), some (v1), some (v2), some (.int i3)] [] ph else if (x29 &&& 63 : Int32) = 1 then RS (ZZ L xs) (d + 1) mL_law 247 [some (.retAddr 0), some (v1), some (v2), some (.int i3)] [] ph else if (x29 &&& 63 : Int32) = 2 then RS (ZZ L xs) (d + 1) mL_law 270 [some (.retAddr 0), some (v1), some (v2), some (.int i3)] [] ph else if (x29 &&& 63 : Int32) = 3 then RS (ZZ L xs) (d + 1) mL_law 283 [some (.retAddr 0), some (v1), some (v2), some (.int i3)] [] ph else if (x29 &&& 63 : Int32) = 4 then RS (ZZ L xs) (d + 1) mL_law 296 [some (.retAddr 0), some (v1), some (v2), some (.int i3)] [] ph else if (x29 &&& 63 : Int32) = 5 then RS (ZZ L xs) (d + 1) mL_law 319 [some (.retAddr 0), some (v1), some (v2), some (.int i3)] [] ph else if (x29 &&& 63 : Int32) = 6 then RS (ZZ L xs) (d + 1) mL_law 352 [some (.retAddr 0), some (v1), some (v2), some (.int i3)] [] ph else if (x29 &&& 63 : Int32) = 7 then RS (ZZ L xs) (d + 1) mL_law 385 [some (.retAddr 0), some (v1), some (v2), some (.int i3)] [] ph else if (x29 &&& 63 : Int32) = 8 then RS (ZZ L xs) (d + 1) mL_law 408 [some (.retAddr 0), some (v1), some (v2), some (.int i3)] [] ph else if (x29 &&& 63 : Int32) = 9 then RS (ZZ L xs) (d + 1) mL_law 441 [some (.retAddr 0), some (v1), some (v2), some (.int i3)] [] ph else if (x29 &&& 63 : Int32) = 10 then RS (ZZ L xs) (d + 1) mL_law 454 [some (.retAddr 0), some (v1), some (v2), some (.int i3)] [] ph else if (x29 &&& 63 : Int32) = 11 then RS (ZZ L xs) (d + 1) mL_law 487 [some (.retAddr 0), some (v1), some (v2), some (.int i3)] [] ph else if (x29 &&& 63 : Int32) = 12 then RS (ZZ L xs) (d + 1) mL_law 520 [some (.retAddr 0), some (v1), some (v2), some (.int i3)] [] ph else if (x29 &&& 63 : Int32) = 13 then RS (ZZ L xs) (d + 1) mL_law 553 [some (.retAddr 0), some (v1), some (v2), some (.int i3)] [] ph else if (x29 &&& 63 : Int32) = 14 then RS (ZZ L xs) (d + 1) mL_law 576 [some (.retAddr 0), some (v1), some (v2), some (.int i3)] [] ph else if (x29 &&& 63 : Int32) = 15 then RS (ZZ L xs) (d + 1) mL_law 589 [some (.retAddr 0), some (v1), some (v2), some (.int i3)] [] ph else if (x29 &&& 63 : Int32) = 16 then RS (ZZ L xs) (d + 1) mL_law 632 [some (.retAddr 0), some (v1), some (v2), some (.int i3)] [] ph else if (x29 &&& 63 : Int32) = 17 then RS (ZZ L xs) (d + 1) mL_law 655 [some (.retAddr 0), some (v1), some (v2), some (.int i3)] [] ph else if (x29 &&& 63 : Int32) = 18 then RS (ZZ L xs) (d + 1) mL_law 698 [some (.retAddr 0), some (v1), some (v2), some (.int i3)] [] ph else if (x29 &&& 63 : Int32) = 19 then RS (ZZ L xs) (d + 1) mL_law 731 [some (.retAddr 0), some (v1), some (v2), some (.int i3)] [] ph else if (x29 &&& 63 : Int32) = 20 then RS (ZZ L xs) (d + 1) mL_law 774 [some (.retAddr 0), some (v1), some (v2), some (.int i3)] [] ph else if (x29 &&& 63 : Int32) = 21 then RS (ZZ L xs) (d + 1) mL_law 827 [some (.retAddr 0), some (v1), some (v2), some (.int i3)] [] ph else if (x29 &&& 63 : Int32) = 22 then RS (ZZ L xs) (d + 1) mL_law 850 [some (.retAddr 0), some (v1), some (v2), some (.int i3)] [] ph else if (x29 &&& 63 : Int32) = 23 then RS (ZZ L xs) (d + 1) mL_law 883 [some (.retAddr 0), some (v1), some (v2), some (.int i3)] [] ph else if (x29 &&& 63 : Int32) = 24 then RS (ZZ L xs) (d + 1) mL_law 936 [some (.retAddr 0), some (v1), some (v2), some (.int i3)] [] ph else if (x29 &&& 63 : Int32) = 25 then RS (ZZ L xs) (d + 1) mL_law 989 [some (.retAddr 0), some (v1), some (v2), some (.int i3)] [] ph else if (x29 &&& 63 : Int32) = 26 then RS (ZZ L xs) (d + 1) mL_law 1022 [some (.retAddr 0), some (v1), some (v2), some (.int i3)] [] ph else if (x29 &&& 63 : Int32) = 27 then RS (ZZ L xs) (d + 1) mL_law 1065 [some (.retAddr 0), some (v1), some (v2), some (.int i3)] [] ph else if (x29 &&& 63 : Int32) = 28 then RS (ZZ L xs) (d + 1) mL_law 1088 [some (.retAddr 0), some (v1), some (v2), some (.int i3)] [] ph else if (x29 &&& 63 : Int32) = 29 then RS (ZZ L xs) (d + 1) mL_law 1121 [some (.retAddr 0), some (v1), some (v2), some (.int i3)] [] ph else if (x29 &&& 63 : Int32) = 30 then RS (ZZ L xs) (d + 1) mL_law 1144 [some (.retAddr 0), some (v1), some (v2), some (.int i3)] [] ph else if (x29 &&& 63 : Int32) = 31 then RS (ZZ L xs) (d + 1) mL_law 1197 [some (.retAddr 0), some (v1), some (v2), some (.int i3)] [] ph else if (x29 &&& 63 : Int32) = 32 then RS (ZZ L xs) (d + 1) mL_law 1220 [some (.retAddr 0), some (v1), some (v2), some (.int i3)] [] ph else if (x29 &&& 63 : Int32) = 33 then RS (ZZ L xs) (d + 1) mL_law 1243 [some (.retAddr 0), some (v1), some (v2), some (.int i3)] [] ph else RS (ZZ L xs) (d + 1) mL_law 1266 [some (.retAddr 0), some (v1), some (v2), some (.int i3)] [] ph := by
  refine Eq.trans (q_iload_n dL_law_18 (mk0 rfl) rfl) ?_
  refine Eq.trans (q_aload_n dL_law_19 (mk0 rfl) rfl rfl) ?_
  refine Eq.trans (q_scriptlen dL_law_20 (mk0 rfl) rfl) ?_
  refine Eq.trans (q_bipush (v := 6) dL_law_21 (mk0 rfl) rfl) ?_
  refine Eq.trans (q_isub dL_law_23 (mk0 rfl)) ?_
  refine Eq.trans (q_icmp_gt (t := 1272) dL_law_24 (mk0 rfl) rfl) (ite_cg ?_ ?_)
  · refine Eq.trans (q_iconst (v := 1) dL_law_1272 (mk0 rfl) rfl) ?_
    exact q_zreturn dL_law_1273 (mk0 rfl) rfl
  · refine Eq.trans (q_aload_n dL_law_27 (mk0 rfl) rfl rfl) ?_
    refine Eq.trans (q_iload_n dL_law_28 (mk0 rfl) rfl) ?_
    refine Eq.trans (script_eq dL_law_29 (mk0 rfl)) (bind_cg fun x29 => ?_)
    refine Eq.trans (q_bipush (v := 63) dL_law_30 (mk0 rfl) rfl) ?_
    refine Eq.trans (q_iand dL_law_32 (mk0 rfl)) ?_
    refine Eq.trans (q_tableswitch dL_law_33 (mk0 rfl)) ?_
    generalize (x29 &&& 63 : Int32) = y33
    by_cases hy0 : y33 = 0
    · rw [if_pos hy0, hy0]; rfl
    rw [if_neg hy0]
    by_cases hy1 : y33 = 1
    · rw [if_pos hy1, hy1]; rfl
    rw [if_neg hy1]
    by_cases hy2 : y33 = 2
    · rw [if_pos hy2, hy2]; rfl
    rw [if_neg hy2]
    by_cases hy3 : y33 = 3
    · rw [if_pos hy3, hy3]; rfl
    rw [if_neg hy3]
    by_cases hy4 : y33 = 4
    · rw [if_pos hy4, hy4]; rfl
    rw [if_neg hy4]
    by_cases hy5 : y33 = 5
    · rw [if_pos hy5, hy5]; rfl
    rw [if_neg hy5]
    by_cases hy6 : y33 = 6
    · rw [if_pos hy6, hy6]; rfl
    rw [if_neg hy6]
    by_cases hy7 : y33 = 7
    · rw [if_pos hy7, hy7]; rfl
    rw [if_neg hy7]
    by_cases hy8 : y33 = 8
    · rw [if_pos hy8, hy8]; rfl
    rw [if_neg hy8]
    by_cases hy9 : y33 = 9
    · rw [if_pos hy9, hy9]; rfl
    rw [if_neg hy9]
    by_cases hy10 : y33 = 10
    · rw [if_pos hy10, hy10]; rfl
    rw [if_neg hy10]
    by_cases hy11 : y33 = 11
    · rw [if_pos hy11, hy11]; rfl
    rw [if_neg hy11]
    by_cases hy12 : y33 = 12
    · rw [if_pos hy12, hy12]; rfl
    rw [if_neg hy12]
    by_cases hy13 : y33 = 13
    · rw [if_pos hy13, hy13]; rfl
    rw [if_neg hy13]
    by_cases hy14 : y33 = 14
    · rw [if_pos hy14, hy14]; rfl
    rw [if_neg hy14]
    by_cases hy15 : y33 = 15
    · rw [if_pos hy15, hy15]; rfl
    rw [if_neg hy15]
    by_cases hy16 : y33 = 16
    · rw [if_pos hy16, hy16]; rfl
    rw [if_neg hy16]
    by_cases hy17 : y33 = 17
    · rw [if_pos hy17, hy17]; rfl
    rw [if_neg hy17]
    by_cases hy18 : y33 = 18
    · rw [if_pos hy18, hy18]; rfl
    rw [if_neg hy18]
    by_cases hy19 : y33 = 19
    · rw [if_pos hy19, hy19]; rfl
    rw [if_neg hy19]
    by_cases hy20 : y33 = 20
    · rw [if_pos hy20, hy20]; rfl
    rw [if_neg hy20]
    by_cases hy21 : y33 = 21
    · rw [if_pos hy21, hy21]; rfl
    rw [if_neg hy21]
    by_cases hy22 : y33 = 22
    · rw [if_pos hy22, hy22]; rfl
    rw [if_neg hy22]
    by_cases hy23 : y33 = 23
    · rw [if_pos hy23, hy23]; rfl
    rw [if_neg hy23]
    by_cases hy24 : y33 = 24
    · rw [if_pos hy24, hy24]; rfl
    rw [if_neg hy24]
    by_cases hy25 : y33 = 25
    · rw [if_pos hy25, hy25]; rfl
    rw [if_neg hy25]
    by_cases hy26 : y33 = 26
    · rw [if_pos hy26, hy26]; rfl
    rw [if_neg hy26]
    by_cases hy27 : y33 = 27
    · rw [if_pos hy27, hy27]; rfl
    rw [if_neg hy27]
    by_cases hy28 : y33 = 28
    · rw [if_pos hy28, hy28]; rfl
    rw [if_neg hy28]
    by_cases hy29 : y33 = 29
    · rw [if_pos hy29, hy29]; rfl
    rw [if_neg hy29]
    by_cases hy30 : y33 = 30
    · rw [if_pos hy30, hy30]; rfl
    rw [if_neg hy30]
    by_cases hy31 : y33 = 31
    · rw [if_pos hy31, hy31]; rfl
    rw [if_neg hy31]
    by_cases hy32 : y33 = 32
    · rw [if_pos hy32, hy32]; rfl
    rw [if_neg hy32]
    by_cases hy33 : y33 = 33
    · rw [if_pos hy33, hy33]; rfl
    rw [if_neg hy33]
    have ny0 := i32_ne hy0 (n := 0) rfl
    have ny1 := i32_ne hy1 (n := 1) rfl
    have ny2 := i32_ne hy2 (n := 2) rfl
    have ny3 := i32_ne hy3 (n := 3) rfl
    have ny4 := i32_ne hy4 (n := 4) rfl
    have ny5 := i32_ne hy5 (n := 5) rfl
    have ny6 := i32_ne hy6 (n := 6) rfl
    have ny7 := i32_ne hy7 (n := 7) rfl
    have ny8 := i32_ne hy8 (n := 8) rfl
    have ny9 := i32_ne hy9 (n := 9) rfl
    have ny10 := i32_ne hy10 (n := 10) rfl
    have ny11 := i32_ne hy11 (n := 11) rfl
    have ny12 := i32_ne hy12 (n := 12) rfl
    have ny13 := i32_ne hy13 (n := 13) rfl
    have ny14 := i32_ne hy14 (n := 14) rfl
    have ny15 := i32_ne hy15 (n := 15) rfl
    have ny16 := i32_ne hy16 (n := 16) rfl
    have ny17 := i32_ne hy17 (n := 17) rfl
    have ny18 := i32_ne hy18 (n := 18) rfl
    have ny19 := i32_ne hy19 (n := 19) rfl
    have ny20 := i32_ne hy20 (n := 20) rfl
    have ny21 := i32_ne hy21 (n := 21) rfl
    have ny22 := i32_ne hy22 (n := 22) rfl
    have ny23 := i32_ne hy23 (n := 23) rfl
    have ny24 := i32_ne hy24 (n := 24) rfl
    have ny25 := i32_ne hy25 (n := 25) rfl
    have ny26 := i32_ne hy26 (n := 26) rfl
    have ny27 := i32_ne hy27 (n := 27) rfl
    have ny28 := i32_ne hy28 (n := 28) rfl
    have ny29 := i32_ne hy29 (n := 29) rfl
    have ny30 := i32_ne hy30 (n := 30) rfl
    have ny31 := i32_ne hy31 (n := 31) rfl
    have ny32 := i32_ne hy32 (n := 32) rfl
    have ny33 := i32_ne hy33 (n := 33) rfl
    rw [sw_out (t := 1266) (by omega) rfl]
    rfl
set_option maxRecDepth 20000 in
theorem bL_law_184 {L : Nat} {xs : Nat → Int32} (d : Nat) (v1 : Value) (v2 : Value) (i3 : Int32) (hv1 : isR v1 = true) (hv2 : isR v2 = true) (ph : PH) : RS (ZZ L xs) (d + 1) mL_law 184 [some (.retAddr 0), some (v1), some (v2), some (.int i3)] [] ph = (scr L xs (i3 + 1)).bind fun x189 => (scr L xs (i3 + 2)).bind fun x194 => (scr L xs (i3 + 3)).bind fun x199 => (scr L xs (i3 + 4)).bind fun x204 => (scr L xs (i3 + 5)).bind fun x209 => (iO ph v1 12).bind fun b210 => (cI (ZZ L xs) d mX12_feed [.ref b210, .int x189, .int x194, .int x199, .int x204, .int x209] ph).bind fun p210 => (scr L xs (i3 + 1)).bind fun x218 => (scr L xs (i3 + 2)).bind fun x223 => (scr L xs (i3 + 3)).bind fun x228 => (scr L xs (i3 + 4)).bind fun x233 => (scr L xs (i3 + 5)).bind fun x238 => (iO p210.1 v2 13).bind fun b239 => (cI (ZZ L xs) d mX13_feed [.ref b239, .int x218, .int x223, .int x228, .int x233, .int x238] p210.1).bind fun p239 => if (p210.2 : Int32) = p239.2 then RS (ZZ L xs) (d + 1) mL_law 1266 [some (.retAddr 0), some (v1), some (v2), some (.int i3)] [] p239.1 else if (0 : Int32) = 0 ∨ (0 : Int32) = 1 then some (p239.1, some (.int 0)) else none := by
  refine Eq.trans (q_aload_n dL_law_184 (mk0 rfl) rfl (isA_R hv1)) ?_
  refine Eq.trans (q_aload_n dL_law_185 (mk0 rfl) rfl rfl) ?_
  refine Eq.trans (q_iload_n dL_law_186 (mk0 rfl) rfl) ?_
  refine Eq.trans (q_iconst (v := 1) dL_law_187 (mk0 rfl) rfl) ?_
  refine Eq.trans (q_iadd dL_law_188 (mk0 rfl)) ?_
  refine Eq.trans (script_eq dL_law_189 (mk0 rfl)) (bind_cg fun x189 => ?_)
  refine Eq.trans (q_aload_n dL_law_190 (mk0 rfl) rfl rfl) ?_
  refine Eq.trans (q_iload_n dL_law_191 (mk0 rfl) rfl) ?_
  refine Eq.trans (q_iconst (v := 2) dL_law_192 (mk0 rfl) rfl) ?_
  refine Eq.trans (q_iadd dL_law_193 (mk0 rfl)) ?_
  refine Eq.trans (script_eq dL_law_194 (mk0 rfl)) (bind_cg fun x194 => ?_)
  refine Eq.trans (q_aload_n dL_law_195 (mk0 rfl) rfl rfl) ?_
  refine Eq.trans (q_iload_n dL_law_196 (mk0 rfl) rfl) ?_
  refine Eq.trans (q_iconst (v := 3) dL_law_197 (mk0 rfl) rfl) ?_
  refine Eq.trans (q_iadd dL_law_198 (mk0 rfl)) ?_
  refine Eq.trans (script_eq dL_law_199 (mk0 rfl)) (bind_cg fun x199 => ?_)
  refine Eq.trans (q_aload_n dL_law_200 (mk0 rfl) rfl rfl) ?_
  refine Eq.trans (q_iload_n dL_law_201 (mk0 rfl) rfl) ?_
  refine Eq.trans (q_iconst (v := 4) dL_law_202 (mk0 rfl) rfl) ?_
  refine Eq.trans (q_iadd dL_law_203 (mk0 rfl)) ?_
  refine Eq.trans (script_eq dL_law_204 (mk0 rfl)) (bind_cg fun x204 => ?_)
  refine Eq.trans (q_aload_n dL_law_205 (mk0 rfl) rfl rfl) ?_
  refine Eq.trans (q_iload_n dL_law_206 (mk0 rfl) rfl) ?_
  refine Eq.trans (q_iconst (v := 5) dL_law_207 (mk0 rfl) rfl) ?_
  refine Eq.trans (q_iadd dL_law_208 (mk0 rfl)) ?_
  refine Eq.trans (script_eq dL_law_209 (mk0 rfl)) (bind_cg fun x209 => ?_)
  refine Eq.trans (q_callV (as := [.int x189, .int x194, .int x199, .int x204, .int x209]) dL_law_210 (mk0 rfl) rfl rfl rfl (Nat.le_of_ble_eq_true rfl) (Nat.le_of_ble_eq_true rfl)) (bind_cg fun b210 => ?_)
  refine Eq.trans (cI_bind (Or.inl rfl)) (bind_cg fun p210 => ?_)
  show RS (ZZ L xs) (d + 1) mL_law 213 [some (.retAddr 0), some (v1), some (v2), some (.int i3)] [.int p210.2] p210.1 = _
  refine Eq.trans (q_aload_n dL_law_213 (mk0 rfl) rfl (isA_R hv2)) ?_
  refine Eq.trans (q_aload_n dL_law_214 (mk0 rfl) rfl rfl) ?_
  refine Eq.trans (q_iload_n dL_law_215 (mk0 rfl) rfl) ?_
  refine Eq.trans (q_iconst (v := 1) dL_law_216 (mk0 rfl) rfl) ?_
  refine Eq.trans (q_iadd dL_law_217 (mk0 rfl)) ?_
  refine Eq.trans (script_eq dL_law_218 (mk0 rfl)) (bind_cg fun x218 => ?_)
  refine Eq.trans (q_aload_n dL_law_219 (mk0 rfl) rfl rfl) ?_
  refine Eq.trans (q_iload_n dL_law_220 (mk0 rfl) rfl) ?_
  refine Eq.trans (q_iconst (v := 2) dL_law_221 (mk0 rfl) rfl) ?_
  refine Eq.trans (q_iadd dL_law_222 (mk0 rfl)) ?_
  refine Eq.trans (script_eq dL_law_223 (mk0 rfl)) (bind_cg fun x223 => ?_)
  refine Eq.trans (q_aload_n dL_law_224 (mk0 rfl) rfl rfl) ?_
  refine Eq.trans (q_iload_n dL_law_225 (mk0 rfl) rfl) ?_
  refine Eq.trans (q_iconst (v := 3) dL_law_226 (mk0 rfl) rfl) ?_
  refine Eq.trans (q_iadd dL_law_227 (mk0 rfl)) ?_
  refine Eq.trans (script_eq dL_law_228 (mk0 rfl)) (bind_cg fun x228 => ?_)
  refine Eq.trans (q_aload_n dL_law_229 (mk0 rfl) rfl rfl) ?_
  refine Eq.trans (q_iload_n dL_law_230 (mk0 rfl) rfl) ?_
  refine Eq.trans (q_iconst (v := 4) dL_law_231 (mk0 rfl) rfl) ?_
  refine Eq.trans (q_iadd dL_law_232 (mk0 rfl)) ?_
  refine Eq.trans (script_eq dL_law_233 (mk0 rfl)) (bind_cg fun x233 => ?_)
  refine Eq.trans (q_aload_n dL_law_234 (mk0 rfl) rfl rfl) ?_
  refine Eq.trans (q_iload_n dL_law_235 (mk0 rfl) rfl) ?_
  refine Eq.trans (q_iconst (v := 5) dL_law_236 (mk0 rfl) rfl) ?_
  refine Eq.trans (q_iadd dL_law_237 (mk0 rfl)) ?_
  refine Eq.trans (script_eq dL_law_238 (mk0 rfl)) (bind_cg fun x238 => ?_)
  refine Eq.trans (q_callV (as := [.int x218, .int x223, .int x228, .int x233, .int x238]) dL_law_239 (mk0 rfl) rfl rfl rfl (Nat.le_of_ble_eq_true rfl) (Nat.le_of_ble_eq_true rfl)) (bind_cg fun b239 => ?_)
  refine Eq.trans (cI_bind (Or.inl rfl)) (bind_cg fun p239 => ?_)
  show RS (ZZ L xs) (d + 1) mL_law 242 [some (.retAddr 0), some (v1), some (v2), some (.int i3)] [.int p239.2, .int p210.2] p239.1 = _
  refine Eq.trans (q_icmp_eq (t := 1266) dL_law_242 (mk0 rfl) rfl) (ite_cg ?_ ?_)
  · rfl
  · refine Eq.trans (q_iconst (v := 0) dL_law_245 (mk0 rfl) rfl) ?_
    exact q_zreturn dL_law_246 (mk0 rfl) rfl
set_option maxRecDepth 20000 in
theorem bL_law_247 {L : Nat} {xs : Nat → Int32} (d : Nat) (v1 : Value) (v2 : Value) (i3 : Int32) (hv1 : isR v1 = true) (hv2 : isR v2 = true) (ph : PH) : RS (ZZ L xs) (d + 1) mL_law 247 [some (.retAddr 0), some (v1), some (v2), some (.int i3)] [] ph = (scr L xs (i3 + 1)).bind fun x252 => (iO ph v1 12).bind fun b253 => (cI (ZZ L xs) d mX12_end [.ref b253, .int x252] ph).bind fun p253 => (scr L xs (i3 + 1)).bind fun x261 => (iO p253.1 v2 13).bind fun b262 => (cI (ZZ L xs) d mX13_end [.ref b262, .int x261] p253.1).bind fun p262 => if (p253.2 : Int32) = p262.2 then RS (ZZ L xs) (d + 1) mL_law 1266 [some (.retAddr 0), some (v1), some (v2), some (.int i3)] [] p262.1 else if (0 : Int32) = 0 ∨ (0 : Int32) = 1 then some (p262.1, some (.int 0)) else none := by
  refine Eq.trans (q_aload_n dL_law_247 (mk0 rfl) rfl (isA_R hv1)) ?_
  refine Eq.trans (q_aload_n dL_law_248 (mk0 rfl) rfl rfl) ?_
  refine Eq.trans (q_iload_n dL_law_249 (mk0 rfl) rfl) ?_
  refine Eq.trans (q_iconst (v := 1) dL_law_250 (mk0 rfl) rfl) ?_
  refine Eq.trans (q_iadd dL_law_251 (mk0 rfl)) ?_
  refine Eq.trans (script_eq dL_law_252 (mk0 rfl)) (bind_cg fun x252 => ?_)
  refine Eq.trans (q_callV (as := [.int x252]) dL_law_253 (mk0 rfl) rfl rfl rfl (Nat.le_of_ble_eq_true rfl) (Nat.le_of_ble_eq_true rfl)) (bind_cg fun b253 => ?_)
  refine Eq.trans (cI_bind (Or.inl rfl)) (bind_cg fun p253 => ?_)
  show RS (ZZ L xs) (d + 1) mL_law 256 [some (.retAddr 0), some (v1), some (v2), some (.int i3)] [.int p253.2] p253.1 = _
  refine Eq.trans (q_aload_n dL_law_256 (mk0 rfl) rfl (isA_R hv2)) ?_
  refine Eq.trans (q_aload_n dL_law_257 (mk0 rfl) rfl rfl) ?_
  refine Eq.trans (q_iload_n dL_law_258 (mk0 rfl) rfl) ?_
  refine Eq.trans (q_iconst (v := 1) dL_law_259 (mk0 rfl) rfl) ?_
  refine Eq.trans (q_iadd dL_law_260 (mk0 rfl)) ?_
  refine Eq.trans (script_eq dL_law_261 (mk0 rfl)) (bind_cg fun x261 => ?_)
  refine Eq.trans (q_callV (as := [.int x261]) dL_law_262 (mk0 rfl) rfl rfl rfl (Nat.le_of_ble_eq_true rfl) (Nat.le_of_ble_eq_true rfl)) (bind_cg fun b262 => ?_)
  refine Eq.trans (cI_bind (Or.inl rfl)) (bind_cg fun p262 => ?_)
  show RS (ZZ L xs) (d + 1) mL_law 265 [some (.retAddr 0), some (v1), some (v2), some (.int i3)] [.int p262.2, .int p253.2] p262.1 = _
  refine Eq.trans (q_icmp_eq (t := 1266) dL_law_265 (mk0 rfl) rfl) (ite_cg ?_ ?_)
  · rfl
  · refine Eq.trans (q_iconst (v := 0) dL_law_268 (mk0 rfl) rfl) ?_
    exact q_zreturn dL_law_269 (mk0 rfl) rfl
set_option maxRecDepth 20000 in
theorem bL_law_270 {L : Nat} {xs : Nat → Int32} (d : Nat) (v1 : Value) (v2 : Value) (i3 : Int32) (hv1 : isR v1 = true) (hv2 : isR v2 = true) (ph : PH) : RS (ZZ L xs) (d + 1) mL_law 270 [some (.retAddr 0), some (v1), some (v2), some (.int i3)] [] ph = (iO ph v1 12).bind fun b271 => (cI (ZZ L xs) d mX12_town [.ref b271] ph).bind fun p271 => (iO p271.1 v2 13).bind fun b275 => (cI (ZZ L xs) d mX13_town [.ref b275] p271.1).bind fun p275 => if (p271.2 : Int32) = p275.2 then RS (ZZ L xs) (d + 1) mL_law 1266 [some (.retAddr 0), some (v1), some (v2), some (.int i3)] [] p275.1 else if (0 : Int32) = 0 ∨ (0 : Int32) = 1 then some (p275.1, some (.int 0)) else none := by
  refine Eq.trans (q_aload_n dL_law_270 (mk0 rfl) rfl (isA_R hv1)) ?_
  refine Eq.trans (q_callV (as := []) dL_law_271 (mk0 rfl) rfl rfl rfl (Nat.le_of_ble_eq_true rfl) (Nat.le_of_ble_eq_true rfl)) (bind_cg fun b271 => ?_)
  refine Eq.trans (cI_bind (Or.inl rfl)) (bind_cg fun p271 => ?_)
  show RS (ZZ L xs) (d + 1) mL_law 274 [some (.retAddr 0), some (v1), some (v2), some (.int i3)] [.int p271.2] p271.1 = _
  refine Eq.trans (q_aload_n dL_law_274 (mk0 rfl) rfl (isA_R hv2)) ?_
  refine Eq.trans (q_callV (as := []) dL_law_275 (mk0 rfl) rfl rfl rfl (Nat.le_of_ble_eq_true rfl) (Nat.le_of_ble_eq_true rfl)) (bind_cg fun b275 => ?_)
  refine Eq.trans (cI_bind (Or.inl rfl)) (bind_cg fun p275 => ?_)
  show RS (ZZ L xs) (d + 1) mL_law 278 [some (.retAddr 0), some (v1), some (v2), some (.int i3)] [.int p275.2, .int p271.2] p275.1 = _
  refine Eq.trans (q_icmp_eq (t := 1266) dL_law_278 (mk0 rfl) rfl) (ite_cg ?_ ?_)
  · rfl
  · refine Eq.trans (q_iconst (v := 0) dL_law_281 (mk0 rfl) rfl) ?_
    exact q_zreturn dL_law_282 (mk0 rfl) rfl
set_option maxRecDepth 20000 in
theorem bL_law_283 {L : Nat} {xs : Nat → Int32} (d : Nat) (v1 : Value) (v2 : Value) (i3 : Int32) (hv1 : isR v1 = true) (hv2 : isR v2 = true) (ph : PH) : RS (ZZ L xs) (d + 1) mL_law 283 [some (.retAddr 0), some (v1), some (v2), some (.int i3)] [] ph = (iO ph v1 12).bind fun b284 => (cI (ZZ L xs) d mX12_rule [.ref b284] ph).bind fun p284 => (iO p284.1 v2 13).bind fun b288 => (cI (ZZ L xs) d mX13_rule [.ref b288] p284.1).bind fun p288 => if (p284.2 : Int32) = p288.2 then RS (ZZ L xs) (d + 1) mL_law 1266 [some (.retAddr 0), some (v1), some (v2), some (.int i3)] [] p288.1 else if (0 : Int32) = 0 ∨ (0 : Int32) = 1 then some (p288.1, some (.int 0)) else none := by
  refine Eq.trans (q_aload_n dL_law_283 (mk0 rfl) rfl (isA_R hv1)) ?_
  refine Eq.trans (q_callV (as := []) dL_law_284 (mk0 rfl) rfl rfl rfl (Nat.le_of_ble_eq_true rfl) (Nat.le_of_ble_eq_true rfl)) (bind_cg fun b284 => ?_)
  refine Eq.trans (cI_bind (Or.inl rfl)) (bind_cg fun p284 => ?_)
  show RS (ZZ L xs) (d + 1) mL_law 287 [some (.retAddr 0), some (v1), some (v2), some (.int i3)] [.int p284.2] p284.1 = _
  refine Eq.trans (q_aload_n dL_law_287 (mk0 rfl) rfl (isA_R hv2)) ?_
  refine Eq.trans (q_callV (as := []) dL_law_288 (mk0 rfl) rfl rfl rfl (Nat.le_of_ble_eq_true rfl) (Nat.le_of_ble_eq_true rfl)) (bind_cg fun b288 => ?_)
  refine Eq.trans (cI_bind (Or.inl rfl)) (bind_cg fun p288 => ?_)
  show RS (ZZ L xs) (d + 1) mL_law 291 [some (.retAddr 0), some (v1), some (v2), some (.int i3)] [.int p288.2, .int p284.2] p288.1 = _
  refine Eq.trans (q_icmp_eq (t := 1266) dL_law_291 (mk0 rfl) rfl) (ite_cg ?_ ?_)
  · rfl
  · refine Eq.trans (q_iconst (v := 0) dL_law_294 (mk0 rfl) rfl) ?_
    exact q_zreturn dL_law_295 (mk0 rfl) rfl
set_option maxRecDepth 20000 in
theorem bL_law_296 {L : Nat} {xs : Nat → Int32} (d : Nat) (v1 : Value) (v2 : Value) (i3 : Int32) (hv1 : isR v1 = true) (hv2 : isR v2 = true) (ph : PH) : RS (ZZ L xs) (d + 1) mL_law 296 [some (.retAddr 0), some (v1), some (v2), some (.int i3)] [] ph = (scr L xs (i3 + 1)).bind fun x301 => (iO ph v1 12).bind fun b302 => (cI (ZZ L xs) d mX12_force [.ref b302, .int x301] ph).bind fun p302 => (scr L xs (i3 + 1)).bind fun x310 => (iO p302.1 v2 13).bind fun b311 => (cI (ZZ L xs) d mX13_force [.ref b311, .int x310] p302.1).bind fun p311 => if (p302.2 : Int32) = p311.2 then RS (ZZ L xs) (d + 1) mL_law 1266 [some (.retAddr 0), some (v1), some (v2), some (.int i3)] [] p311.1 else if (0 : Int32) = 0 ∨ (0 : Int32) = 1 then some (p311.1, some (.int 0)) else none := by
  refine Eq.trans (q_aload_n dL_law_296 (mk0 rfl) rfl (isA_R hv1)) ?_
  refine Eq.trans (q_aload_n dL_law_297 (mk0 rfl) rfl rfl) ?_
  refine Eq.trans (q_iload_n dL_law_298 (mk0 rfl) rfl) ?_
  refine Eq.trans (q_iconst (v := 1) dL_law_299 (mk0 rfl) rfl) ?_
  refine Eq.trans (q_iadd dL_law_300 (mk0 rfl)) ?_
  refine Eq.trans (script_eq dL_law_301 (mk0 rfl)) (bind_cg fun x301 => ?_)
  refine Eq.trans (q_callV (as := [.int x301]) dL_law_302 (mk0 rfl) rfl rfl rfl (Nat.le_of_ble_eq_true rfl) (Nat.le_of_ble_eq_true rfl)) (bind_cg fun b302 => ?_)
  refine Eq.trans (cI_bind (Or.inl rfl)) (bind_cg fun p302 => ?_)
  show RS (ZZ L xs) (d + 1) mL_law 305 [some (.retAddr 0), some (v1), some (v2), some (.int i3)] [.int p302.2] p302.1 = _
  refine Eq.trans (q_aload_n dL_law_305 (mk0 rfl) rfl (isA_R hv2)) ?_
  refine Eq.trans (q_aload_n dL_law_306 (mk0 rfl) rfl rfl) ?_
  refine Eq.trans (q_iload_n dL_law_307 (mk0 rfl) rfl) ?_
  refine Eq.trans (q_iconst (v := 1) dL_law_308 (mk0 rfl) rfl) ?_
  refine Eq.trans (q_iadd dL_law_309 (mk0 rfl)) ?_
  refine Eq.trans (script_eq dL_law_310 (mk0 rfl)) (bind_cg fun x310 => ?_)
  refine Eq.trans (q_callV (as := [.int x310]) dL_law_311 (mk0 rfl) rfl rfl rfl (Nat.le_of_ble_eq_true rfl) (Nat.le_of_ble_eq_true rfl)) (bind_cg fun b311 => ?_)
  refine Eq.trans (cI_bind (Or.inl rfl)) (bind_cg fun p311 => ?_)
  show RS (ZZ L xs) (d + 1) mL_law 314 [some (.retAddr 0), some (v1), some (v2), some (.int i3)] [.int p311.2, .int p302.2] p311.1 = _
  refine Eq.trans (q_icmp_eq (t := 1266) dL_law_314 (mk0 rfl) rfl) (ite_cg ?_ ?_)
  · rfl
  · refine Eq.trans (q_iconst (v := 0) dL_law_317 (mk0 rfl) rfl) ?_
    exact q_zreturn dL_law_318 (mk0 rfl) rfl
set_option maxRecDepth 20000 in
theorem bL_law_319 {L : Nat} {xs : Nat → Int32} (d : Nat) (v1 : Value) (v2 : Value) (i3 : Int32) (hv1 : isR v1 = true) (hv2 : isR v2 = true) (ph : PH) : RS (ZZ L xs) (d + 1) mL_law 319 [some (.retAddr 0), some (v1), some (v2), some (.int i3)] [] ph = (scr L xs (i3 + 1)).bind fun x324 => (scr L xs (i3 + 2)).bind fun x329 => (iO ph v1 12).bind fun b330 => (cI (ZZ L xs) d mX12_person [.ref b330, .int x324, .int x329] ph).bind fun p330 => (scr L xs (i3 + 1)).bind fun x338 => (scr L xs (i3 + 2)).bind fun x343 => (iO p330.1 v2 13).bind fun b344 => (cI (ZZ L xs) d mX13_person [.ref b344, .int x338, .int x343] p330.1).bind fun p344 => if (p330.2 : Int32) = p344.2 then RS (ZZ L xs) (d + 1) mL_law 1266 [some (.retAddr 0), some (v1), some (v2), some (.int i3)] [] p344.1 else if (0 : Int32) = 0 ∨ (0 : Int32) = 1 then some (p344.1, some (.int 0)) else none := by
  refine Eq.trans (q_aload_n dL_law_319 (mk0 rfl) rfl (isA_R hv1)) ?_
  refine Eq.trans (q_aload_n dL_law_320 (mk0 rfl) rfl rfl) ?_
  refine Eq.trans (q_iload_n dL_law_321 (mk0 rfl) rfl) ?_
  refine Eq.trans (q_iconst (v := 1) dL_law_322 (mk0 rfl) rfl) ?_
  refine Eq.trans (q_iadd dL_law_323 (mk0 rfl)) ?_
  refine Eq.trans (script_eq dL_law_324 (mk0 rfl)) (bind_cg fun x324 => ?_)
  refine Eq.trans (q_aload_n dL_law_325 (mk0 rfl) rfl rfl) ?_
  refine Eq.trans (q_iload_n dL_law_326 (mk0 rfl) rfl) ?_
  refine Eq.trans (q_iconst (v := 2) dL_law_327 (mk0 rfl) rfl) ?_
  refine Eq.trans (q_iadd dL_law_328 (mk0 rfl)) ?_
  refine Eq.trans (script_eq dL_law_329 (mk0 rfl)) (bind_cg fun x329 => ?_)
  refine Eq.trans (q_callV (as := [.int x324, .int x329]) dL_law_330 (mk0 rfl) rfl rfl rfl (Nat.le_of_ble_eq_true rfl) (Nat.le_of_ble_eq_true rfl)) (bind_cg fun b330 => ?_)
  refine Eq.trans (cI_bind (Or.inl rfl)) (bind_cg fun p330 => ?_)
  show RS (ZZ L xs) (d + 1) mL_law 333 [some (.retAddr 0), some (v1), some (v2), some (.int i3)] [.int p330.2] p330.1 = _
  refine Eq.trans (q_aload_n dL_law_333 (mk0 rfl) rfl (isA_R hv2)) ?_
  refine Eq.trans (q_aload_n dL_law_334 (mk0 rfl) rfl rfl) ?_
  refine Eq.trans (q_iload_n dL_law_335 (mk0 rfl) rfl) ?_
  refine Eq.trans (q_iconst (v := 1) dL_law_336 (mk0 rfl) rfl) ?_
  refine Eq.trans (q_iadd dL_law_337 (mk0 rfl)) ?_
  refine Eq.trans (script_eq dL_law_338 (mk0 rfl)) (bind_cg fun x338 => ?_)
  refine Eq.trans (q_aload_n dL_law_339 (mk0 rfl) rfl rfl) ?_
  refine Eq.trans (q_iload_n dL_law_340 (mk0 rfl) rfl) ?_
  refine Eq.trans (q_iconst (v := 2) dL_law_341 (mk0 rfl) rfl) ?_
  refine Eq.trans (q_iadd dL_law_342 (mk0 rfl)) ?_
  refine Eq.trans (script_eq dL_law_343 (mk0 rfl)) (bind_cg fun x343 => ?_)
  refine Eq.trans (q_callV (as := [.int x338, .int x343]) dL_law_344 (mk0 rfl) rfl rfl rfl (Nat.le_of_ble_eq_true rfl) (Nat.le_of_ble_eq_true rfl)) (bind_cg fun b344 => ?_)
  refine Eq.trans (cI_bind (Or.inl rfl)) (bind_cg fun p344 => ?_)
  show RS (ZZ L xs) (d + 1) mL_law 347 [some (.retAddr 0), some (v1), some (v2), some (.int i3)] [.int p344.2, .int p330.2] p344.1 = _
  refine Eq.trans (q_icmp_eq (t := 1266) dL_law_347 (mk0 rfl) rfl) (ite_cg ?_ ?_)
  · rfl
  · refine Eq.trans (q_iconst (v := 0) dL_law_350 (mk0 rfl) rfl) ?_
    exact q_zreturn dL_law_351 (mk0 rfl) rfl
set_option maxRecDepth 20000 in
theorem bL_law_352 {L : Nat} {xs : Nat → Int32} (d : Nat) (v1 : Value) (v2 : Value) (i3 : Int32) (hv1 : isR v1 = true) (hv2 : isR v2 = true) (ph : PH) : RS (ZZ L xs) (d + 1) mL_law 352 [some (.retAddr 0), some (v1), some (v2), some (.int i3)] [] ph = (scr L xs (i3 + 1)).bind fun x357 => (scr L xs (i3 + 2)).bind fun x362 => (iO ph v1 12).bind fun b363 => (cI (ZZ L xs) d mX12_stranger [.ref b363, .int x357, .int x362] ph).bind fun p363 => (scr L xs (i3 + 1)).bind fun x371 => (scr L xs (i3 + 2)).bind fun x376 => (iO p363.1 v2 13).bind fun b377 => (cI (ZZ L xs) d mX13_stranger [.ref b377, .int x371, .int x376] p363.1).bind fun p377 => if (p363.2 : Int32) = p377.2 then RS (ZZ L xs) (d + 1) mL_law 1266 [some (.retAddr 0), some (v1), some (v2), some (.int i3)] [] p377.1 else if (0 : Int32) = 0 ∨ (0 : Int32) = 1 then some (p377.1, some (.int 0)) else none := by
  refine Eq.trans (q_aload_n dL_law_352 (mk0 rfl) rfl (isA_R hv1)) ?_
  refine Eq.trans (q_aload_n dL_law_353 (mk0 rfl) rfl rfl) ?_
  refine Eq.trans (q_iload_n dL_law_354 (mk0 rfl) rfl) ?_
  refine Eq.trans (q_iconst (v := 1) dL_law_355 (mk0 rfl) rfl) ?_
  refine Eq.trans (q_iadd dL_law_356 (mk0 rfl)) ?_
  refine Eq.trans (script_eq dL_law_357 (mk0 rfl)) (bind_cg fun x357 => ?_)
  refine Eq.trans (q_aload_n dL_law_358 (mk0 rfl) rfl rfl) ?_
  refine Eq.trans (q_iload_n dL_law_359 (mk0 rfl) rfl) ?_
  refine Eq.trans (q_iconst (v := 2) dL_law_360 (mk0 rfl) rfl) ?_
  refine Eq.trans (q_iadd dL_law_361 (mk0 rfl)) ?_
  refine Eq.trans (script_eq dL_law_362 (mk0 rfl)) (bind_cg fun x362 => ?_)
  refine Eq.trans (q_callV (as := [.int x357, .int x362]) dL_law_363 (mk0 rfl) rfl rfl rfl (Nat.le_of_ble_eq_true rfl) (Nat.le_of_ble_eq_true rfl)) (bind_cg fun b363 => ?_)
  refine Eq.trans (cI_bind (Or.inl rfl)) (bind_cg fun p363 => ?_)
  show RS (ZZ L xs) (d + 1) mL_law 366 [some (.retAddr 0), some (v1), some (v2), some (.int i3)] [.int p363.2] p363.1 = _
  refine Eq.trans (q_aload_n dL_law_366 (mk0 rfl) rfl (isA_R hv2)) ?_
  refine Eq.trans (q_aload_n dL_law_367 (mk0 rfl) rfl rfl) ?_
  refine Eq.trans (q_iload_n dL_law_368 (mk0 rfl) rfl) ?_
  refine Eq.trans (q_iconst (v := 1) dL_law_369 (mk0 rfl) rfl) ?_
  refine Eq.trans (q_iadd dL_law_370 (mk0 rfl)) ?_
  refine Eq.trans (script_eq dL_law_371 (mk0 rfl)) (bind_cg fun x371 => ?_)
  refine Eq.trans (q_aload_n dL_law_372 (mk0 rfl) rfl rfl) ?_
  refine Eq.trans (q_iload_n dL_law_373 (mk0 rfl) rfl) ?_
  refine Eq.trans (q_iconst (v := 2) dL_law_374 (mk0 rfl) rfl) ?_
  refine Eq.trans (q_iadd dL_law_375 (mk0 rfl)) ?_
  refine Eq.trans (script_eq dL_law_376 (mk0 rfl)) (bind_cg fun x376 => ?_)
  refine Eq.trans (q_callV (as := [.int x371, .int x376]) dL_law_377 (mk0 rfl) rfl rfl rfl (Nat.le_of_ble_eq_true rfl) (Nat.le_of_ble_eq_true rfl)) (bind_cg fun b377 => ?_)
  refine Eq.trans (cI_bind (Or.inl rfl)) (bind_cg fun p377 => ?_)
  show RS (ZZ L xs) (d + 1) mL_law 380 [some (.retAddr 0), some (v1), some (v2), some (.int i3)] [.int p377.2, .int p363.2] p377.1 = _
  refine Eq.trans (q_icmp_eq (t := 1266) dL_law_380 (mk0 rfl) rfl) (ite_cg ?_ ?_)
  · rfl
  · refine Eq.trans (q_iconst (v := 0) dL_law_383 (mk0 rfl) rfl) ?_
    exact q_zreturn dL_law_384 (mk0 rfl) rfl
set_option maxRecDepth 20000 in
theorem bL_law_385 {L : Nat} {xs : Nat → Int32} (d : Nat) (v1 : Value) (v2 : Value) (i3 : Int32) (hv1 : isR v1 = true) (hv2 : isR v2 = true) (ph : PH) : RS (ZZ L xs) (d + 1) mL_law 385 [some (.retAddr 0), some (v1), some (v2), some (.int i3)] [] ph = (scr L xs (i3 + 1)).bind fun x390 => (iO ph v1 12).bind fun b391 => (cI (ZZ L xs) d mX12_streets [.ref b391, .int x390] ph).bind fun p391 => (scr L xs (i3 + 1)).bind fun x399 => (iO p391.1 v2 13).bind fun b400 => (cI (ZZ L xs) d mX13_streets [.ref b400, .int x399] p391.1).bind fun p400 => if (p391.2 : Int32) = p400.2 then RS (ZZ L xs) (d + 1) mL_law 1266 [some (.retAddr 0), some (v1), some (v2), some (.int i3)] [] p400.1 else if (0 : Int32) = 0 ∨ (0 : Int32) = 1 then some (p400.1, some (.int 0)) else none := by
  refine Eq.trans (q_aload_n dL_law_385 (mk0 rfl) rfl (isA_R hv1)) ?_
  refine Eq.trans (q_aload_n dL_law_386 (mk0 rfl) rfl rfl) ?_
  refine Eq.trans (q_iload_n dL_law_387 (mk0 rfl) rfl) ?_
  refine Eq.trans (q_iconst (v := 1) dL_law_388 (mk0 rfl) rfl) ?_
  refine Eq.trans (q_iadd dL_law_389 (mk0 rfl)) ?_
  refine Eq.trans (script_eq dL_law_390 (mk0 rfl)) (bind_cg fun x390 => ?_)
  refine Eq.trans (q_callV (as := [.int x390]) dL_law_391 (mk0 rfl) rfl rfl rfl (Nat.le_of_ble_eq_true rfl) (Nat.le_of_ble_eq_true rfl)) (bind_cg fun b391 => ?_)
  refine Eq.trans (cI_bind (Or.inl rfl)) (bind_cg fun p391 => ?_)
  show RS (ZZ L xs) (d + 1) mL_law 394 [some (.retAddr 0), some (v1), some (v2), some (.int i3)] [.int p391.2] p391.1 = _
  refine Eq.trans (q_aload_n dL_law_394 (mk0 rfl) rfl (isA_R hv2)) ?_
  refine Eq.trans (q_aload_n dL_law_395 (mk0 rfl) rfl rfl) ?_
  refine Eq.trans (q_iload_n dL_law_396 (mk0 rfl) rfl) ?_
  refine Eq.trans (q_iconst (v := 1) dL_law_397 (mk0 rfl) rfl) ?_
  refine Eq.trans (q_iadd dL_law_398 (mk0 rfl)) ?_
  refine Eq.trans (script_eq dL_law_399 (mk0 rfl)) (bind_cg fun x399 => ?_)
  refine Eq.trans (q_callV (as := [.int x399]) dL_law_400 (mk0 rfl) rfl rfl rfl (Nat.le_of_ble_eq_true rfl) (Nat.le_of_ble_eq_true rfl)) (bind_cg fun b400 => ?_)
  refine Eq.trans (cI_bind (Or.inl rfl)) (bind_cg fun p400 => ?_)
  show RS (ZZ L xs) (d + 1) mL_law 403 [some (.retAddr 0), some (v1), some (v2), some (.int i3)] [.int p400.2, .int p391.2] p400.1 = _
  refine Eq.trans (q_icmp_eq (t := 1266) dL_law_403 (mk0 rfl) rfl) (ite_cg ?_ ?_)
  · rfl
  · refine Eq.trans (q_iconst (v := 0) dL_law_406 (mk0 rfl) rfl) ?_
    exact q_zreturn dL_law_407 (mk0 rfl) rfl
set_option maxRecDepth 20000 in
theorem bL_law_408 {L : Nat} {xs : Nat → Int32} (d : Nat) (v1 : Value) (v2 : Value) (i3 : Int32) (hv1 : isR v1 = true) (hv2 : isR v2 = true) (ph : PH) : RS (ZZ L xs) (d + 1) mL_law 408 [some (.retAddr 0), some (v1), some (v2), some (.int i3)] [] ph = (scr L xs (i3 + 1)).bind fun x413 => (scr L xs (i3 + 2)).bind fun x418 => (iO ph v1 12).bind fun b419 => (cI (ZZ L xs) d mX12_before [.ref b419, .int x413, .int x418] ph).bind fun p419 => (scr L xs (i3 + 1)).bind fun x427 => (scr L xs (i3 + 2)).bind fun x432 => (iO p419.1 v2 13).bind fun b433 => (cI (ZZ L xs) d mX13_before [.ref b433, .int x427, .int x432] p419.1).bind fun p433 => if (p419.2 : Int32) = p433.2 then RS (ZZ L xs) (d + 1) mL_law 1266 [some (.retAddr 0), some (v1), some (v2), some (.int i3)] [] p433.1 else if (0 : Int32) = 0 ∨ (0 : Int32) = 1 then some (p433.1, some (.int 0)) else none := by
  refine Eq.trans (q_aload_n dL_law_408 (mk0 rfl) rfl (isA_R hv1)) ?_
  refine Eq.trans (q_aload_n dL_law_409 (mk0 rfl) rfl rfl) ?_
  refine Eq.trans (q_iload_n dL_law_410 (mk0 rfl) rfl) ?_
  refine Eq.trans (q_iconst (v := 1) dL_law_411 (mk0 rfl) rfl) ?_
  refine Eq.trans (q_iadd dL_law_412 (mk0 rfl)) ?_
  refine Eq.trans (script_eq dL_law_413 (mk0 rfl)) (bind_cg fun x413 => ?_)
  refine Eq.trans (q_aload_n dL_law_414 (mk0 rfl) rfl rfl) ?_
  refine Eq.trans (q_iload_n dL_law_415 (mk0 rfl) rfl) ?_
  refine Eq.trans (q_iconst (v := 2) dL_law_416 (mk0 rfl) rfl) ?_
  refine Eq.trans (q_iadd dL_law_417 (mk0 rfl)) ?_
  refine Eq.trans (script_eq dL_law_418 (mk0 rfl)) (bind_cg fun x418 => ?_)
  refine Eq.trans (q_callV (as := [.int x413, .int x418]) dL_law_419 (mk0 rfl) rfl rfl rfl (Nat.le_of_ble_eq_true rfl) (Nat.le_of_ble_eq_true rfl)) (bind_cg fun b419 => ?_)
  refine Eq.trans (cI_bind (Or.inl rfl)) (bind_cg fun p419 => ?_)
  show RS (ZZ L xs) (d + 1) mL_law 422 [some (.retAddr 0), some (v1), some (v2), some (.int i3)] [.int p419.2] p419.1 = _
  refine Eq.trans (q_aload_n dL_law_422 (mk0 rfl) rfl (isA_R hv2)) ?_
  refine Eq.trans (q_aload_n dL_law_423 (mk0 rfl) rfl rfl) ?_
  refine Eq.trans (q_iload_n dL_law_424 (mk0 rfl) rfl) ?_
  refine Eq.trans (q_iconst (v := 1) dL_law_425 (mk0 rfl) rfl) ?_
  refine Eq.trans (q_iadd dL_law_426 (mk0 rfl)) ?_
  refine Eq.trans (script_eq dL_law_427 (mk0 rfl)) (bind_cg fun x427 => ?_)
  refine Eq.trans (q_aload_n dL_law_428 (mk0 rfl) rfl rfl) ?_
  refine Eq.trans (q_iload_n dL_law_429 (mk0 rfl) rfl) ?_
  refine Eq.trans (q_iconst (v := 2) dL_law_430 (mk0 rfl) rfl) ?_
  refine Eq.trans (q_iadd dL_law_431 (mk0 rfl)) ?_
  refine Eq.trans (script_eq dL_law_432 (mk0 rfl)) (bind_cg fun x432 => ?_)
  refine Eq.trans (q_callV (as := [.int x427, .int x432]) dL_law_433 (mk0 rfl) rfl rfl rfl (Nat.le_of_ble_eq_true rfl) (Nat.le_of_ble_eq_true rfl)) (bind_cg fun b433 => ?_)
  refine Eq.trans (cI_bind (Or.inl rfl)) (bind_cg fun p433 => ?_)
  show RS (ZZ L xs) (d + 1) mL_law 436 [some (.retAddr 0), some (v1), some (v2), some (.int i3)] [.int p433.2, .int p419.2] p433.1 = _
  refine Eq.trans (q_icmp_eq (t := 1266) dL_law_436 (mk0 rfl) rfl) (ite_cg ?_ ?_)
  · rfl
  · refine Eq.trans (q_iconst (v := 0) dL_law_439 (mk0 rfl) rfl) ?_
    exact q_zreturn dL_law_440 (mk0 rfl) rfl
set_option maxRecDepth 20000 in
theorem bL_law_441 {L : Nat} {xs : Nat → Int32} (d : Nat) (v1 : Value) (v2 : Value) (i3 : Int32) (hv1 : isR v1 = true) (hv2 : isR v2 = true) (ph : PH) : RS (ZZ L xs) (d + 1) mL_law 441 [some (.retAddr 0), some (v1), some (v2), some (.int i3)] [] ph = (iO ph v1 12).bind fun b442 => (cI (ZZ L xs) d mX12_hour [.ref b442] ph).bind fun p442 => (iO p442.1 v2 13).bind fun b446 => (cI (ZZ L xs) d mX13_hour [.ref b446] p442.1).bind fun p446 => if (p442.2 : Int32) = p446.2 then RS (ZZ L xs) (d + 1) mL_law 1266 [some (.retAddr 0), some (v1), some (v2), some (.int i3)] [] p446.1 else if (0 : Int32) = 0 ∨ (0 : Int32) = 1 then some (p446.1, some (.int 0)) else none := by
  refine Eq.trans (q_aload_n dL_law_441 (mk0 rfl) rfl (isA_R hv1)) ?_
  refine Eq.trans (q_callV (as := []) dL_law_442 (mk0 rfl) rfl rfl rfl (Nat.le_of_ble_eq_true rfl) (Nat.le_of_ble_eq_true rfl)) (bind_cg fun b442 => ?_)
  refine Eq.trans (cI_bind (Or.inl rfl)) (bind_cg fun p442 => ?_)
  show RS (ZZ L xs) (d + 1) mL_law 445 [some (.retAddr 0), some (v1), some (v2), some (.int i3)] [.int p442.2] p442.1 = _
  refine Eq.trans (q_aload_n dL_law_445 (mk0 rfl) rfl (isA_R hv2)) ?_
  refine Eq.trans (q_callV (as := []) dL_law_446 (mk0 rfl) rfl rfl rfl (Nat.le_of_ble_eq_true rfl) (Nat.le_of_ble_eq_true rfl)) (bind_cg fun b446 => ?_)
  refine Eq.trans (cI_bind (Or.inl rfl)) (bind_cg fun p446 => ?_)
  show RS (ZZ L xs) (d + 1) mL_law 449 [some (.retAddr 0), some (v1), some (v2), some (.int i3)] [.int p446.2, .int p442.2] p446.1 = _
  refine Eq.trans (q_icmp_eq (t := 1266) dL_law_449 (mk0 rfl) rfl) (ite_cg ?_ ?_)
  · rfl
  · refine Eq.trans (q_iconst (v := 0) dL_law_452 (mk0 rfl) rfl) ?_
    exact q_zreturn dL_law_453 (mk0 rfl) rfl
set_option maxRecDepth 20000 in
theorem bL_law_454 {L : Nat} {xs : Nat → Int32} (d : Nat) (v1 : Value) (v2 : Value) (i3 : Int32) (hv1 : isR v1 = true) (hv2 : isR v2 = true) (ph : PH) : RS (ZZ L xs) (d + 1) mL_law 454 [some (.retAddr 0), some (v1), some (v2), some (.int i3)] [] ph = (scr L xs (i3 + 1)).bind fun x459 => (scr L xs (i3 + 2)).bind fun x464 => (iO ph v1 12).bind fun b465 => (cI (ZZ L xs) d mX12_stand [.ref b465, .int x459, .int x464] ph).bind fun p465 => (scr L xs (i3 + 1)).bind fun x473 => (scr L xs (i3 + 2)).bind fun x478 => (iO p465.1 v2 13).bind fun b479 => (cI (ZZ L xs) d mX13_stand [.ref b479, .int x473, .int x478] p465.1).bind fun p479 => if (p465.2 : Int32) = p479.2 then RS (ZZ L xs) (d + 1) mL_law 1266 [some (.retAddr 0), some (v1), some (v2), some (.int i3)] [] p479.1 else if (0 : Int32) = 0 ∨ (0 : Int32) = 1 then some (p479.1, some (.int 0)) else none := by
  refine Eq.trans (q_aload_n dL_law_454 (mk0 rfl) rfl (isA_R hv1)) ?_
  refine Eq.trans (q_aload_n dL_law_455 (mk0 rfl) rfl rfl) ?_
  refine Eq.trans (q_iload_n dL_law_456 (mk0 rfl) rfl) ?_
  refine Eq.trans (q_iconst (v := 1) dL_law_457 (mk0 rfl) rfl) ?_
  refine Eq.trans (q_iadd dL_law_458 (mk0 rfl)) ?_
  refine Eq.trans (script_eq dL_law_459 (mk0 rfl)) (bind_cg fun x459 => ?_)
  refine Eq.trans (q_aload_n dL_law_460 (mk0 rfl) rfl rfl) ?_
  refine Eq.trans (q_iload_n dL_law_461 (mk0 rfl) rfl) ?_
  refine Eq.trans (q_iconst (v := 2) dL_law_462 (mk0 rfl) rfl) ?_
  refine Eq.trans (q_iadd dL_law_463 (mk0 rfl)) ?_
  refine Eq.trans (script_eq dL_law_464 (mk0 rfl)) (bind_cg fun x464 => ?_)
  refine Eq.trans (q_callV (as := [.int x459, .int x464]) dL_law_465 (mk0 rfl) rfl rfl rfl (Nat.le_of_ble_eq_true rfl) (Nat.le_of_ble_eq_true rfl)) (bind_cg fun b465 => ?_)
  refine Eq.trans (cI_bind (Or.inl rfl)) (bind_cg fun p465 => ?_)
  show RS (ZZ L xs) (d + 1) mL_law 468 [some (.retAddr 0), some (v1), some (v2), some (.int i3)] [.int p465.2] p465.1 = _
  refine Eq.trans (q_aload_n dL_law_468 (mk0 rfl) rfl (isA_R hv2)) ?_
  refine Eq.trans (q_aload_n dL_law_469 (mk0 rfl) rfl rfl) ?_
  refine Eq.trans (q_iload_n dL_law_470 (mk0 rfl) rfl) ?_
  refine Eq.trans (q_iconst (v := 1) dL_law_471 (mk0 rfl) rfl) ?_
  refine Eq.trans (q_iadd dL_law_472 (mk0 rfl)) ?_
  refine Eq.trans (script_eq dL_law_473 (mk0 rfl)) (bind_cg fun x473 => ?_)
  refine Eq.trans (q_aload_n dL_law_474 (mk0 rfl) rfl rfl) ?_
  refine Eq.trans (q_iload_n dL_law_475 (mk0 rfl) rfl) ?_
  refine Eq.trans (q_iconst (v := 2) dL_law_476 (mk0 rfl) rfl) ?_
  refine Eq.trans (q_iadd dL_law_477 (mk0 rfl)) ?_
  refine Eq.trans (script_eq dL_law_478 (mk0 rfl)) (bind_cg fun x478 => ?_)
  refine Eq.trans (q_callV (as := [.int x473, .int x478]) dL_law_479 (mk0 rfl) rfl rfl rfl (Nat.le_of_ble_eq_true rfl) (Nat.le_of_ble_eq_true rfl)) (bind_cg fun b479 => ?_)
  refine Eq.trans (cI_bind (Or.inl rfl)) (bind_cg fun p479 => ?_)
  show RS (ZZ L xs) (d + 1) mL_law 482 [some (.retAddr 0), some (v1), some (v2), some (.int i3)] [.int p479.2, .int p465.2] p479.1 = _
  refine Eq.trans (q_icmp_eq (t := 1266) dL_law_482 (mk0 rfl) rfl) (ite_cg ?_ ?_)
  · rfl
  · refine Eq.trans (q_iconst (v := 0) dL_law_485 (mk0 rfl) rfl) ?_
    exact q_zreturn dL_law_486 (mk0 rfl) rfl
set_option maxRecDepth 20000 in
theorem bL_law_487 {L : Nat} {xs : Nat → Int32} (d : Nat) (v1 : Value) (v2 : Value) (i3 : Int32) (hv1 : isR v1 = true) (hv2 : isR v2 = true) (ph : PH) : RS (ZZ L xs) (d + 1) mL_law 487 [some (.retAddr 0), some (v1), some (v2), some (.int i3)] [] ph = (scr L xs (i3 + 1)).bind fun x492 => (scr L xs (i3 + 2)).bind fun x497 => (iO ph v1 12).bind fun b498 => (cI (ZZ L xs) d mX12_collar [.ref b498, .int x492, .int x497] ph).bind fun p498 => (scr L xs (i3 + 1)).bind fun x506 => (scr L xs (i3 + 2)).bind fun x511 => (iO p498.1 v2 13).bind fun b512 => (cI (ZZ L xs) d mX13_collar [.ref b512, .int x506, .int x511] p498.1).bind fun p512 => if (p498.2 : Int32) = p512.2 then RS (ZZ L xs) (d + 1) mL_law 1266 [some (.retAddr 0), some (v1), some (v2), some (.int i3)] [] p512.1 else if (0 : Int32) = 0 ∨ (0 : Int32) = 1 then some (p512.1, some (.int 0)) else none := by
  refine Eq.trans (q_aload_n dL_law_487 (mk0 rfl) rfl (isA_R hv1)) ?_
  refine Eq.trans (q_aload_n dL_law_488 (mk0 rfl) rfl rfl) ?_
  refine Eq.trans (q_iload_n dL_law_489 (mk0 rfl) rfl) ?_
  refine Eq.trans (q_iconst (v := 1) dL_law_490 (mk0 rfl) rfl) ?_
  refine Eq.trans (q_iadd dL_law_491 (mk0 rfl)) ?_
  refine Eq.trans (script_eq dL_law_492 (mk0 rfl)) (bind_cg fun x492 => ?_)
  refine Eq.trans (q_aload_n dL_law_493 (mk0 rfl) rfl rfl) ?_
  refine Eq.trans (q_iload_n dL_law_494 (mk0 rfl) rfl) ?_
  refine Eq.trans (q_iconst (v := 2) dL_law_495 (mk0 rfl) rfl) ?_
  refine Eq.trans (q_iadd dL_law_496 (mk0 rfl)) ?_
  refine Eq.trans (script_eq dL_law_497 (mk0 rfl)) (bind_cg fun x497 => ?_)
  refine Eq.trans (q_callV (as := [.int x492, .int x497]) dL_law_498 (mk0 rfl) rfl rfl rfl (Nat.le_of_ble_eq_true rfl) (Nat.le_of_ble_eq_true rfl)) (bind_cg fun b498 => ?_)
  refine Eq.trans (cI_bind (Or.inl rfl)) (bind_cg fun p498 => ?_)
  show RS (ZZ L xs) (d + 1) mL_law 501 [some (.retAddr 0), some (v1), some (v2), some (.int i3)] [.int p498.2] p498.1 = _
  refine Eq.trans (q_aload_n dL_law_501 (mk0 rfl) rfl (isA_R hv2)) ?_
  refine Eq.trans (q_aload_n dL_law_502 (mk0 rfl) rfl rfl) ?_
  refine Eq.trans (q_iload_n dL_law_503 (mk0 rfl) rfl) ?_
  refine Eq.trans (q_iconst (v := 1) dL_law_504 (mk0 rfl) rfl) ?_
  refine Eq.trans (q_iadd dL_law_505 (mk0 rfl)) ?_
  refine Eq.trans (script_eq dL_law_506 (mk0 rfl)) (bind_cg fun x506 => ?_)
  refine Eq.trans (q_aload_n dL_law_507 (mk0 rfl) rfl rfl) ?_
  refine Eq.trans (q_iload_n dL_law_508 (mk0 rfl) rfl) ?_
  refine Eq.trans (q_iconst (v := 2) dL_law_509 (mk0 rfl) rfl) ?_
  refine Eq.trans (q_iadd dL_law_510 (mk0 rfl)) ?_
  refine Eq.trans (script_eq dL_law_511 (mk0 rfl)) (bind_cg fun x511 => ?_)
  refine Eq.trans (q_callV (as := [.int x506, .int x511]) dL_law_512 (mk0 rfl) rfl rfl rfl (Nat.le_of_ble_eq_true rfl) (Nat.le_of_ble_eq_true rfl)) (bind_cg fun b512 => ?_)
  refine Eq.trans (cI_bind (Or.inl rfl)) (bind_cg fun p512 => ?_)
  show RS (ZZ L xs) (d + 1) mL_law 515 [some (.retAddr 0), some (v1), some (v2), some (.int i3)] [.int p512.2, .int p498.2] p512.1 = _
  refine Eq.trans (q_icmp_eq (t := 1266) dL_law_515 (mk0 rfl) rfl) (ite_cg ?_ ?_)
  · rfl
  · refine Eq.trans (q_iconst (v := 0) dL_law_518 (mk0 rfl) rfl) ?_
    exact q_zreturn dL_law_519 (mk0 rfl) rfl
set_option maxRecDepth 20000 in
theorem bL_law_520 {L : Nat} {xs : Nat → Int32} (d : Nat) (v1 : Value) (v2 : Value) (i3 : Int32) (hv1 : isR v1 = true) (hv2 : isR v2 = true) (ph : PH) : RS (ZZ L xs) (d + 1) mL_law 520 [some (.retAddr 0), some (v1), some (v2), some (.int i3)] [] ph = (scr L xs (i3 + 1)).bind fun x525 => (scr L xs (i3 + 2)).bind fun x530 => (iO ph v1 12).bind fun b531 => (cI (ZZ L xs) d mX12_shut [.ref b531, .int x525, .int x530] ph).bind fun p531 => (scr L xs (i3 + 1)).bind fun x539 => (scr L xs (i3 + 2)).bind fun x544 => (iO p531.1 v2 13).bind fun b545 => (cI (ZZ L xs) d mX13_shut [.ref b545, .int x539, .int x544] p531.1).bind fun p545 => if (p531.2 : Int32) = p545.2 then RS (ZZ L xs) (d + 1) mL_law 1266 [some (.retAddr 0), some (v1), some (v2), some (.int i3)] [] p545.1 else if (0 : Int32) = 0 ∨ (0 : Int32) = 1 then some (p545.1, some (.int 0)) else none := by
  refine Eq.trans (q_aload_n dL_law_520 (mk0 rfl) rfl (isA_R hv1)) ?_
  refine Eq.trans (q_aload_n dL_law_521 (mk0 rfl) rfl rfl) ?_
  refine Eq.trans (q_iload_n dL_law_522 (mk0 rfl) rfl) ?_
  refine Eq.trans (q_iconst (v := 1) dL_law_523 (mk0 rfl) rfl) ?_
  refine Eq.trans (q_iadd dL_law_524 (mk0 rfl)) ?_
  refine Eq.trans (script_eq dL_law_525 (mk0 rfl)) (bind_cg fun x525 => ?_)
  refine Eq.trans (q_aload_n dL_law_526 (mk0 rfl) rfl rfl) ?_
  refine Eq.trans (q_iload_n dL_law_527 (mk0 rfl) rfl) ?_
  refine Eq.trans (q_iconst (v := 2) dL_law_528 (mk0 rfl) rfl) ?_
  refine Eq.trans (q_iadd dL_law_529 (mk0 rfl)) ?_
  refine Eq.trans (script_eq dL_law_530 (mk0 rfl)) (bind_cg fun x530 => ?_)
  refine Eq.trans (q_callV (as := [.int x525, .int x530]) dL_law_531 (mk0 rfl) rfl rfl rfl (Nat.le_of_ble_eq_true rfl) (Nat.le_of_ble_eq_true rfl)) (bind_cg fun b531 => ?_)
  refine Eq.trans (cI_bind (Or.inl rfl)) (bind_cg fun p531 => ?_)
  show RS (ZZ L xs) (d + 1) mL_law 534 [some (.retAddr 0), some (v1), some (v2), some (.int i3)] [.int p531.2] p531.1 = _
  refine Eq.trans (q_aload_n dL_law_534 (mk0 rfl) rfl (isA_R hv2)) ?_
  refine Eq.trans (q_aload_n dL_law_535 (mk0 rfl) rfl rfl) ?_
  refine Eq.trans (q_iload_n dL_law_536 (mk0 rfl) rfl) ?_
  refine Eq.trans (q_iconst (v := 1) dL_law_537 (mk0 rfl) rfl) ?_
  refine Eq.trans (q_iadd dL_law_538 (mk0 rfl)) ?_
  refine Eq.trans (script_eq dL_law_539 (mk0 rfl)) (bind_cg fun x539 => ?_)
  refine Eq.trans (q_aload_n dL_law_540 (mk0 rfl) rfl rfl) ?_
  refine Eq.trans (q_iload_n dL_law_541 (mk0 rfl) rfl) ?_
  refine Eq.trans (q_iconst (v := 2) dL_law_542 (mk0 rfl) rfl) ?_
  refine Eq.trans (q_iadd dL_law_543 (mk0 rfl)) ?_
  refine Eq.trans (script_eq dL_law_544 (mk0 rfl)) (bind_cg fun x544 => ?_)
  refine Eq.trans (q_callV (as := [.int x539, .int x544]) dL_law_545 (mk0 rfl) rfl rfl rfl (Nat.le_of_ble_eq_true rfl) (Nat.le_of_ble_eq_true rfl)) (bind_cg fun b545 => ?_)
  refine Eq.trans (cI_bind (Or.inl rfl)) (bind_cg fun p545 => ?_)
  show RS (ZZ L xs) (d + 1) mL_law 548 [some (.retAddr 0), some (v1), some (v2), some (.int i3)] [.int p545.2, .int p531.2] p545.1 = _
  refine Eq.trans (q_icmp_eq (t := 1266) dL_law_548 (mk0 rfl) rfl) (ite_cg ?_ ?_)
  · rfl
  · refine Eq.trans (q_iconst (v := 0) dL_law_551 (mk0 rfl) rfl) ?_
    exact q_zreturn dL_law_552 (mk0 rfl) rfl
set_option maxRecDepth 20000 in
theorem bL_law_553 {L : Nat} {xs : Nat → Int32} (d : Nat) (v1 : Value) (v2 : Value) (i3 : Int32) (hv1 : isR v1 = true) (hv2 : isR v2 = true) (ph : PH) : RS (ZZ L xs) (d + 1) mL_law 553 [some (.retAddr 0), some (v1), some (v2), some (.int i3)] [] ph = (scr L xs (i3 + 1)).bind fun x558 => (iO ph v1 12).bind fun b559 => (cI (ZZ L xs) d mX12_hunt [.ref b559, .int x558] ph).bind fun p559 => (scr L xs (i3 + 1)).bind fun x567 => (iO p559.1 v2 13).bind fun b568 => (cI (ZZ L xs) d mX13_hunt [.ref b568, .int x567] p559.1).bind fun p568 => if (p559.2 : Int32) = p568.2 then RS (ZZ L xs) (d + 1) mL_law 1266 [some (.retAddr 0), some (v1), some (v2), some (.int i3)] [] p568.1 else if (0 : Int32) = 0 ∨ (0 : Int32) = 1 then some (p568.1, some (.int 0)) else none := by
  refine Eq.trans (q_aload_n dL_law_553 (mk0 rfl) rfl (isA_R hv1)) ?_
  refine Eq.trans (q_aload_n dL_law_554 (mk0 rfl) rfl rfl) ?_
  refine Eq.trans (q_iload_n dL_law_555 (mk0 rfl) rfl) ?_
  refine Eq.trans (q_iconst (v := 1) dL_law_556 (mk0 rfl) rfl) ?_
  refine Eq.trans (q_iadd dL_law_557 (mk0 rfl)) ?_
  refine Eq.trans (script_eq dL_law_558 (mk0 rfl)) (bind_cg fun x558 => ?_)
  refine Eq.trans (q_callV (as := [.int x558]) dL_law_559 (mk0 rfl) rfl rfl rfl (Nat.le_of_ble_eq_true rfl) (Nat.le_of_ble_eq_true rfl)) (bind_cg fun b559 => ?_)
  refine Eq.trans (cI_bind (Or.inl rfl)) (bind_cg fun p559 => ?_)
  show RS (ZZ L xs) (d + 1) mL_law 562 [some (.retAddr 0), some (v1), some (v2), some (.int i3)] [.int p559.2] p559.1 = _
  refine Eq.trans (q_aload_n dL_law_562 (mk0 rfl) rfl (isA_R hv2)) ?_
  refine Eq.trans (q_aload_n dL_law_563 (mk0 rfl) rfl rfl) ?_
  refine Eq.trans (q_iload_n dL_law_564 (mk0 rfl) rfl) ?_
  refine Eq.trans (q_iconst (v := 1) dL_law_565 (mk0 rfl) rfl) ?_
  refine Eq.trans (q_iadd dL_law_566 (mk0 rfl)) ?_
  refine Eq.trans (script_eq dL_law_567 (mk0 rfl)) (bind_cg fun x567 => ?_)
  refine Eq.trans (q_callV (as := [.int x567]) dL_law_568 (mk0 rfl) rfl rfl rfl (Nat.le_of_ble_eq_true rfl) (Nat.le_of_ble_eq_true rfl)) (bind_cg fun b568 => ?_)
  refine Eq.trans (cI_bind (Or.inl rfl)) (bind_cg fun p568 => ?_)
  show RS (ZZ L xs) (d + 1) mL_law 571 [some (.retAddr 0), some (v1), some (v2), some (.int i3)] [.int p568.2, .int p559.2] p568.1 = _
  refine Eq.trans (q_icmp_eq (t := 1266) dL_law_571 (mk0 rfl) rfl) (ite_cg ?_ ?_)
  · rfl
  · refine Eq.trans (q_iconst (v := 0) dL_law_574 (mk0 rfl) rfl) ?_
    exact q_zreturn dL_law_575 (mk0 rfl) rfl
set_option maxRecDepth 20000 in
theorem bL_law_576 {L : Nat} {xs : Nat → Int32} (d : Nat) (v1 : Value) (v2 : Value) (i3 : Int32) (hv1 : isR v1 = true) (hv2 : isR v2 = true) (ph : PH) : RS (ZZ L xs) (d + 1) mL_law 576 [some (.retAddr 0), some (v1), some (v2), some (.int i3)] [] ph = (iO ph v1 12).bind fun b577 => (cI (ZZ L xs) d mX12_undo [.ref b577] ph).bind fun p577 => (iO p577.1 v2 13).bind fun b581 => (cI (ZZ L xs) d mX13_undo [.ref b581] p577.1).bind fun p581 => if (p577.2 : Int32) = p581.2 then RS (ZZ L xs) (d + 1) mL_law 1266 [some (.retAddr 0), some (v1), some (v2), some (.int i3)] [] p581.1 else if (0 : Int32) = 0 ∨ (0 : Int32) = 1 then some (p581.1, some (.int 0)) else none := by
  refine Eq.trans (q_aload_n dL_law_576 (mk0 rfl) rfl (isA_R hv1)) ?_
  refine Eq.trans (q_callV (as := []) dL_law_577 (mk0 rfl) rfl rfl rfl (Nat.le_of_ble_eq_true rfl) (Nat.le_of_ble_eq_true rfl)) (bind_cg fun b577 => ?_)
  refine Eq.trans (cI_bind (Or.inl rfl)) (bind_cg fun p577 => ?_)
  show RS (ZZ L xs) (d + 1) mL_law 580 [some (.retAddr 0), some (v1), some (v2), some (.int i3)] [.int p577.2] p577.1 = _
  refine Eq.trans (q_aload_n dL_law_580 (mk0 rfl) rfl (isA_R hv2)) ?_
  refine Eq.trans (q_callV (as := []) dL_law_581 (mk0 rfl) rfl rfl rfl (Nat.le_of_ble_eq_true rfl) (Nat.le_of_ble_eq_true rfl)) (bind_cg fun b581 => ?_)
  refine Eq.trans (cI_bind (Or.inl rfl)) (bind_cg fun p581 => ?_)
  show RS (ZZ L xs) (d + 1) mL_law 584 [some (.retAddr 0), some (v1), some (v2), some (.int i3)] [.int p581.2, .int p577.2] p581.1 = _
  refine Eq.trans (q_icmp_eq (t := 1266) dL_law_584 (mk0 rfl) rfl) (ite_cg ?_ ?_)
  · rfl
  · refine Eq.trans (q_iconst (v := 0) dL_law_587 (mk0 rfl) rfl) ?_
    exact q_zreturn dL_law_588 (mk0 rfl) rfl
set_option maxRecDepth 20000 in
theorem bL_law_589 {L : Nat} {xs : Nat → Int32} (d : Nat) (v1 : Value) (v2 : Value) (i3 : Int32) (hv1 : isR v1 = true) (hv2 : isR v2 = true) (ph : PH) : RS (ZZ L xs) (d + 1) mL_law 589 [some (.retAddr 0), some (v1), some (v2), some (.int i3)] [] ph = (scr L xs (i3 + 1)).bind fun x594 => (scr L xs (i3 + 2)).bind fun x599 => (scr L xs (i3 + 3)).bind fun x604 => (iO ph v1 12).bind fun b605 => (cI (ZZ L xs) d mX12_ahead [.ref b605, .int x594, .int x599, .int x604] ph).bind fun p605 => (scr L xs (i3 + 1)).bind fun x613 => (scr L xs (i3 + 2)).bind fun x618 => (scr L xs (i3 + 3)).bind fun x623 => (iO p605.1 v2 13).bind fun b624 => (cI (ZZ L xs) d mX13_ahead [.ref b624, .int x613, .int x618, .int x623] p605.1).bind fun p624 => if (p605.2 : Int32) = p624.2 then RS (ZZ L xs) (d + 1) mL_law 1266 [some (.retAddr 0), some (v1), some (v2), some (.int i3)] [] p624.1 else if (0 : Int32) = 0 ∨ (0 : Int32) = 1 then some (p624.1, some (.int 0)) else none := by
  refine Eq.trans (q_aload_n dL_law_589 (mk0 rfl) rfl (isA_R hv1)) ?_
  refine Eq.trans (q_aload_n dL_law_590 (mk0 rfl) rfl rfl) ?_
  refine Eq.trans (q_iload_n dL_law_591 (mk0 rfl) rfl) ?_
  refine Eq.trans (q_iconst (v := 1) dL_law_592 (mk0 rfl) rfl) ?_
  refine Eq.trans (q_iadd dL_law_593 (mk0 rfl)) ?_
  refine Eq.trans (script_eq dL_law_594 (mk0 rfl)) (bind_cg fun x594 => ?_)
  refine Eq.trans (q_aload_n dL_law_595 (mk0 rfl) rfl rfl) ?_
  refine Eq.trans (q_iload_n dL_law_596 (mk0 rfl) rfl) ?_
  refine Eq.trans (q_iconst (v := 2) dL_law_597 (mk0 rfl) rfl) ?_
  refine Eq.trans (q_iadd dL_law_598 (mk0 rfl)) ?_
  refine Eq.trans (script_eq dL_law_599 (mk0 rfl)) (bind_cg fun x599 => ?_)
  refine Eq.trans (q_aload_n dL_law_600 (mk0 rfl) rfl rfl) ?_
  refine Eq.trans (q_iload_n dL_law_601 (mk0 rfl) rfl) ?_
  refine Eq.trans (q_iconst (v := 3) dL_law_602 (mk0 rfl) rfl) ?_
  refine Eq.trans (q_iadd dL_law_603 (mk0 rfl)) ?_
  refine Eq.trans (script_eq dL_law_604 (mk0 rfl)) (bind_cg fun x604 => ?_)
  refine Eq.trans (q_callV (as := [.int x594, .int x599, .int x604]) dL_law_605 (mk0 rfl) rfl rfl rfl (Nat.le_of_ble_eq_true rfl) (Nat.le_of_ble_eq_true rfl)) (bind_cg fun b605 => ?_)
  refine Eq.trans (cI_bind (Or.inl rfl)) (bind_cg fun p605 => ?_)
  show RS (ZZ L xs) (d + 1) mL_law 608 [some (.retAddr 0), some (v1), some (v2), some (.int i3)] [.int p605.2] p605.1 = _
  refine Eq.trans (q_aload_n dL_law_608 (mk0 rfl) rfl (isA_R hv2)) ?_
  refine Eq.trans (q_aload_n dL_law_609 (mk0 rfl) rfl rfl) ?_
  refine Eq.trans (q_iload_n dL_law_610 (mk0 rfl) rfl) ?_
  refine Eq.trans (q_iconst (v := 1) dL_law_611 (mk0 rfl) rfl) ?_
  refine Eq.trans (q_iadd dL_law_612 (mk0 rfl)) ?_
  refine Eq.trans (script_eq dL_law_613 (mk0 rfl)) (bind_cg fun x613 => ?_)
  refine Eq.trans (q_aload_n dL_law_614 (mk0 rfl) rfl rfl) ?_
  refine Eq.trans (q_iload_n dL_law_615 (mk0 rfl) rfl) ?_
  refine Eq.trans (q_iconst (v := 2) dL_law_616 (mk0 rfl) rfl) ?_
  refine Eq.trans (q_iadd dL_law_617 (mk0 rfl)) ?_
  refine Eq.trans (script_eq dL_law_618 (mk0 rfl)) (bind_cg fun x618 => ?_)
  refine Eq.trans (q_aload_n dL_law_619 (mk0 rfl) rfl rfl) ?_
  refine Eq.trans (q_iload_n dL_law_620 (mk0 rfl) rfl) ?_
  refine Eq.trans (q_iconst (v := 3) dL_law_621 (mk0 rfl) rfl) ?_
  refine Eq.trans (q_iadd dL_law_622 (mk0 rfl)) ?_
  refine Eq.trans (script_eq dL_law_623 (mk0 rfl)) (bind_cg fun x623 => ?_)
  refine Eq.trans (q_callV (as := [.int x613, .int x618, .int x623]) dL_law_624 (mk0 rfl) rfl rfl rfl (Nat.le_of_ble_eq_true rfl) (Nat.le_of_ble_eq_true rfl)) (bind_cg fun b624 => ?_)
  refine Eq.trans (cI_bind (Or.inl rfl)) (bind_cg fun p624 => ?_)
  show RS (ZZ L xs) (d + 1) mL_law 627 [some (.retAddr 0), some (v1), some (v2), some (.int i3)] [.int p624.2, .int p605.2] p624.1 = _
  refine Eq.trans (q_icmp_eq (t := 1266) dL_law_627 (mk0 rfl) rfl) (ite_cg ?_ ?_)
  · rfl
  · refine Eq.trans (q_iconst (v := 0) dL_law_630 (mk0 rfl) rfl) ?_
    exact q_zreturn dL_law_631 (mk0 rfl) rfl
set_option maxRecDepth 20000 in
theorem bL_law_632 {L : Nat} {xs : Nat → Int32} (d : Nat) (v1 : Value) (v2 : Value) (i3 : Int32) (hv1 : isR v1 = true) (hv2 : isR v2 = true) (ph : PH) : RS (ZZ L xs) (d + 1) mL_law 632 [some (.retAddr 0), some (v1), some (v2), some (.int i3)] [] ph = (scr L xs (i3 + 1)).bind fun x637 => (iO ph v1 12).bind fun b638 => (cI (ZZ L xs) d mX12_mayor [.ref b638, .int x637] ph).bind fun p638 => (scr L xs (i3 + 1)).bind fun x646 => (iO p638.1 v2 13).bind fun b647 => (cI (ZZ L xs) d mX13_mayor [.ref b647, .int x646] p638.1).bind fun p647 => if (p638.2 : Int32) = p647.2 then RS (ZZ L xs) (d + 1) mL_law 1266 [some (.retAddr 0), some (v1), some (v2), some (.int i3)] [] p647.1 else if (0 : Int32) = 0 ∨ (0 : Int32) = 1 then some (p647.1, some (.int 0)) else none := by
  refine Eq.trans (q_aload_n dL_law_632 (mk0 rfl) rfl (isA_R hv1)) ?_
  refine Eq.trans (q_aload_n dL_law_633 (mk0 rfl) rfl rfl) ?_
  refine Eq.trans (q_iload_n dL_law_634 (mk0 rfl) rfl) ?_
  refine Eq.trans (q_iconst (v := 1) dL_law_635 (mk0 rfl) rfl) ?_
  refine Eq.trans (q_iadd dL_law_636 (mk0 rfl)) ?_
  refine Eq.trans (script_eq dL_law_637 (mk0 rfl)) (bind_cg fun x637 => ?_)
  refine Eq.trans (q_callV (as := [.int x637]) dL_law_638 (mk0 rfl) rfl rfl rfl (Nat.le_of_ble_eq_true rfl) (Nat.le_of_ble_eq_true rfl)) (bind_cg fun b638 => ?_)
  refine Eq.trans (cI_bind (Or.inl rfl)) (bind_cg fun p638 => ?_)
  show RS (ZZ L xs) (d + 1) mL_law 641 [some (.retAddr 0), some (v1), some (v2), some (.int i3)] [.int p638.2] p638.1 = _
  refine Eq.trans (q_aload_n dL_law_641 (mk0 rfl) rfl (isA_R hv2)) ?_
  refine Eq.trans (q_aload_n dL_law_642 (mk0 rfl) rfl rfl) ?_
  refine Eq.trans (q_iload_n dL_law_643 (mk0 rfl) rfl) ?_
  refine Eq.trans (q_iconst (v := 1) dL_law_644 (mk0 rfl) rfl) ?_
  refine Eq.trans (q_iadd dL_law_645 (mk0 rfl)) ?_
  refine Eq.trans (script_eq dL_law_646 (mk0 rfl)) (bind_cg fun x646 => ?_)
  refine Eq.trans (q_callV (as := [.int x646]) dL_law_647 (mk0 rfl) rfl rfl rfl (Nat.le_of_ble_eq_true rfl) (Nat.le_of_ble_eq_true rfl)) (bind_cg fun b647 => ?_)
  refine Eq.trans (cI_bind (Or.inl rfl)) (bind_cg fun p647 => ?_)
  show RS (ZZ L xs) (d + 1) mL_law 650 [some (.retAddr 0), some (v1), some (v2), some (.int i3)] [.int p647.2, .int p638.2] p647.1 = _
  refine Eq.trans (q_icmp_eq (t := 1266) dL_law_650 (mk0 rfl) rfl) (ite_cg ?_ ?_)
  · rfl
  · refine Eq.trans (q_iconst (v := 0) dL_law_653 (mk0 rfl) rfl) ?_
    exact q_zreturn dL_law_654 (mk0 rfl) rfl
set_option maxRecDepth 20000 in
theorem bL_law_655 {L : Nat} {xs : Nat → Int32} (d : Nat) (v1 : Value) (v2 : Value) (i3 : Int32) (hv1 : isR v1 = true) (hv2 : isR v2 = true) (ph : PH) : RS (ZZ L xs) (d + 1) mL_law 655 [some (.retAddr 0), some (v1), some (v2), some (.int i3)] [] ph = (scr L xs (i3 + 1)).bind fun x660 => (scr L xs (i3 + 2)).bind fun x665 => (scr L xs (i3 + 3)).bind fun x670 => (iO ph v1 12).bind fun b671 => (cI (ZZ L xs) d mX12_pitch [.ref b671, .int x660, .int x665, .int x670] ph).bind fun p671 => (scr L xs (i3 + 1)).bind fun x679 => (scr L xs (i3 + 2)).bind fun x684 => (scr L xs (i3 + 3)).bind fun x689 => (iO p671.1 v2 13).bind fun b690 => (cI (ZZ L xs) d mX13_pitch [.ref b690, .int x679, .int x684, .int x689] p671.1).bind fun p690 => if (p671.2 : Int32) = p690.2 then RS (ZZ L xs) (d + 1) mL_law 1266 [some (.retAddr 0), some (v1), some (v2), some (.int i3)] [] p690.1 else if (0 : Int32) = 0 ∨ (0 : Int32) = 1 then some (p690.1, some (.int 0)) else none := by
  refine Eq.trans (q_aload_n dL_law_655 (mk0 rfl) rfl (isA_R hv1)) ?_
  refine Eq.trans (q_aload_n dL_law_656 (mk0 rfl) rfl rfl) ?_
  refine Eq.trans (q_iload_n dL_law_657 (mk0 rfl) rfl) ?_
  refine Eq.trans (q_iconst (v := 1) dL_law_658 (mk0 rfl) rfl) ?_
  refine Eq.trans (q_iadd dL_law_659 (mk0 rfl)) ?_
  refine Eq.trans (script_eq dL_law_660 (mk0 rfl)) (bind_cg fun x660 => ?_)
  refine Eq.trans (q_aload_n dL_law_661 (mk0 rfl) rfl rfl) ?_
  refine Eq.trans (q_iload_n dL_law_662 (mk0 rfl) rfl) ?_
  refine Eq.trans (q_iconst (v := 2) dL_law_663 (mk0 rfl) rfl) ?_
  refine Eq.trans (q_iadd dL_law_664 (mk0 rfl)) ?_
  refine Eq.trans (script_eq dL_law_665 (mk0 rfl)) (bind_cg fun x665 => ?_)
  refine Eq.trans (q_aload_n dL_law_666 (mk0 rfl) rfl rfl) ?_
  refine Eq.trans (q_iload_n dL_law_667 (mk0 rfl) rfl) ?_
  refine Eq.trans (q_iconst (v := 3) dL_law_668 (mk0 rfl) rfl) ?_
  refine Eq.trans (q_iadd dL_law_669 (mk0 rfl)) ?_
  refine Eq.trans (script_eq dL_law_670 (mk0 rfl)) (bind_cg fun x670 => ?_)
  refine Eq.trans (q_callV (as := [.int x660, .int x665, .int x670]) dL_law_671 (mk0 rfl) rfl rfl rfl (Nat.le_of_ble_eq_true rfl) (Nat.le_of_ble_eq_true rfl)) (bind_cg fun b671 => ?_)
  refine Eq.trans (cI_bind (Or.inl rfl)) (bind_cg fun p671 => ?_)
  show RS (ZZ L xs) (d + 1) mL_law 674 [some (.retAddr 0), some (v1), some (v2), some (.int i3)] [.int p671.2] p671.1 = _
  refine Eq.trans (q_aload_n dL_law_674 (mk0 rfl) rfl (isA_R hv2)) ?_
  refine Eq.trans (q_aload_n dL_law_675 (mk0 rfl) rfl rfl) ?_
  refine Eq.trans (q_iload_n dL_law_676 (mk0 rfl) rfl) ?_
  refine Eq.trans (q_iconst (v := 1) dL_law_677 (mk0 rfl) rfl) ?_
  refine Eq.trans (q_iadd dL_law_678 (mk0 rfl)) ?_
  refine Eq.trans (script_eq dL_law_679 (mk0 rfl)) (bind_cg fun x679 => ?_)
  refine Eq.trans (q_aload_n dL_law_680 (mk0 rfl) rfl rfl) ?_
  refine Eq.trans (q_iload_n dL_law_681 (mk0 rfl) rfl) ?_
  refine Eq.trans (q_iconst (v := 2) dL_law_682 (mk0 rfl) rfl) ?_
  refine Eq.trans (q_iadd dL_law_683 (mk0 rfl)) ?_
  refine Eq.trans (script_eq dL_law_684 (mk0 rfl)) (bind_cg fun x684 => ?_)
  refine Eq.trans (q_aload_n dL_law_685 (mk0 rfl) rfl rfl) ?_
  refine Eq.trans (q_iload_n dL_law_686 (mk0 rfl) rfl) ?_
  refine Eq.trans (q_iconst (v := 3) dL_law_687 (mk0 rfl) rfl) ?_
  refine Eq.trans (q_iadd dL_law_688 (mk0 rfl)) ?_
  refine Eq.trans (script_eq dL_law_689 (mk0 rfl)) (bind_cg fun x689 => ?_)
  refine Eq.trans (q_callV (as := [.int x679, .int x684, .int x689]) dL_law_690 (mk0 rfl) rfl rfl rfl (Nat.le_of_ble_eq_true rfl) (Nat.le_of_ble_eq_true rfl)) (bind_cg fun b690 => ?_)
  refine Eq.trans (cI_bind (Or.inl rfl)) (bind_cg fun p690 => ?_)
  show RS (ZZ L xs) (d + 1) mL_law 693 [some (.retAddr 0), some (v1), some (v2), some (.int i3)] [.int p690.2, .int p671.2] p690.1 = _
  refine Eq.trans (q_icmp_eq (t := 1266) dL_law_693 (mk0 rfl) rfl) (ite_cg ?_ ?_)
  · rfl
  · refine Eq.trans (q_iconst (v := 0) dL_law_696 (mk0 rfl) rfl) ?_
    exact q_zreturn dL_law_697 (mk0 rfl) rfl
set_option maxRecDepth 20000 in
theorem bL_law_698 {L : Nat} {xs : Nat → Int32} (d : Nat) (v1 : Value) (v2 : Value) (i3 : Int32) (hv1 : isR v1 = true) (hv2 : isR v2 = true) (ph : PH) : RS (ZZ L xs) (d + 1) mL_law 698 [some (.retAddr 0), some (v1), some (v2), some (.int i3)] [] ph = (scr L xs (i3 + 1)).bind fun x703 => (scr L xs (i3 + 2)).bind fun x708 => (iO ph v1 12).bind fun b709 => (cI (ZZ L xs) d mX12_smile [.ref b709, .int x703, .int x708] ph).bind fun p709 => (scr L xs (i3 + 1)).bind fun x717 => (scr L xs (i3 + 2)).bind fun x722 => (iO p709.1 v2 13).bind fun b723 => (cI (ZZ L xs) d mX13_smile [.ref b723, .int x717, .int x722] p709.1).bind fun p723 => if (p709.2 : Int32) = p723.2 then RS (ZZ L xs) (d + 1) mL_law 1266 [some (.retAddr 0), some (v1), some (v2), some (.int i3)] [] p723.1 else if (0 : Int32) = 0 ∨ (0 : Int32) = 1 then some (p723.1, some (.int 0)) else none := by
  refine Eq.trans (q_aload_n dL_law_698 (mk0 rfl) rfl (isA_R hv1)) ?_
  refine Eq.trans (q_aload_n dL_law_699 (mk0 rfl) rfl rfl) ?_
  refine Eq.trans (q_iload_n dL_law_700 (mk0 rfl) rfl) ?_
  refine Eq.trans (q_iconst (v := 1) dL_law_701 (mk0 rfl) rfl) ?_
  refine Eq.trans (q_iadd dL_law_702 (mk0 rfl)) ?_
  refine Eq.trans (script_eq dL_law_703 (mk0 rfl)) (bind_cg fun x703 => ?_)
  refine Eq.trans (q_aload_n dL_law_704 (mk0 rfl) rfl rfl) ?_
  refine Eq.trans (q_iload_n dL_law_705 (mk0 rfl) rfl) ?_
  refine Eq.trans (q_iconst (v := 2) dL_law_706 (mk0 rfl) rfl) ?_
  refine Eq.trans (q_iadd dL_law_707 (mk0 rfl)) ?_
  refine Eq.trans (script_eq dL_law_708 (mk0 rfl)) (bind_cg fun x708 => ?_)
  refine Eq.trans (q_callV (as := [.int x703, .int x708]) dL_law_709 (mk0 rfl) rfl rfl rfl (Nat.le_of_ble_eq_true rfl) (Nat.le_of_ble_eq_true rfl)) (bind_cg fun b709 => ?_)
  refine Eq.trans (cI_bind (Or.inl rfl)) (bind_cg fun p709 => ?_)
  show RS (ZZ L xs) (d + 1) mL_law 712 [some (.retAddr 0), some (v1), some (v2), some (.int i3)] [.int p709.2] p709.1 = _
  refine Eq.trans (q_aload_n dL_law_712 (mk0 rfl) rfl (isA_R hv2)) ?_
  refine Eq.trans (q_aload_n dL_law_713 (mk0 rfl) rfl rfl) ?_
  refine Eq.trans (q_iload_n dL_law_714 (mk0 rfl) rfl) ?_
  refine Eq.trans (q_iconst (v := 1) dL_law_715 (mk0 rfl) rfl) ?_
  refine Eq.trans (q_iadd dL_law_716 (mk0 rfl)) ?_
  refine Eq.trans (script_eq dL_law_717 (mk0 rfl)) (bind_cg fun x717 => ?_)
  refine Eq.trans (q_aload_n dL_law_718 (mk0 rfl) rfl rfl) ?_
  refine Eq.trans (q_iload_n dL_law_719 (mk0 rfl) rfl) ?_
  refine Eq.trans (q_iconst (v := 2) dL_law_720 (mk0 rfl) rfl) ?_
  refine Eq.trans (q_iadd dL_law_721 (mk0 rfl)) ?_
  refine Eq.trans (script_eq dL_law_722 (mk0 rfl)) (bind_cg fun x722 => ?_)
  refine Eq.trans (q_callV (as := [.int x717, .int x722]) dL_law_723 (mk0 rfl) rfl rfl rfl (Nat.le_of_ble_eq_true rfl) (Nat.le_of_ble_eq_true rfl)) (bind_cg fun b723 => ?_)
  refine Eq.trans (cI_bind (Or.inl rfl)) (bind_cg fun p723 => ?_)
  show RS (ZZ L xs) (d + 1) mL_law 726 [some (.retAddr 0), some (v1), some (v2), some (.int i3)] [.int p723.2, .int p709.2] p723.1 = _
  refine Eq.trans (q_icmp_eq (t := 1266) dL_law_726 (mk0 rfl) rfl) (ite_cg ?_ ?_)
  · rfl
  · refine Eq.trans (q_iconst (v := 0) dL_law_729 (mk0 rfl) rfl) ?_
    exact q_zreturn dL_law_730 (mk0 rfl) rfl
set_option maxRecDepth 20000 in
theorem bL_law_731 {L : Nat} {xs : Nat → Int32} (d : Nat) (v1 : Value) (v2 : Value) (i3 : Int32) (hv1 : isR v1 = true) (hv2 : isR v2 = true) (ph : PH) : RS (ZZ L xs) (d + 1) mL_law 731 [some (.retAddr 0), some (v1), some (v2), some (.int i3)] [] ph = (scr L xs (i3 + 1)).bind fun x736 => (scr L xs (i3 + 2)).bind fun x741 => (scr L xs (i3 + 3)).bind fun x746 => (iO ph v1 12).bind fun b747 => (cI (ZZ L xs) d mX12_way [.ref b747, .int x736, .int x741, .int x746] ph).bind fun p747 => (scr L xs (i3 + 1)).bind fun x755 => (scr L xs (i3 + 2)).bind fun x760 => (scr L xs (i3 + 3)).bind fun x765 => (iO p747.1 v2 13).bind fun b766 => (cI (ZZ L xs) d mX13_way [.ref b766, .int x755, .int x760, .int x765] p747.1).bind fun p766 => if (p747.2 : Int32) = p766.2 then RS (ZZ L xs) (d + 1) mL_law 1266 [some (.retAddr 0), some (v1), some (v2), some (.int i3)] [] p766.1 else if (0 : Int32) = 0 ∨ (0 : Int32) = 1 then some (p766.1, some (.int 0)) else none := by
  refine Eq.trans (q_aload_n dL_law_731 (mk0 rfl) rfl (isA_R hv1)) ?_
  refine Eq.trans (q_aload_n dL_law_732 (mk0 rfl) rfl rfl) ?_
  refine Eq.trans (q_iload_n dL_law_733 (mk0 rfl) rfl) ?_
  refine Eq.trans (q_iconst (v := 1) dL_law_734 (mk0 rfl) rfl) ?_
  refine Eq.trans (q_iadd dL_law_735 (mk0 rfl)) ?_
  refine Eq.trans (script_eq dL_law_736 (mk0 rfl)) (bind_cg fun x736 => ?_)
  refine Eq.trans (q_aload_n dL_law_737 (mk0 rfl) rfl rfl) ?_
  refine Eq.trans (q_iload_n dL_law_738 (mk0 rfl) rfl) ?_
  refine Eq.trans (q_iconst (v := 2) dL_law_739 (mk0 rfl) rfl) ?_
  refine Eq.trans (q_iadd dL_law_740 (mk0 rfl)) ?_
  refine Eq.trans (script_eq dL_law_741 (mk0 rfl)) (bind_cg fun x741 => ?_)
  refine Eq.trans (q_aload_n dL_law_742 (mk0 rfl) rfl rfl) ?_
  refine Eq.trans (q_iload_n dL_law_743 (mk0 rfl) rfl) ?_
  refine Eq.trans (q_iconst (v := 3) dL_law_744 (mk0 rfl) rfl) ?_
  refine Eq.trans (q_iadd dL_law_745 (mk0 rfl)) ?_
  refine Eq.trans (script_eq dL_law_746 (mk0 rfl)) (bind_cg fun x746 => ?_)
  refine Eq.trans (q_callV (as := [.int x736, .int x741, .int x746]) dL_law_747 (mk0 rfl) rfl rfl rfl (Nat.le_of_ble_eq_true rfl) (Nat.le_of_ble_eq_true rfl)) (bind_cg fun b747 => ?_)
  refine Eq.trans (cI_bind (Or.inl rfl)) (bind_cg fun p747 => ?_)
  show RS (ZZ L xs) (d + 1) mL_law 750 [some (.retAddr 0), some (v1), some (v2), some (.int i3)] [.int p747.2] p747.1 = _
  refine Eq.trans (q_aload_n dL_law_750 (mk0 rfl) rfl (isA_R hv2)) ?_
  refine Eq.trans (q_aload_n dL_law_751 (mk0 rfl) rfl rfl) ?_
  refine Eq.trans (q_iload_n dL_law_752 (mk0 rfl) rfl) ?_
  refine Eq.trans (q_iconst (v := 1) dL_law_753 (mk0 rfl) rfl) ?_
  refine Eq.trans (q_iadd dL_law_754 (mk0 rfl)) ?_
  refine Eq.trans (script_eq dL_law_755 (mk0 rfl)) (bind_cg fun x755 => ?_)
  refine Eq.trans (q_aload_n dL_law_756 (mk0 rfl) rfl rfl) ?_
  refine Eq.trans (q_iload_n dL_law_757 (mk0 rfl) rfl) ?_
  refine Eq.trans (q_iconst (v := 2) dL_law_758 (mk0 rfl) rfl) ?_
  refine Eq.trans (q_iadd dL_law_759 (mk0 rfl)) ?_
  refine Eq.trans (script_eq dL_law_760 (mk0 rfl)) (bind_cg fun x760 => ?_)
  refine Eq.trans (q_aload_n dL_law_761 (mk0 rfl) rfl rfl) ?_
  refine Eq.trans (q_iload_n dL_law_762 (mk0 rfl) rfl) ?_
  refine Eq.trans (q_iconst (v := 3) dL_law_763 (mk0 rfl) rfl) ?_
  refine Eq.trans (q_iadd dL_law_764 (mk0 rfl)) ?_
  refine Eq.trans (script_eq dL_law_765 (mk0 rfl)) (bind_cg fun x765 => ?_)
  refine Eq.trans (q_callV (as := [.int x755, .int x760, .int x765]) dL_law_766 (mk0 rfl) rfl rfl rfl (Nat.le_of_ble_eq_true rfl) (Nat.le_of_ble_eq_true rfl)) (bind_cg fun b766 => ?_)
  refine Eq.trans (cI_bind (Or.inl rfl)) (bind_cg fun p766 => ?_)
  show RS (ZZ L xs) (d + 1) mL_law 769 [some (.retAddr 0), some (v1), some (v2), some (.int i3)] [.int p766.2, .int p747.2] p766.1 = _
  refine Eq.trans (q_icmp_eq (t := 1266) dL_law_769 (mk0 rfl) rfl) (ite_cg ?_ ?_)
  · rfl
  · refine Eq.trans (q_iconst (v := 0) dL_law_772 (mk0 rfl) rfl) ?_
    exact q_zreturn dL_law_773 (mk0 rfl) rfl
set_option maxRecDepth 20000 in
theorem bL_law_774 {L : Nat} {xs : Nat → Int32} (d : Nat) (v1 : Value) (v2 : Value) (i3 : Int32) (hv1 : isR v1 = true) (hv2 : isR v2 = true) (ph : PH) : RS (ZZ L xs) (d + 1) mL_law 774 [some (.retAddr 0), some (v1), some (v2), some (.int i3)] [] ph = (scr L xs (i3 + 1)).bind fun x779 => (scr L xs (i3 + 2)).bind fun x784 => (scr L xs (i3 + 3)).bind fun x789 => (scr L xs (i3 + 4)).bind fun x794 => (iO ph v1 12).bind fun b795 => (cI (ZZ L xs) d mX12_came [.ref b795, .int x779, .int x784, .int x789, .int x794] ph).bind fun p795 => (scr L xs (i3 + 1)).bind fun x803 => (scr L xs (i3 + 2)).bind fun x808 => (scr L xs (i3 + 3)).bind fun x813 => (scr L xs (i3 + 4)).bind fun x818 => (iO p795.1 v2 13).bind fun b819 => (cI (ZZ L xs) d mX13_came [.ref b819, .int x803, .int x808, .int x813, .int x818] p795.1).bind fun p819 => if (p795.2 : Int32) = p819.2 then RS (ZZ L xs) (d + 1) mL_law 1266 [some (.retAddr 0), some (v1), some (v2), some (.int i3)] [] p819.1 else if (0 : Int32) = 0 ∨ (0 : Int32) = 1 then some (p819.1, some (.int 0)) else none := by
  refine Eq.trans (q_aload_n dL_law_774 (mk0 rfl) rfl (isA_R hv1)) ?_
  refine Eq.trans (q_aload_n dL_law_775 (mk0 rfl) rfl rfl) ?_
  refine Eq.trans (q_iload_n dL_law_776 (mk0 rfl) rfl) ?_
  refine Eq.trans (q_iconst (v := 1) dL_law_777 (mk0 rfl) rfl) ?_
  refine Eq.trans (q_iadd dL_law_778 (mk0 rfl)) ?_
  refine Eq.trans (script_eq dL_law_779 (mk0 rfl)) (bind_cg fun x779 => ?_)
  refine Eq.trans (q_aload_n dL_law_780 (mk0 rfl) rfl rfl) ?_
  refine Eq.trans (q_iload_n dL_law_781 (mk0 rfl) rfl) ?_
  refine Eq.trans (q_iconst (v := 2) dL_law_782 (mk0 rfl) rfl) ?_
  refine Eq.trans (q_iadd dL_law_783 (mk0 rfl)) ?_
  refine Eq.trans (script_eq dL_law_784 (mk0 rfl)) (bind_cg fun x784 => ?_)
  refine Eq.trans (q_aload_n dL_law_785 (mk0 rfl) rfl rfl) ?_
  refine Eq.trans (q_iload_n dL_law_786 (mk0 rfl) rfl) ?_
  refine Eq.trans (q_iconst (v := 3) dL_law_787 (mk0 rfl) rfl) ?_
  refine Eq.trans (q_iadd dL_law_788 (mk0 rfl)) ?_
  refine Eq.trans (script_eq dL_law_789 (mk0 rfl)) (bind_cg fun x789 => ?_)
  refine Eq.trans (q_aload_n dL_law_790 (mk0 rfl) rfl rfl) ?_
  refine Eq.trans (q_iload_n dL_law_791 (mk0 rfl) rfl) ?_
  refine Eq.trans (q_iconst (v := 4) dL_law_792 (mk0 rfl) rfl) ?_
  refine Eq.trans (q_iadd dL_law_793 (mk0 rfl)) ?_
  refine Eq.trans (script_eq dL_law_794 (mk0 rfl)) (bind_cg fun x794 => ?_)
  refine Eq.trans (q_callV (as := [.int x779, .int x784, .int x789, .int x794]) dL_law_795 (mk0 rfl) rfl rfl rfl (Nat.le_of_ble_eq_true rfl) (Nat.le_of_ble_eq_true rfl)) (bind_cg fun b795 => ?_)
  refine Eq.trans (cI_bind (Or.inl rfl)) (bind_cg fun p795 => ?_)
  show RS (ZZ L xs) (d + 1) mL_law 798 [some (.retAddr 0), some (v1), some (v2), some (.int i3)] [.int p795.2] p795.1 = _
  refine Eq.trans (q_aload_n dL_law_798 (mk0 rfl) rfl (isA_R hv2)) ?_
  refine Eq.trans (q_aload_n dL_law_799 (mk0 rfl) rfl rfl) ?_
  refine Eq.trans (q_iload_n dL_law_800 (mk0 rfl) rfl) ?_
  refine Eq.trans (q_iconst (v := 1) dL_law_801 (mk0 rfl) rfl) ?_
  refine Eq.trans (q_iadd dL_law_802 (mk0 rfl)) ?_
  refine Eq.trans (script_eq dL_law_803 (mk0 rfl)) (bind_cg fun x803 => ?_)
  refine Eq.trans (q_aload_n dL_law_804 (mk0 rfl) rfl rfl) ?_
  refine Eq.trans (q_iload_n dL_law_805 (mk0 rfl) rfl) ?_
  refine Eq.trans (q_iconst (v := 2) dL_law_806 (mk0 rfl) rfl) ?_
  refine Eq.trans (q_iadd dL_law_807 (mk0 rfl)) ?_
  refine Eq.trans (script_eq dL_law_808 (mk0 rfl)) (bind_cg fun x808 => ?_)
  refine Eq.trans (q_aload_n dL_law_809 (mk0 rfl) rfl rfl) ?_
  refine Eq.trans (q_iload_n dL_law_810 (mk0 rfl) rfl) ?_
  refine Eq.trans (q_iconst (v := 3) dL_law_811 (mk0 rfl) rfl) ?_
  refine Eq.trans (q_iadd dL_law_812 (mk0 rfl)) ?_
  refine Eq.trans (script_eq dL_law_813 (mk0 rfl)) (bind_cg fun x813 => ?_)
  refine Eq.trans (q_aload_n dL_law_814 (mk0 rfl) rfl rfl) ?_
  refine Eq.trans (q_iload_n dL_law_815 (mk0 rfl) rfl) ?_
  refine Eq.trans (q_iconst (v := 4) dL_law_816 (mk0 rfl) rfl) ?_
  refine Eq.trans (q_iadd dL_law_817 (mk0 rfl)) ?_
  refine Eq.trans (script_eq dL_law_818 (mk0 rfl)) (bind_cg fun x818 => ?_)
  refine Eq.trans (q_callV (as := [.int x803, .int x808, .int x813, .int x818]) dL_law_819 (mk0 rfl) rfl rfl rfl (Nat.le_of_ble_eq_true rfl) (Nat.le_of_ble_eq_true rfl)) (bind_cg fun b819 => ?_)
  refine Eq.trans (cI_bind (Or.inl rfl)) (bind_cg fun p819 => ?_)
  show RS (ZZ L xs) (d + 1) mL_law 822 [some (.retAddr 0), some (v1), some (v2), some (.int i3)] [.int p819.2, .int p795.2] p819.1 = _
  refine Eq.trans (q_icmp_eq (t := 1266) dL_law_822 (mk0 rfl) rfl) (ite_cg ?_ ?_)
  · rfl
  · refine Eq.trans (q_iconst (v := 0) dL_law_825 (mk0 rfl) rfl) ?_
    exact q_zreturn dL_law_826 (mk0 rfl) rfl
set_option maxRecDepth 20000 in
theorem bL_law_827 {L : Nat} {xs : Nat → Int32} (d : Nat) (v1 : Value) (v2 : Value) (i3 : Int32) (hv1 : isR v1 = true) (hv2 : isR v2 = true) (ph : PH) : RS (ZZ L xs) (d + 1) mL_law 827 [some (.retAddr 0), some (v1), some (v2), some (.int i3)] [] ph = (scr L xs (i3 + 1)).bind fun x832 => (iO ph v1 12).bind fun b833 => (cI (ZZ L xs) d mX12_liars [.ref b833, .int x832] ph).bind fun p833 => (scr L xs (i3 + 1)).bind fun x841 => (iO p833.1 v2 13).bind fun b842 => (cI (ZZ L xs) d mX13_liars [.ref b842, .int x841] p833.1).bind fun p842 => if (p833.2 : Int32) = p842.2 then RS (ZZ L xs) (d + 1) mL_law 1266 [some (.retAddr 0), some (v1), some (v2), some (.int i3)] [] p842.1 else if (0 : Int32) = 0 ∨ (0 : Int32) = 1 then some (p842.1, some (.int 0)) else none := by
  refine Eq.trans (q_aload_n dL_law_827 (mk0 rfl) rfl (isA_R hv1)) ?_
  refine Eq.trans (q_aload_n dL_law_828 (mk0 rfl) rfl rfl) ?_
  refine Eq.trans (q_iload_n dL_law_829 (mk0 rfl) rfl) ?_
  refine Eq.trans (q_iconst (v := 1) dL_law_830 (mk0 rfl) rfl) ?_
  refine Eq.trans (q_iadd dL_law_831 (mk0 rfl)) ?_
  refine Eq.trans (script_eq dL_law_832 (mk0 rfl)) (bind_cg fun x832 => ?_)
  refine Eq.trans (q_callV (as := [.int x832]) dL_law_833 (mk0 rfl) rfl rfl rfl (Nat.le_of_ble_eq_true rfl) (Nat.le_of_ble_eq_true rfl)) (bind_cg fun b833 => ?_)
  refine Eq.trans (cI_bind (Or.inl rfl)) (bind_cg fun p833 => ?_)
  show RS (ZZ L xs) (d + 1) mL_law 836 [some (.retAddr 0), some (v1), some (v2), some (.int i3)] [.int p833.2] p833.1 = _
  refine Eq.trans (q_aload_n dL_law_836 (mk0 rfl) rfl (isA_R hv2)) ?_
  refine Eq.trans (q_aload_n dL_law_837 (mk0 rfl) rfl rfl) ?_
  refine Eq.trans (q_iload_n dL_law_838 (mk0 rfl) rfl) ?_
  refine Eq.trans (q_iconst (v := 1) dL_law_839 (mk0 rfl) rfl) ?_
  refine Eq.trans (q_iadd dL_law_840 (mk0 rfl)) ?_
  refine Eq.trans (script_eq dL_law_841 (mk0 rfl)) (bind_cg fun x841 => ?_)
  refine Eq.trans (q_callV (as := [.int x841]) dL_law_842 (mk0 rfl) rfl rfl rfl (Nat.le_of_ble_eq_true rfl) (Nat.le_of_ble_eq_true rfl)) (bind_cg fun b842 => ?_)
  refine Eq.trans (cI_bind (Or.inl rfl)) (bind_cg fun p842 => ?_)
  show RS (ZZ L xs) (d + 1) mL_law 845 [some (.retAddr 0), some (v1), some (v2), some (.int i3)] [.int p842.2, .int p833.2] p842.1 = _
  refine Eq.trans (q_icmp_eq (t := 1266) dL_law_845 (mk0 rfl) rfl) (ite_cg ?_ ?_)
  · rfl
  · refine Eq.trans (q_iconst (v := 0) dL_law_848 (mk0 rfl) rfl) ?_
    exact q_zreturn dL_law_849 (mk0 rfl) rfl
set_option maxRecDepth 20000 in
theorem bL_law_850 {L : Nat} {xs : Nat → Int32} (d : Nat) (v1 : Value) (v2 : Value) (i3 : Int32) (hv1 : isR v1 = true) (hv2 : isR v2 = true) (ph : PH) : RS (ZZ L xs) (d + 1) mL_law 850 [some (.retAddr 0), some (v1), some (v2), some (.int i3)] [] ph = (scr L xs (i3 + 1)).bind fun x855 => (scr L xs (i3 + 2)).bind fun x860 => (iO ph v1 12).bind fun b861 => (cI (ZZ L xs) d mX12_post [.ref b861, .int x855, .int x860] ph).bind fun p861 => (scr L xs (i3 + 1)).bind fun x869 => (scr L xs (i3 + 2)).bind fun x874 => (iO p861.1 v2 13).bind fun b875 => (cI (ZZ L xs) d mX13_post [.ref b875, .int x869, .int x874] p861.1).bind fun p875 => if (p861.2 : Int32) = p875.2 then RS (ZZ L xs) (d + 1) mL_law 1266 [some (.retAddr 0), some (v1), some (v2), some (.int i3)] [] p875.1 else if (0 : Int32) = 0 ∨ (0 : Int32) = 1 then some (p875.1, some (.int 0)) else none := by
  refine Eq.trans (q_aload_n dL_law_850 (mk0 rfl) rfl (isA_R hv1)) ?_
  refine Eq.trans (q_aload_n dL_law_851 (mk0 rfl) rfl rfl) ?_
  refine Eq.trans (q_iload_n dL_law_852 (mk0 rfl) rfl) ?_
  refine Eq.trans (q_iconst (v := 1) dL_law_853 (mk0 rfl) rfl) ?_
  refine Eq.trans (q_iadd dL_law_854 (mk0 rfl)) ?_
  refine Eq.trans (script_eq dL_law_855 (mk0 rfl)) (bind_cg fun x855 => ?_)
  refine Eq.trans (q_aload_n dL_law_856 (mk0 rfl) rfl rfl) ?_
  refine Eq.trans (q_iload_n dL_law_857 (mk0 rfl) rfl) ?_
  refine Eq.trans (q_iconst (v := 2) dL_law_858 (mk0 rfl) rfl) ?_
  refine Eq.trans (q_iadd dL_law_859 (mk0 rfl)) ?_
  refine Eq.trans (script_eq dL_law_860 (mk0 rfl)) (bind_cg fun x860 => ?_)
  refine Eq.trans (q_callV (as := [.int x855, .int x860]) dL_law_861 (mk0 rfl) rfl rfl rfl (Nat.le_of_ble_eq_true rfl) (Nat.le_of_ble_eq_true rfl)) (bind_cg fun b861 => ?_)
  refine Eq.trans (cI_bind (Or.inl rfl)) (bind_cg fun p861 => ?_)
  show RS (ZZ L xs) (d + 1) mL_law 864 [some (.retAddr 0), some (v1), some (v2), some (.int i3)] [.int p861.2] p861.1 = _
  refine Eq.trans (q_aload_n dL_law_864 (mk0 rfl) rfl (isA_R hv2)) ?_
  refine Eq.trans (q_aload_n dL_law_865 (mk0 rfl) rfl rfl) ?_
  refine Eq.trans (q_iload_n dL_law_866 (mk0 rfl) rfl) ?_
  refine Eq.trans (q_iconst (v := 1) dL_law_867 (mk0 rfl) rfl) ?_
  refine Eq.trans (q_iadd dL_law_868 (mk0 rfl)) ?_
  refine Eq.trans (script_eq dL_law_869 (mk0 rfl)) (bind_cg fun x869 => ?_)
  refine Eq.trans (q_aload_n dL_law_870 (mk0 rfl) rfl rfl) ?_
  refine Eq.trans (q_iload_n dL_law_871 (mk0 rfl) rfl) ?_
  refine Eq.trans (q_iconst (v := 2) dL_law_872 (mk0 rfl) rfl) ?_
  refine Eq.trans (q_iadd dL_law_873 (mk0 rfl)) ?_
  refine Eq.trans (script_eq dL_law_874 (mk0 rfl)) (bind_cg fun x874 => ?_)
  refine Eq.trans (q_callV (as := [.int x869, .int x874]) dL_law_875 (mk0 rfl) rfl rfl rfl (Nat.le_of_ble_eq_true rfl) (Nat.le_of_ble_eq_true rfl)) (bind_cg fun b875 => ?_)
  refine Eq.trans (cI_bind (Or.inl rfl)) (bind_cg fun p875 => ?_)
  show RS (ZZ L xs) (d + 1) mL_law 878 [some (.retAddr 0), some (v1), some (v2), some (.int i3)] [.int p875.2, .int p861.2] p875.1 = _
  refine Eq.trans (q_icmp_eq (t := 1266) dL_law_878 (mk0 rfl) rfl) (ite_cg ?_ ?_)
  · rfl
  · refine Eq.trans (q_iconst (v := 0) dL_law_881 (mk0 rfl) rfl) ?_
    exact q_zreturn dL_law_882 (mk0 rfl) rfl
set_option maxRecDepth 20000 in
theorem bL_law_883 {L : Nat} {xs : Nat → Int32} (d : Nat) (v1 : Value) (v2 : Value) (i3 : Int32) (hv1 : isR v1 = true) (hv2 : isR v2 = true) (ph : PH) : RS (ZZ L xs) (d + 1) mL_law 883 [some (.retAddr 0), some (v1), some (v2), some (.int i3)] [] ph = (scr L xs (i3 + 1)).bind fun x888 => (scr L xs (i3 + 2)).bind fun x893 => (scr L xs (i3 + 3)).bind fun x898 => (scr L xs (i3 + 4)).bind fun x903 => (iO ph v1 12).bind fun b904 => (cI (ZZ L xs) d mX12_game [.ref b904, .int x888, .int x893, .int x898, .int x903] ph).bind fun p904 => (scr L xs (i3 + 1)).bind fun x912 => (scr L xs (i3 + 2)).bind fun x917 => (scr L xs (i3 + 3)).bind fun x922 => (scr L xs (i3 + 4)).bind fun x927 => (iO p904.1 v2 13).bind fun b928 => (cI (ZZ L xs) d mX13_game [.ref b928, .int x912, .int x917, .int x922, .int x927] p904.1).bind fun p928 => if (p904.2 : Int32) = p928.2 then RS (ZZ L xs) (d + 1) mL_law 1266 [some (.retAddr 0), some (v1), some (v2), some (.int i3)] [] p928.1 else if (0 : Int32) = 0 ∨ (0 : Int32) = 1 then some (p928.1, some (.int 0)) else none := by
  refine Eq.trans (q_aload_n dL_law_883 (mk0 rfl) rfl (isA_R hv1)) ?_
  refine Eq.trans (q_aload_n dL_law_884 (mk0 rfl) rfl rfl) ?_
  refine Eq.trans (q_iload_n dL_law_885 (mk0 rfl) rfl) ?_
  refine Eq.trans (q_iconst (v := 1) dL_law_886 (mk0 rfl) rfl) ?_
  refine Eq.trans (q_iadd dL_law_887 (mk0 rfl)) ?_
  refine Eq.trans (script_eq dL_law_888 (mk0 rfl)) (bind_cg fun x888 => ?_)
  refine Eq.trans (q_aload_n dL_law_889 (mk0 rfl) rfl rfl) ?_
  refine Eq.trans (q_iload_n dL_law_890 (mk0 rfl) rfl) ?_
  refine Eq.trans (q_iconst (v := 2) dL_law_891 (mk0 rfl) rfl) ?_
  refine Eq.trans (q_iadd dL_law_892 (mk0 rfl)) ?_
  refine Eq.trans (script_eq dL_law_893 (mk0 rfl)) (bind_cg fun x893 => ?_)
  refine Eq.trans (q_aload_n dL_law_894 (mk0 rfl) rfl rfl) ?_
  refine Eq.trans (q_iload_n dL_law_895 (mk0 rfl) rfl) ?_
  refine Eq.trans (q_iconst (v := 3) dL_law_896 (mk0 rfl) rfl) ?_
  refine Eq.trans (q_iadd dL_law_897 (mk0 rfl)) ?_
  refine Eq.trans (script_eq dL_law_898 (mk0 rfl)) (bind_cg fun x898 => ?_)
  refine Eq.trans (q_aload_n dL_law_899 (mk0 rfl) rfl rfl) ?_
  refine Eq.trans (q_iload_n dL_law_900 (mk0 rfl) rfl) ?_
  refine Eq.trans (q_iconst (v := 4) dL_law_901 (mk0 rfl) rfl) ?_
  refine Eq.trans (q_iadd dL_law_902 (mk0 rfl)) ?_
  refine Eq.trans (script_eq dL_law_903 (mk0 rfl)) (bind_cg fun x903 => ?_)
  refine Eq.trans (q_callV (as := [.int x888, .int x893, .int x898, .int x903]) dL_law_904 (mk0 rfl) rfl rfl rfl (Nat.le_of_ble_eq_true rfl) (Nat.le_of_ble_eq_true rfl)) (bind_cg fun b904 => ?_)
  refine Eq.trans (cI_bind (Or.inl rfl)) (bind_cg fun p904 => ?_)
  show RS (ZZ L xs) (d + 1) mL_law 907 [some (.retAddr 0), some (v1), some (v2), some (.int i3)] [.int p904.2] p904.1 = _
  refine Eq.trans (q_aload_n dL_law_907 (mk0 rfl) rfl (isA_R hv2)) ?_
  refine Eq.trans (q_aload_n dL_law_908 (mk0 rfl) rfl rfl) ?_
  refine Eq.trans (q_iload_n dL_law_909 (mk0 rfl) rfl) ?_
  refine Eq.trans (q_iconst (v := 1) dL_law_910 (mk0 rfl) rfl) ?_
  refine Eq.trans (q_iadd dL_law_911 (mk0 rfl)) ?_
  refine Eq.trans (script_eq dL_law_912 (mk0 rfl)) (bind_cg fun x912 => ?_)
  refine Eq.trans (q_aload_n dL_law_913 (mk0 rfl) rfl rfl) ?_
  refine Eq.trans (q_iload_n dL_law_914 (mk0 rfl) rfl) ?_
  refine Eq.trans (q_iconst (v := 2) dL_law_915 (mk0 rfl) rfl) ?_
  refine Eq.trans (q_iadd dL_law_916 (mk0 rfl)) ?_
  refine Eq.trans (script_eq dL_law_917 (mk0 rfl)) (bind_cg fun x917 => ?_)
  refine Eq.trans (q_aload_n dL_law_918 (mk0 rfl) rfl rfl) ?_
  refine Eq.trans (q_iload_n dL_law_919 (mk0 rfl) rfl) ?_
  refine Eq.trans (q_iconst (v := 3) dL_law_920 (mk0 rfl) rfl) ?_
  refine Eq.trans (q_iadd dL_law_921 (mk0 rfl)) ?_
  refine Eq.trans (script_eq dL_law_922 (mk0 rfl)) (bind_cg fun x922 => ?_)
  refine Eq.trans (q_aload_n dL_law_923 (mk0 rfl) rfl rfl) ?_
  refine Eq.trans (q_iload_n dL_law_924 (mk0 rfl) rfl) ?_
  refine Eq.trans (q_iconst (v := 4) dL_law_925 (mk0 rfl) rfl) ?_
  refine Eq.trans (q_iadd dL_law_926 (mk0 rfl)) ?_
  refine Eq.trans (script_eq dL_law_927 (mk0 rfl)) (bind_cg fun x927 => ?_)
  refine Eq.trans (q_callV (as := [.int x912, .int x917, .int x922, .int x927]) dL_law_928 (mk0 rfl) rfl rfl rfl (Nat.le_of_ble_eq_true rfl) (Nat.le_of_ble_eq_true rfl)) (bind_cg fun b928 => ?_)
  refine Eq.trans (cI_bind (Or.inl rfl)) (bind_cg fun p928 => ?_)
  show RS (ZZ L xs) (d + 1) mL_law 931 [some (.retAddr 0), some (v1), some (v2), some (.int i3)] [.int p928.2, .int p904.2] p928.1 = _
  refine Eq.trans (q_icmp_eq (t := 1266) dL_law_931 (mk0 rfl) rfl) (ite_cg ?_ ?_)
  · rfl
  · refine Eq.trans (q_iconst (v := 0) dL_law_934 (mk0 rfl) rfl) ?_
    exact q_zreturn dL_law_935 (mk0 rfl) rfl
set_option maxRecDepth 20000 in
theorem bL_law_936 {L : Nat} {xs : Nat → Int32} (d : Nat) (v1 : Value) (v2 : Value) (i3 : Int32) (hv1 : isR v1 = true) (hv2 : isR v2 = true) (ph : PH) : RS (ZZ L xs) (d + 1) mL_law 936 [some (.retAddr 0), some (v1), some (v2), some (.int i3)] [] ph = (scr L xs (i3 + 1)).bind fun x941 => (scr L xs (i3 + 2)).bind fun x946 => (scr L xs (i3 + 3)).bind fun x951 => (scr L xs (i3 + 4)).bind fun x956 => (iO ph v1 12).bind fun b957 => (cI (ZZ L xs) d mX12_rests [.ref b957, .int x941, .int x946, .int x951, .int x956] ph).bind fun p957 => (scr L xs (i3 + 1)).bind fun x965 => (scr L xs (i3 + 2)).bind fun x970 => (scr L xs (i3 + 3)).bind fun x975 => (scr L xs (i3 + 4)).bind fun x980 => (iO p957.1 v2 13).bind fun b981 => (cI (ZZ L xs) d mX13_rests [.ref b981, .int x965, .int x970, .int x975, .int x980] p957.1).bind fun p981 => if (p957.2 : Int32) = p981.2 then RS (ZZ L xs) (d + 1) mL_law 1266 [some (.retAddr 0), some (v1), some (v2), some (.int i3)] [] p981.1 else if (0 : Int32) = 0 ∨ (0 : Int32) = 1 then some (p981.1, some (.int 0)) else none := by
  refine Eq.trans (q_aload_n dL_law_936 (mk0 rfl) rfl (isA_R hv1)) ?_
  refine Eq.trans (q_aload_n dL_law_937 (mk0 rfl) rfl rfl) ?_
  refine Eq.trans (q_iload_n dL_law_938 (mk0 rfl) rfl) ?_
  refine Eq.trans (q_iconst (v := 1) dL_law_939 (mk0 rfl) rfl) ?_
  refine Eq.trans (q_iadd dL_law_940 (mk0 rfl)) ?_
  refine Eq.trans (script_eq dL_law_941 (mk0 rfl)) (bind_cg fun x941 => ?_)
  refine Eq.trans (q_aload_n dL_law_942 (mk0 rfl) rfl rfl) ?_
  refine Eq.trans (q_iload_n dL_law_943 (mk0 rfl) rfl) ?_
  refine Eq.trans (q_iconst (v := 2) dL_law_944 (mk0 rfl) rfl) ?_
  refine Eq.trans (q_iadd dL_law_945 (mk0 rfl)) ?_
  refine Eq.trans (script_eq dL_law_946 (mk0 rfl)) (bind_cg fun x946 => ?_)
  refine Eq.trans (q_aload_n dL_law_947 (mk0 rfl) rfl rfl) ?_
  refine Eq.trans (q_iload_n dL_law_948 (mk0 rfl) rfl) ?_
  refine Eq.trans (q_iconst (v := 3) dL_law_949 (mk0 rfl) rfl) ?_
  refine Eq.trans (q_iadd dL_law_950 (mk0 rfl)) ?_
  refine Eq.trans (script_eq dL_law_951 (mk0 rfl)) (bind_cg fun x951 => ?_)
  refine Eq.trans (q_aload_n dL_law_952 (mk0 rfl) rfl rfl) ?_
  refine Eq.trans (q_iload_n dL_law_953 (mk0 rfl) rfl) ?_
  refine Eq.trans (q_iconst (v := 4) dL_law_954 (mk0 rfl) rfl) ?_
  refine Eq.trans (q_iadd dL_law_955 (mk0 rfl)) ?_
  refine Eq.trans (script_eq dL_law_956 (mk0 rfl)) (bind_cg fun x956 => ?_)
  refine Eq.trans (q_callV (as := [.int x941, .int x946, .int x951, .int x956]) dL_law_957 (mk0 rfl) rfl rfl rfl (Nat.le_of_ble_eq_true rfl) (Nat.le_of_ble_eq_true rfl)) (bind_cg fun b957 => ?_)
  refine Eq.trans (cI_bind (Or.inl rfl)) (bind_cg fun p957 => ?_)
  show RS (ZZ L xs) (d + 1) mL_law 960 [some (.retAddr 0), some (v1), some (v2), some (.int i3)] [.int p957.2] p957.1 = _
  refine Eq.trans (q_aload_n dL_law_960 (mk0 rfl) rfl (isA_R hv2)) ?_
  refine Eq.trans (q_aload_n dL_law_961 (mk0 rfl) rfl rfl) ?_
  refine Eq.trans (q_iload_n dL_law_962 (mk0 rfl) rfl) ?_
  refine Eq.trans (q_iconst (v := 1) dL_law_963 (mk0 rfl) rfl) ?_
  refine Eq.trans (q_iadd dL_law_964 (mk0 rfl)) ?_
  refine Eq.trans (script_eq dL_law_965 (mk0 rfl)) (bind_cg fun x965 => ?_)
  refine Eq.trans (q_aload_n dL_law_966 (mk0 rfl) rfl rfl) ?_
  refine Eq.trans (q_iload_n dL_law_967 (mk0 rfl) rfl) ?_
  refine Eq.trans (q_iconst (v := 2) dL_law_968 (mk0 rfl) rfl) ?_
  refine Eq.trans (q_iadd dL_law_969 (mk0 rfl)) ?_
  refine Eq.trans (script_eq dL_law_970 (mk0 rfl)) (bind_cg fun x970 => ?_)
  refine Eq.trans (q_aload_n dL_law_971 (mk0 rfl) rfl rfl) ?_
  refine Eq.trans (q_iload_n dL_law_972 (mk0 rfl) rfl) ?_
  refine Eq.trans (q_iconst (v := 3) dL_law_973 (mk0 rfl) rfl) ?_
  refine Eq.trans (q_iadd dL_law_974 (mk0 rfl)) ?_
  refine Eq.trans (script_eq dL_law_975 (mk0 rfl)) (bind_cg fun x975 => ?_)
  refine Eq.trans (q_aload_n dL_law_976 (mk0 rfl) rfl rfl) ?_
  refine Eq.trans (q_iload_n dL_law_977 (mk0 rfl) rfl) ?_
  refine Eq.trans (q_iconst (v := 4) dL_law_978 (mk0 rfl) rfl) ?_
  refine Eq.trans (q_iadd dL_law_979 (mk0 rfl)) ?_
  refine Eq.trans (script_eq dL_law_980 (mk0 rfl)) (bind_cg fun x980 => ?_)
  refine Eq.trans (q_callV (as := [.int x965, .int x970, .int x975, .int x980]) dL_law_981 (mk0 rfl) rfl rfl rfl (Nat.le_of_ble_eq_true rfl) (Nat.le_of_ble_eq_true rfl)) (bind_cg fun b981 => ?_)
  refine Eq.trans (cI_bind (Or.inl rfl)) (bind_cg fun p981 => ?_)
  show RS (ZZ L xs) (d + 1) mL_law 984 [some (.retAddr 0), some (v1), some (v2), some (.int i3)] [.int p981.2, .int p957.2] p981.1 = _
  refine Eq.trans (q_icmp_eq (t := 1266) dL_law_984 (mk0 rfl) rfl) (ite_cg ?_ ?_)
  · rfl
  · refine Eq.trans (q_iconst (v := 0) dL_law_987 (mk0 rfl) rfl) ?_
    exact q_zreturn dL_law_988 (mk0 rfl) rfl
set_option maxRecDepth 20000 in
theorem bL_law_989 {L : Nat} {xs : Nat → Int32} (d : Nat) (v1 : Value) (v2 : Value) (i3 : Int32) (hv1 : isR v1 = true) (hv2 : isR v2 = true) (ph : PH) : RS (ZZ L xs) (d + 1) mL_law 989 [some (.retAddr 0), some (v1), some (v2), some (.int i3)] [] ph = (scr L xs (i3 + 1)).bind fun x994 => (scr L xs (i3 + 2)).bind fun x999 => (iO ph v1 12).bind fun b1000 => (cI (ZZ L xs) d mX12_pence [.ref b1000, .int x994, .int x999] ph).bind fun p1000 => (scr L xs (i3 + 1)).bind fun x1008 => (scr L xs (i3 + 2)).bind fun x1013 => (iO p1000.1 v2 13).bind fun b1014 => (cI (ZZ L xs) d mX13_pence [.ref b1014, .int x1008, .int x1013] p1000.1).bind fun p1014 => if (p1000.2 : Int32) = p1014.2 then RS (ZZ L xs) (d + 1) mL_law 1266 [some (.retAddr 0), some (v1), some (v2), some (.int i3)] [] p1014.1 else if (0 : Int32) = 0 ∨ (0 : Int32) = 1 then some (p1014.1, some (.int 0)) else none := by
  refine Eq.trans (q_aload_n dL_law_989 (mk0 rfl) rfl (isA_R hv1)) ?_
  refine Eq.trans (q_aload_n dL_law_990 (mk0 rfl) rfl rfl) ?_
  refine Eq.trans (q_iload_n dL_law_991 (mk0 rfl) rfl) ?_
  refine Eq.trans (q_iconst (v := 1) dL_law_992 (mk0 rfl) rfl) ?_
  refine Eq.trans (q_iadd dL_law_993 (mk0 rfl)) ?_
  refine Eq.trans (script_eq dL_law_994 (mk0 rfl)) (bind_cg fun x994 => ?_)
  refine Eq.trans (q_aload_n dL_law_995 (mk0 rfl) rfl rfl) ?_
  refine Eq.trans (q_iload_n dL_law_996 (mk0 rfl) rfl) ?_
  refine Eq.trans (q_iconst (v := 2) dL_law_997 (mk0 rfl) rfl) ?_
  refine Eq.trans (q_iadd dL_law_998 (mk0 rfl)) ?_
  refine Eq.trans (script_eq dL_law_999 (mk0 rfl)) (bind_cg fun x999 => ?_)
  refine Eq.trans (q_callV (as := [.int x994, .int x999]) dL_law_1000 (mk0 rfl) rfl rfl rfl (Nat.le_of_ble_eq_true rfl) (Nat.le_of_ble_eq_true rfl)) (bind_cg fun b1000 => ?_)
  refine Eq.trans (cI_bind (Or.inl rfl)) (bind_cg fun p1000 => ?_)
  show RS (ZZ L xs) (d + 1) mL_law 1003 [some (.retAddr 0), some (v1), some (v2), some (.int i3)] [.int p1000.2] p1000.1 = _
  refine Eq.trans (q_aload_n dL_law_1003 (mk0 rfl) rfl (isA_R hv2)) ?_
  refine Eq.trans (q_aload_n dL_law_1004 (mk0 rfl) rfl rfl) ?_
  refine Eq.trans (q_iload_n dL_law_1005 (mk0 rfl) rfl) ?_
  refine Eq.trans (q_iconst (v := 1) dL_law_1006 (mk0 rfl) rfl) ?_
  refine Eq.trans (q_iadd dL_law_1007 (mk0 rfl)) ?_
  refine Eq.trans (script_eq dL_law_1008 (mk0 rfl)) (bind_cg fun x1008 => ?_)
  refine Eq.trans (q_aload_n dL_law_1009 (mk0 rfl) rfl rfl) ?_
  refine Eq.trans (q_iload_n dL_law_1010 (mk0 rfl) rfl) ?_
  refine Eq.trans (q_iconst (v := 2) dL_law_1011 (mk0 rfl) rfl) ?_
  refine Eq.trans (q_iadd dL_law_1012 (mk0 rfl)) ?_
  refine Eq.trans (script_eq dL_law_1013 (mk0 rfl)) (bind_cg fun x1013 => ?_)
  refine Eq.trans (q_callV (as := [.int x1008, .int x1013]) dL_law_1014 (mk0 rfl) rfl rfl rfl (Nat.le_of_ble_eq_true rfl) (Nat.le_of_ble_eq_true rfl)) (bind_cg fun b1014 => ?_)
  refine Eq.trans (cI_bind (Or.inl rfl)) (bind_cg fun p1014 => ?_)
  show RS (ZZ L xs) (d + 1) mL_law 1017 [some (.retAddr 0), some (v1), some (v2), some (.int i3)] [.int p1014.2, .int p1000.2] p1014.1 = _
  refine Eq.trans (q_icmp_eq (t := 1266) dL_law_1017 (mk0 rfl) rfl) (ite_cg ?_ ?_)
  · rfl
  · refine Eq.trans (q_iconst (v := 0) dL_law_1020 (mk0 rfl) rfl) ?_
    exact q_zreturn dL_law_1021 (mk0 rfl) rfl
set_option maxRecDepth 20000 in
theorem bL_law_1022 {L : Nat} {xs : Nat → Int32} (d : Nat) (v1 : Value) (v2 : Value) (i3 : Int32) (hv1 : isR v1 = true) (hv2 : isR v2 = true) (ph : PH) : RS (ZZ L xs) (d + 1) mL_law 1022 [some (.retAddr 0), some (v1), some (v2), some (.int i3)] [] ph = (scr L xs (i3 + 1)).bind fun x1027 => (scr L xs (i3 + 2)).bind fun x1032 => (scr L xs (i3 + 3)).bind fun x1037 => (iO ph v1 12).bind fun b1038 => (cI (ZZ L xs) d mX12_note [.ref b1038, .int x1027, .int x1032, .int x1037] ph).bind fun p1038 => (scr L xs (i3 + 1)).bind fun x1046 => (scr L xs (i3 + 2)).bind fun x1051 => (scr L xs (i3 + 3)).bind fun x1056 => (iO p1038.1 v2 13).bind fun b1057 => (cI (ZZ L xs) d mX13_note [.ref b1057, .int x1046, .int x1051, .int x1056] p1038.1).bind fun p1057 => if (p1038.2 : Int32) = p1057.2 then RS (ZZ L xs) (d + 1) mL_law 1266 [some (.retAddr 0), some (v1), some (v2), some (.int i3)] [] p1057.1 else if (0 : Int32) = 0 ∨ (0 : Int32) = 1 then some (p1057.1, some (.int 0)) else none := by
  refine Eq.trans (q_aload_n dL_law_1022 (mk0 rfl) rfl (isA_R hv1)) ?_
  refine Eq.trans (q_aload_n dL_law_1023 (mk0 rfl) rfl rfl) ?_
  refine Eq.trans (q_iload_n dL_law_1024 (mk0 rfl) rfl) ?_
  refine Eq.trans (q_iconst (v := 1) dL_law_1025 (mk0 rfl) rfl) ?_
  refine Eq.trans (q_iadd dL_law_1026 (mk0 rfl)) ?_
  refine Eq.trans (script_eq dL_law_1027 (mk0 rfl)) (bind_cg fun x1027 => ?_)
  refine Eq.trans (q_aload_n dL_law_1028 (mk0 rfl) rfl rfl) ?_
  refine Eq.trans (q_iload_n dL_law_1029 (mk0 rfl) rfl) ?_
  refine Eq.trans (q_iconst (v := 2) dL_law_1030 (mk0 rfl) rfl) ?_
  refine Eq.trans (q_iadd dL_law_1031 (mk0 rfl)) ?_
  refine Eq.trans (script_eq dL_law_1032 (mk0 rfl)) (bind_cg fun x1032 => ?_)
  refine Eq.trans (q_aload_n dL_law_1033 (mk0 rfl) rfl rfl) ?_
  refine Eq.trans (q_iload_n dL_law_1034 (mk0 rfl) rfl) ?_
  refine Eq.trans (q_iconst (v := 3) dL_law_1035 (mk0 rfl) rfl) ?_
  refine Eq.trans (q_iadd dL_law_1036 (mk0 rfl)) ?_
  refine Eq.trans (script_eq dL_law_1037 (mk0 rfl)) (bind_cg fun x1037 => ?_)
  refine Eq.trans (q_callV (as := [.int x1027, .int x1032, .int x1037]) dL_law_1038 (mk0 rfl) rfl rfl rfl (Nat.le_of_ble_eq_true rfl) (Nat.le_of_ble_eq_true rfl)) (bind_cg fun b1038 => ?_)
  refine Eq.trans (cI_bind (Or.inl rfl)) (bind_cg fun p1038 => ?_)
  show RS (ZZ L xs) (d + 1) mL_law 1041 [some (.retAddr 0), some (v1), some (v2), some (.int i3)] [.int p1038.2] p1038.1 = _
  refine Eq.trans (q_aload_n dL_law_1041 (mk0 rfl) rfl (isA_R hv2)) ?_
  refine Eq.trans (q_aload_n dL_law_1042 (mk0 rfl) rfl rfl) ?_
  refine Eq.trans (q_iload_n dL_law_1043 (mk0 rfl) rfl) ?_
  refine Eq.trans (q_iconst (v := 1) dL_law_1044 (mk0 rfl) rfl) ?_
  refine Eq.trans (q_iadd dL_law_1045 (mk0 rfl)) ?_
  refine Eq.trans (script_eq dL_law_1046 (mk0 rfl)) (bind_cg fun x1046 => ?_)
  refine Eq.trans (q_aload_n dL_law_1047 (mk0 rfl) rfl rfl) ?_
  refine Eq.trans (q_iload_n dL_law_1048 (mk0 rfl) rfl) ?_
  refine Eq.trans (q_iconst (v := 2) dL_law_1049 (mk0 rfl) rfl) ?_
  refine Eq.trans (q_iadd dL_law_1050 (mk0 rfl)) ?_
  refine Eq.trans (script_eq dL_law_1051 (mk0 rfl)) (bind_cg fun x1051 => ?_)
  refine Eq.trans (q_aload_n dL_law_1052 (mk0 rfl) rfl rfl) ?_
  refine Eq.trans (q_iload_n dL_law_1053 (mk0 rfl) rfl) ?_
  refine Eq.trans (q_iconst (v := 3) dL_law_1054 (mk0 rfl) rfl) ?_
  refine Eq.trans (q_iadd dL_law_1055 (mk0 rfl)) ?_
  refine Eq.trans (script_eq dL_law_1056 (mk0 rfl)) (bind_cg fun x1056 => ?_)
  refine Eq.trans (q_callV (as := [.int x1046, .int x1051, .int x1056]) dL_law_1057 (mk0 rfl) rfl rfl rfl (Nat.le_of_ble_eq_true rfl) (Nat.le_of_ble_eq_true rfl)) (bind_cg fun b1057 => ?_)
  refine Eq.trans (cI_bind (Or.inl rfl)) (bind_cg fun p1057 => ?_)
  show RS (ZZ L xs) (d + 1) mL_law 1060 [some (.retAddr 0), some (v1), some (v2), some (.int i3)] [.int p1057.2, .int p1038.2] p1057.1 = _
  refine Eq.trans (q_icmp_eq (t := 1266) dL_law_1060 (mk0 rfl) rfl) (ite_cg ?_ ?_)
  · rfl
  · refine Eq.trans (q_iconst (v := 0) dL_law_1063 (mk0 rfl) rfl) ?_
    exact q_zreturn dL_law_1064 (mk0 rfl) rfl
set_option maxRecDepth 20000 in
theorem bL_law_1065 {L : Nat} {xs : Nat → Int32} (d : Nat) (v1 : Value) (v2 : Value) (i3 : Int32) (hv1 : isR v1 = true) (hv2 : isR v2 = true) (ph : PH) : RS (ZZ L xs) (d + 1) mL_law 1065 [some (.retAddr 0), some (v1), some (v2), some (.int i3)] [] ph = (scr L xs (i3 + 1)).bind fun x1070 => (iO ph v1 12).bind fun b1071 => (cI (ZZ L xs) d mX12_ruled [.ref b1071, .int x1070] ph).bind fun p1071 => (scr L xs (i3 + 1)).bind fun x1079 => (iO p1071.1 v2 13).bind fun b1080 => (cI (ZZ L xs) d mX13_ruled [.ref b1080, .int x1079] p1071.1).bind fun p1080 => if (p1071.2 : Int32) = p1080.2 then RS (ZZ L xs) (d + 1) mL_law 1266 [some (.retAddr 0), some (v1), some (v2), some (.int i3)] [] p1080.1 else if (0 : Int32) = 0 ∨ (0 : Int32) = 1 then some (p1080.1, some (.int 0)) else none := by
  refine Eq.trans (q_aload_n dL_law_1065 (mk0 rfl) rfl (isA_R hv1)) ?_
  refine Eq.trans (q_aload_n dL_law_1066 (mk0 rfl) rfl rfl) ?_
  refine Eq.trans (q_iload_n dL_law_1067 (mk0 rfl) rfl) ?_
  refine Eq.trans (q_iconst (v := 1) dL_law_1068 (mk0 rfl) rfl) ?_
  refine Eq.trans (q_iadd dL_law_1069 (mk0 rfl)) ?_
  refine Eq.trans (script_eq dL_law_1070 (mk0 rfl)) (bind_cg fun x1070 => ?_)
  refine Eq.trans (q_callV (as := [.int x1070]) dL_law_1071 (mk0 rfl) rfl rfl rfl (Nat.le_of_ble_eq_true rfl) (Nat.le_of_ble_eq_true rfl)) (bind_cg fun b1071 => ?_)
  refine Eq.trans (cI_bind (Or.inl rfl)) (bind_cg fun p1071 => ?_)
  show RS (ZZ L xs) (d + 1) mL_law 1074 [some (.retAddr 0), some (v1), some (v2), some (.int i3)] [.int p1071.2] p1071.1 = _
  refine Eq.trans (q_aload_n dL_law_1074 (mk0 rfl) rfl (isA_R hv2)) ?_
  refine Eq.trans (q_aload_n dL_law_1075 (mk0 rfl) rfl rfl) ?_
  refine Eq.trans (q_iload_n dL_law_1076 (mk0 rfl) rfl) ?_
  refine Eq.trans (q_iconst (v := 1) dL_law_1077 (mk0 rfl) rfl) ?_
  refine Eq.trans (q_iadd dL_law_1078 (mk0 rfl)) ?_
  refine Eq.trans (script_eq dL_law_1079 (mk0 rfl)) (bind_cg fun x1079 => ?_)
  refine Eq.trans (q_callV (as := [.int x1079]) dL_law_1080 (mk0 rfl) rfl rfl rfl (Nat.le_of_ble_eq_true rfl) (Nat.le_of_ble_eq_true rfl)) (bind_cg fun b1080 => ?_)
  refine Eq.trans (cI_bind (Or.inl rfl)) (bind_cg fun p1080 => ?_)
  show RS (ZZ L xs) (d + 1) mL_law 1083 [some (.retAddr 0), some (v1), some (v2), some (.int i3)] [.int p1080.2, .int p1071.2] p1080.1 = _
  refine Eq.trans (q_icmp_eq (t := 1266) dL_law_1083 (mk0 rfl) rfl) (ite_cg ?_ ?_)
  · rfl
  · refine Eq.trans (q_iconst (v := 0) dL_law_1086 (mk0 rfl) rfl) ?_
    exact q_zreturn dL_law_1087 (mk0 rfl) rfl
set_option maxRecDepth 20000 in
theorem bL_law_1088 {L : Nat} {xs : Nat → Int32} (d : Nat) (v1 : Value) (v2 : Value) (i3 : Int32) (hv1 : isR v1 = true) (hv2 : isR v2 = true) (ph : PH) : RS (ZZ L xs) (d + 1) mL_law 1088 [some (.retAddr 0), some (v1), some (v2), some (.int i3)] [] ph = (scr L xs (i3 + 1)).bind fun x1093 => (scr L xs (i3 + 2)).bind fun x1098 => (iO ph v1 12).bind fun b1099 => (cI (ZZ L xs) d mX12_look [.ref b1099, .int x1093, .int x1098] ph).bind fun p1099 => (scr L xs (i3 + 1)).bind fun x1107 => (scr L xs (i3 + 2)).bind fun x1112 => (iO p1099.1 v2 13).bind fun b1113 => (cI (ZZ L xs) d mX13_look [.ref b1113, .int x1107, .int x1112] p1099.1).bind fun p1113 => if (p1099.2 : Int32) = p1113.2 then RS (ZZ L xs) (d + 1) mL_law 1266 [some (.retAddr 0), some (v1), some (v2), some (.int i3)] [] p1113.1 else if (0 : Int32) = 0 ∨ (0 : Int32) = 1 then some (p1113.1, some (.int 0)) else none := by
  refine Eq.trans (q_aload_n dL_law_1088 (mk0 rfl) rfl (isA_R hv1)) ?_
  refine Eq.trans (q_aload_n dL_law_1089 (mk0 rfl) rfl rfl) ?_
  refine Eq.trans (q_iload_n dL_law_1090 (mk0 rfl) rfl) ?_
  refine Eq.trans (q_iconst (v := 1) dL_law_1091 (mk0 rfl) rfl) ?_
  refine Eq.trans (q_iadd dL_law_1092 (mk0 rfl)) ?_
  refine Eq.trans (script_eq dL_law_1093 (mk0 rfl)) (bind_cg fun x1093 => ?_)
  refine Eq.trans (q_aload_n dL_law_1094 (mk0 rfl) rfl rfl) ?_
  refine Eq.trans (q_iload_n dL_law_1095 (mk0 rfl) rfl) ?_
  refine Eq.trans (q_iconst (v := 2) dL_law_1096 (mk0 rfl) rfl) ?_
  refine Eq.trans (q_iadd dL_law_1097 (mk0 rfl)) ?_
  refine Eq.trans (script_eq dL_law_1098 (mk0 rfl)) (bind_cg fun x1098 => ?_)
  refine Eq.trans (q_callV (as := [.int x1093, .int x1098]) dL_law_1099 (mk0 rfl) rfl rfl rfl (Nat.le_of_ble_eq_true rfl) (Nat.le_of_ble_eq_true rfl)) (bind_cg fun b1099 => ?_)
  refine Eq.trans (cI_bind (Or.inl rfl)) (bind_cg fun p1099 => ?_)
  show RS (ZZ L xs) (d + 1) mL_law 1102 [some (.retAddr 0), some (v1), some (v2), some (.int i3)] [.int p1099.2] p1099.1 = _
  refine Eq.trans (q_aload_n dL_law_1102 (mk0 rfl) rfl (isA_R hv2)) ?_
  refine Eq.trans (q_aload_n dL_law_1103 (mk0 rfl) rfl rfl) ?_
  refine Eq.trans (q_iload_n dL_law_1104 (mk0 rfl) rfl) ?_
  refine Eq.trans (q_iconst (v := 1) dL_law_1105 (mk0 rfl) rfl) ?_
  refine Eq.trans (q_iadd dL_law_1106 (mk0 rfl)) ?_
  refine Eq.trans (script_eq dL_law_1107 (mk0 rfl)) (bind_cg fun x1107 => ?_)
  refine Eq.trans (q_aload_n dL_law_1108 (mk0 rfl) rfl rfl) ?_
  refine Eq.trans (q_iload_n dL_law_1109 (mk0 rfl) rfl) ?_
  refine Eq.trans (q_iconst (v := 2) dL_law_1110 (mk0 rfl) rfl) ?_
  refine Eq.trans (q_iadd dL_law_1111 (mk0 rfl)) ?_
  refine Eq.trans (script_eq dL_law_1112 (mk0 rfl)) (bind_cg fun x1112 => ?_)
  refine Eq.trans (q_callV (as := [.int x1107, .int x1112]) dL_law_1113 (mk0 rfl) rfl rfl rfl (Nat.le_of_ble_eq_true rfl) (Nat.le_of_ble_eq_true rfl)) (bind_cg fun b1113 => ?_)
  refine Eq.trans (cI_bind (Or.inl rfl)) (bind_cg fun p1113 => ?_)
  show RS (ZZ L xs) (d + 1) mL_law 1116 [some (.retAddr 0), some (v1), some (v2), some (.int i3)] [.int p1113.2, .int p1099.2] p1113.1 = _
  refine Eq.trans (q_icmp_eq (t := 1266) dL_law_1116 (mk0 rfl) rfl) (ite_cg ?_ ?_)
  · rfl
  · refine Eq.trans (q_iconst (v := 0) dL_law_1119 (mk0 rfl) rfl) ?_
    exact q_zreturn dL_law_1120 (mk0 rfl) rfl
set_option maxRecDepth 20000 in
theorem bL_law_1121 {L : Nat} {xs : Nat → Int32} (d : Nat) (v1 : Value) (v2 : Value) (i3 : Int32) (hv1 : isR v1 = true) (hv2 : isR v2 = true) (ph : PH) : RS (ZZ L xs) (d + 1) mL_law 1121 [some (.retAddr 0), some (v1), some (v2), some (.int i3)] [] ph = (scr L xs (i3 + 1)).bind fun x1126 => (iO ph v1 12).bind fun b1127 => (cI (ZZ L xs) d mX12_seed [.ref b1127, .int x1126] ph).bind fun p1127 => (scr L xs (i3 + 1)).bind fun x1135 => (iO p1127.1 v2 13).bind fun b1136 => (cI (ZZ L xs) d mX13_seed [.ref b1136, .int x1135] p1127.1).bind fun p1136 => if (p1127.2 : Int32) = p1136.2 then RS (ZZ L xs) (d + 1) mL_law 1266 [some (.retAddr 0), some (v1), some (v2), some (.int i3)] [] p1136.1 else if (0 : Int32) = 0 ∨ (0 : Int32) = 1 then some (p1136.1, some (.int 0)) else none := by
  refine Eq.trans (q_aload_n dL_law_1121 (mk0 rfl) rfl (isA_R hv1)) ?_
  refine Eq.trans (q_aload_n dL_law_1122 (mk0 rfl) rfl rfl) ?_
  refine Eq.trans (q_iload_n dL_law_1123 (mk0 rfl) rfl) ?_
  refine Eq.trans (q_iconst (v := 1) dL_law_1124 (mk0 rfl) rfl) ?_
  refine Eq.trans (q_iadd dL_law_1125 (mk0 rfl)) ?_
  refine Eq.trans (script_eq dL_law_1126 (mk0 rfl)) (bind_cg fun x1126 => ?_)
  refine Eq.trans (q_callV (as := [.int x1126]) dL_law_1127 (mk0 rfl) rfl rfl rfl (Nat.le_of_ble_eq_true rfl) (Nat.le_of_ble_eq_true rfl)) (bind_cg fun b1127 => ?_)
  refine Eq.trans (cI_bind (Or.inl rfl)) (bind_cg fun p1127 => ?_)
  show RS (ZZ L xs) (d + 1) mL_law 1130 [some (.retAddr 0), some (v1), some (v2), some (.int i3)] [.int p1127.2] p1127.1 = _
  refine Eq.trans (q_aload_n dL_law_1130 (mk0 rfl) rfl (isA_R hv2)) ?_
  refine Eq.trans (q_aload_n dL_law_1131 (mk0 rfl) rfl rfl) ?_
  refine Eq.trans (q_iload_n dL_law_1132 (mk0 rfl) rfl) ?_
  refine Eq.trans (q_iconst (v := 1) dL_law_1133 (mk0 rfl) rfl) ?_
  refine Eq.trans (q_iadd dL_law_1134 (mk0 rfl)) ?_
  refine Eq.trans (script_eq dL_law_1135 (mk0 rfl)) (bind_cg fun x1135 => ?_)
  refine Eq.trans (q_callV (as := [.int x1135]) dL_law_1136 (mk0 rfl) rfl rfl rfl (Nat.le_of_ble_eq_true rfl) (Nat.le_of_ble_eq_true rfl)) (bind_cg fun b1136 => ?_)
  refine Eq.trans (cI_bind (Or.inl rfl)) (bind_cg fun p1136 => ?_)
  show RS (ZZ L xs) (d + 1) mL_law 1139 [some (.retAddr 0), some (v1), some (v2), some (.int i3)] [.int p1136.2, .int p1127.2] p1136.1 = _
  refine Eq.trans (q_icmp_eq (t := 1266) dL_law_1139 (mk0 rfl) rfl) (ite_cg ?_ ?_)
  · rfl
  · refine Eq.trans (q_iconst (v := 0) dL_law_1142 (mk0 rfl) rfl) ?_
    exact q_zreturn dL_law_1143 (mk0 rfl) rfl
set_option maxRecDepth 20000 in
theorem bL_law_1144 {L : Nat} {xs : Nat → Int32} (d : Nat) (v1 : Value) (v2 : Value) (i3 : Int32) (hv1 : isR v1 = true) (hv2 : isR v2 = true) (ph : PH) : RS (ZZ L xs) (d + 1) mL_law 1144 [some (.retAddr 0), some (v1), some (v2), some (.int i3)] [] ph = (scr L xs (i3 + 1)).bind fun x1149 => (scr L xs (i3 + 2)).bind fun x1154 => (scr L xs (i3 + 3)).bind fun x1159 => (scr L xs (i3 + 4)).bind fun x1164 => (iO ph v1 12).bind fun b1165 => (cI (ZZ L xs) d mX12_markets [.ref b1165, .int x1149, .int x1154, .int x1159, .int x1164] ph).bind fun p1165 => (scr L xs (i3 + 1)).bind fun x1173 => (scr L xs (i3 + 2)).bind fun x1178 => (scr L xs (i3 + 3)).bind fun x1183 => (scr L xs (i3 + 4)).bind fun x1188 => (iO p1165.1 v2 13).bind fun b1189 => (cI (ZZ L xs) d mX13_markets [.ref b1189, .int x1173, .int x1178, .int x1183, .int x1188] p1165.1).bind fun p1189 => if (p1165.2 : Int32) = p1189.2 then RS (ZZ L xs) (d + 1) mL_law 1266 [some (.retAddr 0), some (v1), some (v2), some (.int i3)] [] p1189.1 else if (0 : Int32) = 0 ∨ (0 : Int32) = 1 then some (p1189.1, some (.int 0)) else none := by
  refine Eq.trans (q_aload_n dL_law_1144 (mk0 rfl) rfl (isA_R hv1)) ?_
  refine Eq.trans (q_aload_n dL_law_1145 (mk0 rfl) rfl rfl) ?_
  refine Eq.trans (q_iload_n dL_law_1146 (mk0 rfl) rfl) ?_
  refine Eq.trans (q_iconst (v := 1) dL_law_1147 (mk0 rfl) rfl) ?_
  refine Eq.trans (q_iadd dL_law_1148 (mk0 rfl)) ?_
  refine Eq.trans (script_eq dL_law_1149 (mk0 rfl)) (bind_cg fun x1149 => ?_)
  refine Eq.trans (q_aload_n dL_law_1150 (mk0 rfl) rfl rfl) ?_
  refine Eq.trans (q_iload_n dL_law_1151 (mk0 rfl) rfl) ?_
  refine Eq.trans (q_iconst (v := 2) dL_law_1152 (mk0 rfl) rfl) ?_
  refine Eq.trans (q_iadd dL_law_1153 (mk0 rfl)) ?_
  refine Eq.trans (script_eq dL_law_1154 (mk0 rfl)) (bind_cg fun x1154 => ?_)
  refine Eq.trans (q_aload_n dL_law_1155 (mk0 rfl) rfl rfl) ?_
  refine Eq.trans (q_iload_n dL_law_1156 (mk0 rfl) rfl) ?_
  refine Eq.trans (q_iconst (v := 3) dL_law_1157 (mk0 rfl) rfl) ?_
  refine Eq.trans (q_iadd dL_law_1158 (mk0 rfl)) ?_
  refine Eq.trans (script_eq dL_law_1159 (mk0 rfl)) (bind_cg fun x1159 => ?_)
  refine Eq.trans (q_aload_n dL_law_1160 (mk0 rfl) rfl rfl) ?_
  refine Eq.trans (q_iload_n dL_law_1161 (mk0 rfl) rfl) ?_
  refine Eq.trans (q_iconst (v := 4) dL_law_1162 (mk0 rfl) rfl) ?_
  refine Eq.trans (q_iadd dL_law_1163 (mk0 rfl)) ?_
  refine Eq.trans (script_eq dL_law_1164 (mk0 rfl)) (bind_cg fun x1164 => ?_)
  refine Eq.trans (q_callV (as := [.int x1149, .int x1154, .int x1159, .int x1164]) dL_law_1165 (mk0 rfl) rfl rfl rfl (Nat.le_of_ble_eq_true rfl) (Nat.le_of_ble_eq_true rfl)) (bind_cg fun b1165 => ?_)
  refine Eq.trans (cI_bind (Or.inl rfl)) (bind_cg fun p1165 => ?_)
  show RS (ZZ L xs) (d + 1) mL_law 1168 [some (.retAddr 0), some (v1), some (v2), some (.int i3)] [.int p1165.2] p1165.1 = _
  refine Eq.trans (q_aload_n dL_law_1168 (mk0 rfl) rfl (isA_R hv2)) ?_
  refine Eq.trans (q_aload_n dL_law_1169 (mk0 rfl) rfl rfl) ?_
  refine Eq.trans (q_iload_n dL_law_1170 (mk0 rfl) rfl) ?_
  refine Eq.trans (q_iconst (v := 1) dL_law_1171 (mk0 rfl) rfl) ?_
  refine Eq.trans (q_iadd dL_law_1172 (mk0 rfl)) ?_
  refine Eq.trans (script_eq dL_law_1173 (mk0 rfl)) (bind_cg fun x1173 => ?_)
  refine Eq.trans (q_aload_n dL_law_1174 (mk0 rfl) rfl rfl) ?_
  refine Eq.trans (q_iload_n dL_law_1175 (mk0 rfl) rfl) ?_
  refine Eq.trans (q_iconst (v := 2) dL_law_1176 (mk0 rfl) rfl) ?_
  refine Eq.trans (q_iadd dL_law_1177 (mk0 rfl)) ?_
  refine Eq.trans (script_eq dL_law_1178 (mk0 rfl)) (bind_cg fun x1178 => ?_)
  refine Eq.trans (q_aload_n dL_law_1179 (mk0 rfl) rfl rfl) ?_
  refine Eq.trans (q_iload_n dL_law_1180 (mk0 rfl) rfl) ?_
  refine Eq.trans (q_iconst (v := 3) dL_law_1181 (mk0 rfl) rfl) ?_
  refine Eq.trans (q_iadd dL_law_1182 (mk0 rfl)) ?_
  refine Eq.trans (script_eq dL_law_1183 (mk0 rfl)) (bind_cg fun x1183 => ?_)
  refine Eq.trans (q_aload_n dL_law_1184 (mk0 rfl) rfl rfl) ?_
  refine Eq.trans (q_iload_n dL_law_1185 (mk0 rfl) rfl) ?_
  refine Eq.trans (q_iconst (v := 4) dL_law_1186 (mk0 rfl) rfl) ?_
  refine Eq.trans (q_iadd dL_law_1187 (mk0 rfl)) ?_
  refine Eq.trans (script_eq dL_law_1188 (mk0 rfl)) (bind_cg fun x1188 => ?_)
  refine Eq.trans (q_callV (as := [.int x1173, .int x1178, .int x1183, .int x1188]) dL_law_1189 (mk0 rfl) rfl rfl rfl (Nat.le_of_ble_eq_true rfl) (Nat.le_of_ble_eq_true rfl)) (bind_cg fun b1189 => ?_)
  refine Eq.trans (cI_bind (Or.inl rfl)) (bind_cg fun p1189 => ?_)
  show RS (ZZ L xs) (d + 1) mL_law 1192 [some (.retAddr 0), some (v1), some (v2), some (.int i3)] [.int p1189.2, .int p1165.2] p1189.1 = _
  refine Eq.trans (q_icmp_eq (t := 1266) dL_law_1192 (mk0 rfl) rfl) (ite_cg ?_ ?_)
  · rfl
  · refine Eq.trans (q_iconst (v := 0) dL_law_1195 (mk0 rfl) rfl) ?_
    exact q_zreturn dL_law_1196 (mk0 rfl) rfl
set_option maxRecDepth 20000 in
theorem bL_law_1197 {L : Nat} {xs : Nat → Int32} (d : Nat) (v1 : Value) (v2 : Value) (i3 : Int32) (hv1 : isR v1 = true) (hv2 : isR v2 = true) (ph : PH) : RS (ZZ L xs) (d + 1) mL_law 1197 [some (.retAddr 0), some (v1), some (v2), some (.int i3)] [] ph = (scr L xs (i3 + 1)).bind fun x1202 => (iO ph v1 12).bind fun b1203 => (cI (ZZ L xs) d mX12_count [.ref b1203, .int x1202] ph).bind fun p1203 => (scr L xs (i3 + 1)).bind fun x1211 => (iO p1203.1 v2 13).bind fun b1212 => (cI (ZZ L xs) d mX13_count [.ref b1212, .int x1211] p1203.1).bind fun p1212 => if (p1203.2 : Int32) = p1212.2 then RS (ZZ L xs) (d + 1) mL_law 1266 [some (.retAddr 0), some (v1), some (v2), some (.int i3)] [] p1212.1 else if (0 : Int32) = 0 ∨ (0 : Int32) = 1 then some (p1212.1, some (.int 0)) else none := by
  refine Eq.trans (q_aload_n dL_law_1197 (mk0 rfl) rfl (isA_R hv1)) ?_
  refine Eq.trans (q_aload_n dL_law_1198 (mk0 rfl) rfl rfl) ?_
  refine Eq.trans (q_iload_n dL_law_1199 (mk0 rfl) rfl) ?_
  refine Eq.trans (q_iconst (v := 1) dL_law_1200 (mk0 rfl) rfl) ?_
  refine Eq.trans (q_iadd dL_law_1201 (mk0 rfl)) ?_
  refine Eq.trans (script_eq dL_law_1202 (mk0 rfl)) (bind_cg fun x1202 => ?_)
  refine Eq.trans (q_callV (as := [.int x1202]) dL_law_1203 (mk0 rfl) rfl rfl rfl (Nat.le_of_ble_eq_true rfl) (Nat.le_of_ble_eq_true rfl)) (bind_cg fun b1203 => ?_)
  refine Eq.trans (cI_bind (Or.inl rfl)) (bind_cg fun p1203 => ?_)
  show RS (ZZ L xs) (d + 1) mL_law 1206 [some (.retAddr 0), some (v1), some (v2), some (.int i3)] [.int p1203.2] p1203.1 = _
  refine Eq.trans (q_aload_n dL_law_1206 (mk0 rfl) rfl (isA_R hv2)) ?_
  refine Eq.trans (q_aload_n dL_law_1207 (mk0 rfl) rfl rfl) ?_
  refine Eq.trans (q_iload_n dL_law_1208 (mk0 rfl) rfl) ?_
  refine Eq.trans (q_iconst (v := 1) dL_law_1209 (mk0 rfl) rfl) ?_
  refine Eq.trans (q_iadd dL_law_1210 (mk0 rfl)) ?_
  refine Eq.trans (script_eq dL_law_1211 (mk0 rfl)) (bind_cg fun x1211 => ?_)
  refine Eq.trans (q_callV (as := [.int x1211]) dL_law_1212 (mk0 rfl) rfl rfl rfl (Nat.le_of_ble_eq_true rfl) (Nat.le_of_ble_eq_true rfl)) (bind_cg fun b1212 => ?_)
  refine Eq.trans (cI_bind (Or.inl rfl)) (bind_cg fun p1212 => ?_)
  show RS (ZZ L xs) (d + 1) mL_law 1215 [some (.retAddr 0), some (v1), some (v2), some (.int i3)] [.int p1212.2, .int p1203.2] p1212.1 = _
  refine Eq.trans (q_icmp_eq (t := 1266) dL_law_1215 (mk0 rfl) rfl) (ite_cg ?_ ?_)
  · rfl
  · refine Eq.trans (q_iconst (v := 0) dL_law_1218 (mk0 rfl) rfl) ?_
    exact q_zreturn dL_law_1219 (mk0 rfl) rfl
set_option maxRecDepth 20000 in
theorem bL_law_1220 {L : Nat} {xs : Nat → Int32} (d : Nat) (v1 : Value) (v2 : Value) (i3 : Int32) (hv1 : isR v1 = true) (hv2 : isR v2 = true) (ph : PH) : RS (ZZ L xs) (d + 1) mL_law 1220 [some (.retAddr 0), some (v1), some (v2), some (.int i3)] [] ph = (scr L xs (i3 + 1)).bind fun x1225 => (iO ph v1 12).bind fun b1226 => (cI (ZZ L xs) d mX12_image [.ref b1226, .int x1225] ph).bind fun p1226 => (scr L xs (i3 + 1)).bind fun x1234 => (iO p1226.1 v2 13).bind fun b1235 => (cI (ZZ L xs) d mX13_image [.ref b1235, .int x1234] p1226.1).bind fun p1235 => if (p1226.2 : Int32) = p1235.2 then RS (ZZ L xs) (d + 1) mL_law 1266 [some (.retAddr 0), some (v1), some (v2), some (.int i3)] [] p1235.1 else if (0 : Int32) = 0 ∨ (0 : Int32) = 1 then some (p1235.1, some (.int 0)) else none := by
  refine Eq.trans (q_aload_n dL_law_1220 (mk0 rfl) rfl (isA_R hv1)) ?_
  refine Eq.trans (q_aload_n dL_law_1221 (mk0 rfl) rfl rfl) ?_
  refine Eq.trans (q_iload_n dL_law_1222 (mk0 rfl) rfl) ?_
  refine Eq.trans (q_iconst (v := 1) dL_law_1223 (mk0 rfl) rfl) ?_
  refine Eq.trans (q_iadd dL_law_1224 (mk0 rfl)) ?_
  refine Eq.trans (script_eq dL_law_1225 (mk0 rfl)) (bind_cg fun x1225 => ?_)
  refine Eq.trans (q_callV (as := [.int x1225]) dL_law_1226 (mk0 rfl) rfl rfl rfl (Nat.le_of_ble_eq_true rfl) (Nat.le_of_ble_eq_true rfl)) (bind_cg fun b1226 => ?_)
  refine Eq.trans (cI_bind (Or.inl rfl)) (bind_cg fun p1226 => ?_)
  show RS (ZZ L xs) (d + 1) mL_law 1229 [some (.retAddr 0), some (v1), some (v2), some (.int i3)] [.int p1226.2] p1226.1 = _
  refine Eq.trans (q_aload_n dL_law_1229 (mk0 rfl) rfl (isA_R hv2)) ?_
  refine Eq.trans (q_aload_n dL_law_1230 (mk0 rfl) rfl rfl) ?_
  refine Eq.trans (q_iload_n dL_law_1231 (mk0 rfl) rfl) ?_
  refine Eq.trans (q_iconst (v := 1) dL_law_1232 (mk0 rfl) rfl) ?_
  refine Eq.trans (q_iadd dL_law_1233 (mk0 rfl)) ?_
  refine Eq.trans (script_eq dL_law_1234 (mk0 rfl)) (bind_cg fun x1234 => ?_)
  refine Eq.trans (q_callV (as := [.int x1234]) dL_law_1235 (mk0 rfl) rfl rfl rfl (Nat.le_of_ble_eq_true rfl) (Nat.le_of_ble_eq_true rfl)) (bind_cg fun b1235 => ?_)
  refine Eq.trans (cI_bind (Or.inl rfl)) (bind_cg fun p1235 => ?_)
  show RS (ZZ L xs) (d + 1) mL_law 1238 [some (.retAddr 0), some (v1), some (v2), some (.int i3)] [.int p1235.2, .int p1226.2] p1235.1 = _
  refine Eq.trans (q_icmp_eq (t := 1266) dL_law_1238 (mk0 rfl) rfl) (ite_cg ?_ ?_)
  · rfl
  · refine Eq.trans (q_iconst (v := 0) dL_law_1241 (mk0 rfl) rfl) ?_
    exact q_zreturn dL_law_1242 (mk0 rfl) rfl
set_option maxRecDepth 20000 in
theorem bL_law_1243 {L : Nat} {xs : Nat → Int32} (d : Nat) (v1 : Value) (v2 : Value) (i3 : Int32) (hv1 : isR v1 = true) (hv2 : isR v2 = true) (ph : PH) : RS (ZZ L xs) (d + 1) mL_law 1243 [some (.retAddr 0), some (v1), some (v2), some (.int i3)] [] ph = (scr L xs (i3 + 1)).bind fun x1248 => (iO ph v1 12).bind fun b1249 => (cI (ZZ L xs) d mX12_back [.ref b1249, .int x1248] ph).bind fun p1249 => (scr L xs (i3 + 1)).bind fun x1257 => (iO p1249.1 v2 13).bind fun b1258 => (cI (ZZ L xs) d mX13_back [.ref b1258, .int x1257] p1249.1).bind fun p1258 => if (p1249.2 : Int32) = p1258.2 then RS (ZZ L xs) (d + 1) mL_law 1266 [some (.retAddr 0), some (v1), some (v2), some (.int i3)] [] p1258.1 else if (0 : Int32) = 0 ∨ (0 : Int32) = 1 then some (p1258.1, some (.int 0)) else none := by
  refine Eq.trans (q_aload_n dL_law_1243 (mk0 rfl) rfl (isA_R hv1)) ?_
  refine Eq.trans (q_aload_n dL_law_1244 (mk0 rfl) rfl rfl) ?_
  refine Eq.trans (q_iload_n dL_law_1245 (mk0 rfl) rfl) ?_
  refine Eq.trans (q_iconst (v := 1) dL_law_1246 (mk0 rfl) rfl) ?_
  refine Eq.trans (q_iadd dL_law_1247 (mk0 rfl)) ?_
  refine Eq.trans (script_eq dL_law_1248 (mk0 rfl)) (bind_cg fun x1248 => ?_)
  refine Eq.trans (q_callV (as := [.int x1248]) dL_law_1249 (mk0 rfl) rfl rfl rfl (Nat.le_of_ble_eq_true rfl) (Nat.le_of_ble_eq_true rfl)) (bind_cg fun b1249 => ?_)
  refine Eq.trans (cI_bind (Or.inl rfl)) (bind_cg fun p1249 => ?_)
  show RS (ZZ L xs) (d + 1) mL_law 1252 [some (.retAddr 0), some (v1), some (v2), some (.int i3)] [.int p1249.2] p1249.1 = _
  refine Eq.trans (q_aload_n dL_law_1252 (mk0 rfl) rfl (isA_R hv2)) ?_
  refine Eq.trans (q_aload_n dL_law_1253 (mk0 rfl) rfl rfl) ?_
  refine Eq.trans (q_iload_n dL_law_1254 (mk0 rfl) rfl) ?_
  refine Eq.trans (q_iconst (v := 1) dL_law_1255 (mk0 rfl) rfl) ?_
  refine Eq.trans (q_iadd dL_law_1256 (mk0 rfl)) ?_
  refine Eq.trans (script_eq dL_law_1257 (mk0 rfl)) (bind_cg fun x1257 => ?_)
  refine Eq.trans (q_callV (as := [.int x1257]) dL_law_1258 (mk0 rfl) rfl rfl rfl (Nat.le_of_ble_eq_true rfl) (Nat.le_of_ble_eq_true rfl)) (bind_cg fun b1258 => ?_)
  refine Eq.trans (cI_bind (Or.inl rfl)) (bind_cg fun p1258 => ?_)
  show RS (ZZ L xs) (d + 1) mL_law 1261 [some (.retAddr 0), some (v1), some (v2), some (.int i3)] [.int p1258.2, .int p1249.2] p1258.1 = _
  refine Eq.trans (q_icmp_eq (t := 1266) dL_law_1261 (mk0 rfl) rfl) (ite_cg ?_ ?_)
  · rfl
  · refine Eq.trans (q_iconst (v := 0) dL_law_1264 (mk0 rfl) rfl) ?_
    exact q_zreturn dL_law_1265 (mk0 rfl) rfl
set_option maxRecDepth 20000 in
theorem bL_law_1266 {L : Nat} {xs : Nat → Int32} (d : Nat) (v1 : Value) (v2 : Value) (i3 : Int32) (hv1 : isR v1 = true) (hv2 : isR v2 = true) (ph : PH) : RS (ZZ L xs) (d + 1) mL_law 1266 [some (.retAddr 0), some (v1), some (v2), some (.int i3)] [] ph = RS (ZZ L xs) (d + 1) mL_law 18 [some (.retAddr 0), some (v1), some (v2), some (.int (i3 + 6))] [] ph := by
  refine Eq.trans (q_iinc (v := 6) (lv2 := [some (.retAddr 0), some (v1), some (v2), some (.int (i3 + 6))]) dL_law_1266 (mk0 rfl) rfl rfl (by simp [s1, s2, s0, (cat_R hv2)] <;> rfl)) ?_
  refine Eq.trans (q_goto (t := 18) dL_law_1269 (mk0 rfl) rfl) ?_
  rfl
