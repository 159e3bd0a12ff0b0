set_option maxRecDepth 20000 in
theorem bX13_init_0 {L : Nat} {xs : Nat → Int32} (d : Nat) (o : Nat) (ph : PH) : RS (ZZ L xs) (d + 1) mX13_init 0 [some (.ref o)] [] ph = (wI (ph ++ [nwAr 0 10]) (.ref ph.length) 0 0).bind fun h12 => (wI h12 (.ref ph.length) 1 0).bind fun h16 => (wI h16 (.ref ph.length) 2 0).bind fun h20 => (wI h20 (.ref ph.length) 3 0).bind fun h24 => (wI h24 (.ref ph.length) 4 0).bind fun h28 => (wI h28 (.ref ph.length) 5 ((-1))).bind fun h32 => (wI h32 (.ref ph.length) 6 0).bind fun h37 => (wI h37 (.ref ph.length) 7 0).bind fun h42 => (wI h42 (.ref ph.length) 8 0).bind fun h47 => (wI h47 (.ref ph.length) 9 ((-1))).bind fun h52 => (fP h52 (.ref o) 13 1 (.ref ph.length)).bind fun h53 => (fP (h53 ++ [nwAr 0 6]) (.ref o) 13 2 (.ref h53.length)).bind fun h61 => (fP (h61 ++ [nwAr 0 6]) (.ref o) 13 3 (.ref h61.length)).bind fun h69 => (fP (h69 ++ [nwAr 0 6]) (.ref o) 13 4 (.ref h69.length)).bind fun h77 => (fP (h77 ++ [nwAr 0 6]) (.ref o) 13 5 (.ref h77.length)).bind fun h85 => (fP (h85 ++ [nwAr 0 6]) (.ref o) 13 6 (.ref h85.length)).bind fun h93 => (fP (h93 ++ [nwAr 0 5]) (.ref o) 13 7 (.ref h93.length)).bind fun h100 => (fP (h100 ++ [nwAr 0 30]) (.ref o) 13 8 (.ref h100.length)).bind fun h108 => (fP (h108 ++ [nwAr 0 8]) (.ref o) 13 9 (.ref h108.length)).bind fun h116 => (fP (h116 ++ [nwAr 0 6]) (.ref o) 13 10 (.ref h116.length)).bind fun h124 => (fP (h124 ++ [nwAr 0 5]) (.ref o) 13 11 (.ref h124.length)).bind fun h131 => (fP (h131 ++ [nwAr 0 5]) (.ref o) 13 12 (.ref h131.length)).bind fun h138 => (fP (h138 ++ [nwAr 0 5]) (.ref o) 13 13 (.ref h138.length)).bind fun h145 => (fP (h145 ++ [nwAr 0 10]) (.ref o) 13 14 (.ref h145.length)).bind fun h153 => (fP (h153 ++ [nwAr 0 10]) (.ref o) 13 15 (.ref h153.length)).bind fun h161 => (fP (h161 ++ [nwAr 0 10]) (.ref o) 13 16 (.ref h161.length)).bind fun h169 => (fP (h169 ++ [nwAr 0 6]) (.ref o) 13 17 (.ref h169.length)).bind fun h177 => (fP (h177 ++ [nwAr 0 6]) (.ref o) 13 18 (.ref h177.length)).bind fun h185 => (fP (h185 ++ [nwAr 0 8]) (.ref o) 13 19 (.ref h185.length)).bind fun h193 => (fP (h193 ++ [nwAr 0 4]) (.ref o) 13 20 (.ref h193.length)).bind fun h200 => (fP (h200 ++ [nwAr 0 6]) (.ref o) 13 21 (.ref h200.length)).bind fun h208 => (fP (h208 ++ [nwAr 0 6]) (.ref o) 13 22 (.ref h208.length)).bind fun h216 => (fP (h216 ++ [nwAr 0 6]) (.ref o) 13 23 (.ref h216.length)).bind fun h224 => (fP (h224 ++ [nwAr 0 5]) (.ref o) 13 24 (.ref h224.length)).bind fun h231 => (fP (h231 ++ [nwAr 0 5]) (.ref o) 13 25 (.ref h231.length)).bind fun h238 => (fP (h238 ++ [nwAr 0 5]) (.ref o) 13 26 (.ref h238.length)).bind fun h245 => (fP (h245 ++ [nwAr 0 8]) (.ref o) 13 27 (.ref h245.length)).bind fun h253 => (fP h253 (.ref o) 13 37 (.int 12)).bind fun h259 => (fP (h259 ++ [nwAr 2 400]) (.ref o) 13 38 (.ref h259.length)).bind fun h268 => (fP (h268 ++ [nwAr 0 1800]) (.ref o) 13 39 (.ref h268.length)).bind fun h277 => (fP (h277 ++ [nwAr 0 1800]) (.ref o) 13 40 (.ref h277.length)).bind fun h286 => (fP (h286 ++ [nwAr 0 6]) (.ref o) 13 41 (.ref h286.length)).bind fun h294 => (fP (h294 ++ [nwAr 0 72]) (.ref o) 13 42 (.ref h294.length)).bind fun h302 => (fP (h302 ++ [nwAr 0 72]) (.ref o) 13 43 (.ref h302.length)).bind fun h310 => (fP (h310 ++ [nwAr 0 72]) (.ref o) 13 44 (.ref h310.length)).bind fun h318 => (fP (h318 ++ [nwAr 0 402]) (.ref o) 13 45 (.ref h318.length)).bind fun h327 => (fP (h327 ++ [nwAr 1 12]) (.ref o) 13 46 (.ref h327.length)).bind fun h335 => (fP (h335 ++ [nwAr 1 300]) (.ref o) 13 47 (.ref h335.length)).bind fun h344 => (fP (h344 ++ [nwAr 0 5]) (.ref o) 13 48 (.ref h344.length)).bind fun h351 => (fP (h351 ++ [nwAr 0 1520]) (.ref o) 13 49 (.ref h351.length)).bind fun h360 => (fP (h360 ++ [nwAr 0 1]) (.ref o) 13 50 (.ref h360.length)).bind fun h367 => (fP (h367 ++ [nwAr 0 512]) (.ref o) 13 54 (.ref h367.length)).bind fun h376 => (fP (h376 ++ [nwAr 0 64]) (.ref o) 13 55 (.ref h376.length)).bind fun h384 => (fP (h384 ++ [nwAr 0 64]) (.ref o) 13 56 (.ref h384.length)).bind fun h392 => (fP (h392 ++ [nwAr 0 305]) (.ref o) 13 57 (.ref h392.length)).bind fun h401 => (fP (h401 ++ [nwAr 0 35]) (.ref o) 13 58 (.ref h401.length)).bind fun h409 => (fP (h409 ++ [nwAr 0 9500]) (.ref o) 13 59 (.ref h409.length)).bind fun h418 => (fP (h418 ++ [nwAr 3 4]) (.ref o) 13 60 (.ref h418.length)).bind fun h425 => some (h425, none) := by
  refine Eq.trans (q_aload_n dX13_init_0 (mk0 rfl) rfl rfl) ?_
  refine Eq.trans (q_obj dX13_init_1 (mk0 rfl) rfl (Nat.le_of_ble_eq_true rfl)) ?_
  refine Eq.trans (q_aload_n dX13_init_4 (mk0 rfl) rfl rfl) ?_
  refine Eq.trans (q_bipush (v := 10) dX13_init_5 (mk0 rfl) rfl) ?_
  refine Eq.trans (q_newarray (t := 0) (e := nwAr 0 10) dX13_init_7 (mk0 rfl) (Or.inl ⟨rfl, rfl⟩) ⟨by decide, by decide⟩ rfl) ?_
  refine Eq.trans (q_dup dX13_init_9 (mk0 rfl) rfl) ?_
  refine Eq.trans (q_iconst (v := 0) dX13_init_10 (mk0 rfl) rfl) ?_
  refine Eq.trans (q_iconst (v := 0) dX13_init_11 (mk0 rfl) rfl) ?_
  refine Eq.trans (q_iastore dX13_init_12 (mk0 rfl)) (bind_cg fun h12 => ?_)
  refine Eq.trans (q_dup dX13_init_13 (mk0 rfl) rfl) ?_
  refine Eq.trans (q_iconst (v := 1) dX13_init_14 (mk0 rfl) rfl) ?_
  refine Eq.trans (q_iconst (v := 0) dX13_init_15 (mk0 rfl) rfl) ?_
  refine Eq.trans (q_iastore dX13_init_16 (mk0 rfl)) (bind_cg fun h16 => ?_)
  refine Eq.trans (q_dup dX13_init_17 (mk0 rfl) rfl) ?_
  refine Eq.trans (q_iconst (v := 2) dX13_init_18 (mk0 rfl) rfl) ?_
  refine Eq.trans (q_iconst (v := 0) dX13_init_19 (mk0 rfl) rfl) ?_
  refine Eq.trans (q_iastore dX13_init_20 (mk0 rfl)) (bind_cg fun h20 => ?_)
  refine Eq.trans (q_dup dX13_init_21 (mk0 rfl) rfl) ?_
  refine Eq.trans (q_iconst (v := 3) dX13_init_22 (mk0 rfl) rfl) ?_
  refine Eq.trans (q_iconst (v := 0) dX13_init_23 (mk0 rfl) rfl) ?_
  refine Eq.trans (q_iastore dX13_init_24 (mk0 rfl)) (bind_cg fun h24 => ?_)
  refine Eq.trans (q_dup dX13_init_25 (mk0 rfl) rfl) ?_
  refine Eq.trans (q_iconst (v := 4) dX13_init_26 (mk0 rfl) rfl) ?_
  refine Eq.trans (q_iconst (v := 0) dX13_init_27 (mk0 rfl) rfl) ?_
  refine Eq.trans (q_iastore dX13_init_28 (mk0 rfl)) (bind_cg fun h28 => ?_)
  refine Eq.trans (q_dup dX13_init_29 (mk0 rfl) rfl) ?_
  refine Eq.trans (q_iconst (v := 5) dX13_init_30 (mk0 rfl) rfl) ?_
  refine Eq.trans (q_iconst (v := (-1)) dX13_init_31 (mk0 rfl) rfl) ?_
  refine Eq.trans (q_iastore dX13_init_32 (mk0 rfl)) (bind_cg fun h32 => ?_)
  refine Eq.trans (q_dup dX13_init_33 (mk0 rfl) rfl) ?_
  refine Eq.trans (q_bipush (v := 6) dX13_init_34 (mk0 rfl) rfl) ?_
  refine Eq.trans (q_iconst (v := 0) dX13_init_36 (mk0 rfl) rfl) ?_
  refine Eq.trans (q_iastore dX13_init_37 (mk0 rfl)) (bind_cg fun h37 => ?_)
  refine Eq.trans (q_dup dX13_init_38 (mk0 rfl) rfl) ?_
  refine Eq.trans (q_bipush (v := 7) dX13_init_39 (mk0 rfl) rfl) ?_
  refine Eq.trans (q_iconst (v := 0) dX13_init_41 (mk0 rfl) rfl) ?_
  refine Eq.trans (q_iastore dX13_init_42 (mk0 rfl)) (bind_cg fun h42 => ?_)
  refine Eq.trans (q_dup dX13_init_43 (mk0 rfl) rfl) ?_
  refine Eq.trans (q_bipush (v := 8) dX13_init_44 (mk0 rfl) rfl) ?_
  refine Eq.trans (q_iconst (v := 0) dX13_init_46 (mk0 rfl) rfl) ?_
  refine Eq.trans (q_iastore dX13_init_47 (mk0 rfl)) (bind_cg fun h47 => ?_)
  refine Eq.trans (q_dup dX13_init_48 (mk0 rfl) rfl) ?_
  refine Eq.trans (q_bipush (v := 9) dX13_init_49 (mk0 rfl) rfl) ?_
  refine Eq.trans (q_iconst (v := (-1)) dX13_init_51 (mk0 rfl) rfl) ?_
  refine Eq.trans (q_iastore dX13_init_52 (mk0 rfl)) (bind_cg fun h52 => ?_)
  refine Eq.trans (q_put (ci := 13) (k := 1) (kd := 2) dX13_init_53 (mk0 rfl) rfl rfl (fun _ => ⟨rfl, rfl⟩)) (bind_cg fun h53 => ?_)
  refine Eq.trans (q_aload_n dX13_init_56 (mk0 rfl) rfl rfl) ?_
  refine Eq.trans (q_bipush (v := 6) dX13_init_57 (mk0 rfl) rfl) ?_
  refine Eq.trans (q_newarray (t := 0) (e := nwAr 0 6) dX13_init_59 (mk0 rfl) (Or.inl ⟨rfl, rfl⟩) ⟨by decide, by decide⟩ rfl) ?_
  refine Eq.trans (q_put (ci := 13) (k := 2) (kd := 2) dX13_init_61 (mk0 rfl) rfl rfl (fun _ => ⟨rfl, rfl⟩)) (bind_cg fun h61 => ?_)
  refine Eq.trans (q_aload_n dX13_init_64 (mk0 rfl) rfl rfl) ?_
  refine Eq.trans (q_bipush (v := 6) dX13_init_65 (mk0 rfl) rfl) ?_
  refine Eq.trans (q_newarray (t := 0) (e := nwAr 0 6) dX13_init_67 (mk0 rfl) (Or.inl ⟨rfl, rfl⟩) ⟨by decide, by decide⟩ rfl) ?_
  refine Eq.trans (q_put (ci := 13) (k := 3) (kd := 2) dX13_init_69 (mk0 rfl) rfl rfl (fun _ => ⟨rfl, rfl⟩)) (bind_cg fun h69 => ?_)
  refine Eq.trans (q_aload_n dX13_init_72 (mk0 rfl) rfl rfl) ?_
  refine Eq.trans (q_bipush (v := 6) dX13_init_73 (mk0 rfl) rfl) ?_
  refine Eq.trans (q_newarray (t := 0) (e := nwAr 0 6) dX13_init_75 (mk0 rfl) (Or.inl ⟨rfl, rfl⟩) ⟨by decide, by decide⟩ rfl) ?_
  refine Eq.trans (q_put (ci := 13) (k := 4) (kd := 2) dX13_init_77 (mk0 rfl) rfl rfl (fun _ => ⟨rfl, rfl⟩)) (bind_cg fun h77 => ?_)
  refine Eq.trans (q_aload_n dX13_init_80 (mk0 rfl) rfl rfl) ?_
  refine Eq.trans (q_bipush (v := 6) dX13_init_81 (mk0 rfl) rfl) ?_
  refine Eq.trans (q_newarray (t := 0) (e := nwAr 0 6) dX13_init_83 (mk0 rfl) (Or.inl ⟨rfl, rfl⟩) ⟨by decide, by decide⟩ rfl) ?_
  refine Eq.trans (q_put (ci := 13) (k := 5) (kd := 2) dX13_init_85 (mk0 rfl) rfl rfl (fun _ => ⟨rfl, rfl⟩)) (bind_cg fun h85 => ?_)
  refine Eq.trans (q_aload_n dX13_init_88 (mk0 rfl) rfl rfl) ?_
  refine Eq.trans (q_bipush (v := 6) dX13_init_89 (mk0 rfl) rfl) ?_
  refine Eq.trans (q_newarray (t := 0) (e := nwAr 0 6) dX13_init_91 (mk0 rfl) (Or.inl ⟨rfl, rfl⟩) ⟨by decide, by decide⟩ rfl) ?_
  refine Eq.trans (q_put (ci := 13) (k := 6) (kd := 2) dX13_init_93 (mk0 rfl) rfl rfl (fun _ => ⟨rfl, rfl⟩)) (bind_cg fun h93 => ?_)
  refine Eq.trans (q_aload_n dX13_init_96 (mk0 rfl) rfl rfl) ?_
  refine Eq.trans (q_iconst (v := 5) dX13_init_97 (mk0 rfl) rfl) ?_
  refine Eq.trans (q_newarray (t := 0) (e := nwAr 0 5) dX13_init_98 (mk0 rfl) (Or.inl ⟨rfl, rfl⟩) ⟨by decide, by decide⟩ rfl) ?_
  refine Eq.trans (q_put (ci := 13) (k := 7) (kd := 2) dX13_init_100 (mk0 rfl) rfl rfl (fun _ => ⟨rfl, rfl⟩)) (bind_cg fun h100 => ?_)
  refine Eq.trans (q_aload_n dX13_init_103 (mk0 rfl) rfl rfl) ?_
  refine Eq.trans (q_bipush (v := 30) dX13_init_104 (mk0 rfl) rfl) ?_
  refine Eq.trans (q_newarray (t := 0) (e := nwAr 0 30) dX13_init_106 (mk0 rfl) (Or.inl ⟨rfl, rfl⟩) ⟨by decide, by decide⟩ rfl) ?_
  refine Eq.trans (q_put (ci := 13) (k := 8) (kd := 2) dX13_init_108 (mk0 rfl) rfl rfl (fun _ => ⟨rfl, rfl⟩)) (bind_cg fun h108 => ?_)
  refine Eq.trans (q_aload_n dX13_init_111 (mk0 rfl) rfl rfl) ?_
  refine Eq.trans (q_bipush (v := 8) dX13_init_112 (mk0 rfl) rfl) ?_
  refine Eq.trans (q_newarray (t := 0) (e := nwAr 0 8) dX13_init_114 (mk0 rfl) (Or.inl ⟨rfl, rfl⟩) ⟨by decide, by decide⟩ rfl) ?_
  refine Eq.trans (q_put (ci := 13) (k := 9) (kd := 2) dX13_init_116 (mk0 rfl) rfl rfl (fun _ => ⟨rfl, rfl⟩)) (bind_cg fun h116 => ?_)
  refine Eq.trans (q_aload_n dX13_init_119 (mk0 rfl) rfl rfl) ?_
  refine Eq.trans (q_bipush (v := 6) dX13_init_120 (mk0 rfl) rfl) ?_
  refine Eq.trans (q_newarray (t := 0) (e := nwAr 0 6) dX13_init_122 (mk0 rfl) (Or.inl ⟨rfl, rfl⟩) ⟨by decide, by decide⟩ rfl) ?_
  refine Eq.trans (q_put (ci := 13) (k := 10) (kd := 2) dX13_init_124 (mk0 rfl) rfl rfl (fun _ => ⟨rfl, rfl⟩)) (bind_cg fun h124 => ?_)
  refine Eq.trans (q_aload_n dX13_init_127 (mk0 rfl) rfl rfl) ?_
  refine Eq.trans (q_iconst (v := 5) dX13_init_128 (mk0 rfl) rfl) ?_
  refine Eq.trans (q_newarray (t := 0) (e := nwAr 0 5) dX13_init_129 (mk0 rfl) (Or.inl ⟨rfl, rfl⟩) ⟨by decide, by decide⟩ rfl) ?_
  refine Eq.trans (q_put (ci := 13) (k := 11) (kd := 2) dX13_init_131 (mk0 rfl) rfl rfl (fun _ => ⟨rfl, rfl⟩)) (bind_cg fun h131 => ?_)
  refine Eq.trans (q_aload_n dX13_init_134 (mk0 rfl) rfl rfl) ?_
  refine Eq.trans (q_iconst (v := 5) dX13_init_135 (mk0 rfl) rfl) ?_
  refine Eq.trans (q_newarray (t := 0) (e := nwAr 0 5) dX13_init_136 (mk0 rfl) (Or.inl ⟨rfl, rfl⟩) ⟨by decide, by decide⟩ rfl) ?_
  refine Eq.trans (q_put (ci := 13) (k := 12) (kd := 2) dX13_init_138 (mk0 rfl) rfl rfl (fun _ => ⟨rfl, rfl⟩)) (bind_cg fun h138 => ?_)
  refine Eq.trans (q_aload_n dX13_init_141 (mk0 rfl) rfl rfl) ?_
  refine Eq.trans (q_iconst (v := 5) dX13_init_142 (mk0 rfl) rfl) ?_
  refine Eq.trans (q_newarray (t := 0) (e := nwAr 0 5) dX13_init_143 (mk0 rfl) (Or.inl ⟨rfl, rfl⟩) ⟨by decide, by decide⟩ rfl) ?_
  refine Eq.trans (q_put (ci := 13) (k := 13) (kd := 2) dX13_init_145 (mk0 rfl) rfl rfl (fun _ => ⟨rfl, rfl⟩)) (bind_cg fun h145 => ?_)
  refine Eq.trans (q_aload_n dX13_init_148 (mk0 rfl) rfl rfl) ?_
  refine Eq.trans (q_bipush (v := 10) dX13_init_149 (mk0 rfl) rfl) ?_
  refine Eq.trans (q_newarray (t := 0) (e := nwAr 0 10) dX13_init_151 (mk0 rfl) (Or.inl ⟨rfl, rfl⟩) ⟨by decide, by decide⟩ rfl) ?_
  refine Eq.trans (q_put (ci := 13) (k := 14) (kd := 2) dX13_init_153 (mk0 rfl) rfl rfl (fun _ => ⟨rfl, rfl⟩)) (bind_cg fun h153 => ?_)
  refine Eq.trans (q_aload_n dX13_init_156 (mk0 rfl) rfl rfl) ?_
  refine Eq.trans (q_bipush (v := 10) dX13_init_157 (mk0 rfl) rfl) ?_
  refine Eq.trans (q_newarray (t := 0) (e := nwAr 0 10) dX13_init_159 (mk0 rfl) (Or.inl ⟨rfl, rfl⟩) ⟨by decide, by decide⟩ rfl) ?_
  refine Eq.trans (q_put (ci := 13) (k := 15) (kd := 2) dX13_init_161 (mk0 rfl) rfl rfl (fun _ => ⟨rfl, rfl⟩)) (bind_cg fun h161 => ?_)
  refine Eq.trans (q_aload_n dX13_init_164 (mk0 rfl) rfl rfl) ?_
  refine Eq.trans (q_bipush (v := 10) dX13_init_165 (mk0 rfl) rfl) ?_
  refine Eq.trans (q_newarray (t := 0) (e := nwAr 0 10) dX13_init_167 (mk0 rfl) (Or.inl ⟨rfl, rfl⟩) ⟨by decide, by decide⟩ rfl) ?_
  refine Eq.trans (q_put (ci := 13) (k := 16) (kd := 2) dX13_init_169 (mk0 rfl) rfl rfl (fun _ => ⟨rfl, rfl⟩)) (bind_cg fun h169 => ?_)
  refine Eq.trans (q_aload_n dX13_init_172 (mk0 rfl) rfl rfl) ?_
  refine Eq.trans (q_bipush (v := 6) dX13_init_173 (mk0 rfl) rfl) ?_
  refine Eq.trans (q_newarray (t := 0) (e := nwAr 0 6) dX13_init_175 (mk0 rfl) (Or.inl ⟨rfl, rfl⟩) ⟨by decide, by decide⟩ rfl) ?_
  refine Eq.trans (q_put (ci := 13) (k := 17) (kd := 2) dX13_init_177 (mk0 rfl) rfl rfl (fun _ => ⟨rfl, rfl⟩)) (bind_cg fun h177 => ?_)
  refine Eq.trans (q_aload_n dX13_init_180 (mk0 rfl) rfl rfl) ?_
  refine Eq.trans (q_bipush (v := 6) dX13_init_181 (mk0 rfl) rfl) ?_
  refine Eq.trans (q_newarray (t := 0) (e := nwAr 0 6) dX13_init_183 (mk0 rfl) (Or.inl ⟨rfl, rfl⟩) ⟨by decide, by decide⟩ rfl) ?_
  refine Eq.trans (q_put (ci := 13) (k := 18) (kd := 2) dX13_init_185 (mk0 rfl) rfl rfl (fun _ => ⟨rfl, rfl⟩)) (bind_cg fun h185 => ?_)
  refine Eq.trans (q_aload_n dX13_init_188 (mk0 rfl) rfl rfl) ?_
  refine Eq.trans (q_bipush (v := 8) dX13_init_189 (mk0 rfl) rfl) ?_
  refine Eq.trans (q_newarray (t := 0) (e := nwAr 0 8) dX13_init_191 (mk0 rfl) (Or.inl ⟨rfl, rfl⟩) ⟨by decide, by decide⟩ rfl) ?_
  refine Eq.trans (q_put (ci := 13) (k := 19) (kd := 2) dX13_init_193 (mk0 rfl) rfl rfl (fun _ => ⟨rfl, rfl⟩)) (bind_cg fun h193 => ?_)
  refine Eq.trans (q_aload_n dX13_init_196 (mk0 rfl) rfl rfl) ?_
  refine Eq.trans (q_iconst (v := 4) dX13_init_197 (mk0 rfl) rfl) ?_
  refine Eq.trans (q_newarray (t := 0) (e := nwAr 0 4) dX13_init_198 (mk0 rfl) (Or.inl ⟨rfl, rfl⟩) ⟨by decide, by decide⟩ rfl) ?_
  refine Eq.trans (q_put (ci := 13) (k := 20) (kd := 2) dX13_init_200 (mk0 rfl) rfl rfl (fun _ => ⟨rfl, rfl⟩)) (bind_cg fun h200 => ?_)
  refine Eq.trans (q_aload_n dX13_init_203 (mk0 rfl) rfl rfl) ?_
  refine Eq.trans (q_bipush (v := 6) dX13_init_204 (mk0 rfl) rfl) ?_
  refine Eq.trans (q_newarray (t := 0) (e := nwAr 0 6) dX13_init_206 (mk0 rfl) (Or.inl ⟨rfl, rfl⟩) ⟨by decide, by decide⟩ rfl) ?_
  refine Eq.trans (q_put (ci := 13) (k := 21) (kd := 2) dX13_init_208 (mk0 rfl) rfl rfl (fun _ => ⟨rfl, rfl⟩)) (bind_cg fun h208 => ?_)
  refine Eq.trans (q_aload_n dX13_init_211 (mk0 rfl) rfl rfl) ?_
  refine Eq.trans (q_bipush (v := 6) dX13_init_212 (mk0 rfl) rfl) ?_
  refine Eq.trans (q_newarray (t := 0) (e := nwAr 0 6) dX13_init_214 (mk0 rfl) (Or.inl ⟨rfl, rfl⟩) ⟨by decide, by decide⟩ rfl) ?_
  refine Eq.trans (q_put (ci := 13) (k := 22) (kd := 2) dX13_init_216 (mk0 rfl) rfl rfl (fun _ => ⟨rfl, rfl⟩)) (bind_cg fun h216 => ?_)
  refine Eq.trans (q_aload_n dX13_init_219 (mk0 rfl) rfl rfl) ?_
  refine Eq.trans (q_bipush (v := 6) dX13_init_220 (mk0 rfl) rfl) ?_
  refine Eq.trans (q_newarray (t := 0) (e := nwAr 0 6) dX13_init_222 (mk0 rfl) (Or.inl ⟨rfl, rfl⟩) ⟨by decide, by decide⟩ rfl) ?_
  refine Eq.trans (q_put (ci := 13) (k := 23) (kd := 2) dX13_init_224 (mk0 rfl) rfl rfl (fun _ => ⟨rfl, rfl⟩)) (bind_cg fun h224 => ?_)
  refine Eq.trans (q_aload_n dX13_init_227 (mk0 rfl) rfl rfl) ?_
  refine Eq.trans (q_iconst (v := 5) dX13_init_228 (mk0 rfl) rfl) ?_
  refine Eq.trans (q_newarray (t := 0) (e := nwAr 0 5) dX13_init_229 (mk0 rfl) (Or.inl ⟨rfl, rfl⟩) ⟨by decide, by decide⟩ rfl) ?_
  refine Eq.trans (q_put (ci := 13) (k := 24) (kd := 2) dX13_init_231 (mk0 rfl) rfl rfl (fun _ => ⟨rfl, rfl⟩)) (bind_cg fun h231 => ?_)
  refine Eq.trans (q_aload_n dX13_init_234 (mk0 rfl) rfl rfl) ?_
  refine Eq.trans (q_iconst (v := 5) dX13_init_235 (mk0 rfl) rfl) ?_
  refine Eq.trans (q_newarray (t := 0) (e := nwAr 0 5) dX13_init_236 (mk0 rfl) (Or.inl ⟨rfl, rfl⟩) ⟨by decide, by decide⟩ rfl) ?_
  refine Eq.trans (q_put (ci := 13) (k := 25) (kd := 2) dX13_init_238 (mk0 rfl) rfl rfl (fun _ => ⟨rfl, rfl⟩)) (bind_cg fun h238 => ?_)
  refine Eq.trans (q_aload_n dX13_init_241 (mk0 rfl) rfl rfl) ?_
  refine Eq.trans (q_iconst (v := 5) dX13_init_242 (mk0 rfl) rfl) ?_
  refine Eq.trans (q_newarray (t := 0) (e := nwAr 0 5) dX13_init_243 (mk0 rfl) (Or.inl ⟨rfl, rfl⟩) ⟨by decide, by decide⟩ rfl) ?_
  refine Eq.trans (q_put (ci := 13) (k := 26) (kd := 2) dX13_init_245 (mk0 rfl) rfl rfl (fun _ => ⟨rfl, rfl⟩)) (bind_cg fun h245 => ?_)
  refine Eq.trans (q_aload_n dX13_init_248 (mk0 rfl) rfl rfl) ?_
  refine Eq.trans (q_bipush (v := 8) dX13_init_249 (mk0 rfl) rfl) ?_
  refine Eq.trans (q_newarray (t := 0) (e := nwAr 0 8) dX13_init_251 (mk0 rfl) (Or.inl ⟨rfl, rfl⟩) ⟨by decide, by decide⟩ rfl) ?_
  refine Eq.trans (q_put (ci := 13) (k := 27) (kd := 2) dX13_init_253 (mk0 rfl) rfl rfl (fun _ => ⟨rfl, rfl⟩)) (bind_cg fun h253 => ?_)
  refine Eq.trans (q_aload_n dX13_init_256 (mk0 rfl) rfl rfl) ?_
  refine Eq.trans (q_bipush (v := 12) dX13_init_257 (mk0 rfl) rfl) ?_
  refine Eq.trans (q_put (ci := 13) (k := 37) (kd := 0) dX13_init_259 (mk0 rfl) rfl rfl (fun h => by cases h)) (bind_cg fun h259 => ?_)
  refine Eq.trans (q_aload_n dX13_init_262 (mk0 rfl) rfl rfl) ?_
  refine Eq.trans (q_sipush (v := 400) dX13_init_263 (mk0 rfl) rfl) ?_
  refine Eq.trans (q_newarray (t := 2) (e := nwAr 2 400) dX13_init_266 (mk0 rfl) (Or.inr (Or.inr (Or.inl ⟨rfl, rfl⟩))) ⟨by decide, by decide⟩ rfl) ?_
  refine Eq.trans (q_put (ci := 13) (k := 38) (kd := 2) dX13_init_268 (mk0 rfl) rfl rfl (fun _ => ⟨rfl, rfl⟩)) (bind_cg fun h268 => ?_)
  refine Eq.trans (q_aload_n dX13_init_271 (mk0 rfl) rfl rfl) ?_
  refine Eq.trans (q_sipush (v := 1800) dX13_init_272 (mk0 rfl) rfl) ?_
  refine Eq.trans (q_newarray (t := 0) (e := nwAr 0 1800) dX13_init_275 (mk0 rfl) (Or.inl ⟨rfl, rfl⟩) ⟨by decide, by decide⟩ rfl) ?_
  refine Eq.trans (q_put (ci := 13) (k := 39) (kd := 2) dX13_init_277 (mk0 rfl) rfl rfl (fun _ => ⟨rfl, rfl⟩)) (bind_cg fun h277 => ?_)
  refine Eq.trans (q_aload_n dX13_init_280 (mk0 rfl) rfl rfl) ?_
  refine Eq.trans (q_sipush (v := 1800) dX13_init_281 (mk0 rfl) rfl) ?_
  refine Eq.trans (q_newarray (t := 0) (e := nwAr 0 1800) dX13_init_284 (mk0 rfl) (Or.inl ⟨rfl, rfl⟩) ⟨by decide, by decide⟩ rfl) ?_
  refine Eq.trans (q_put (ci := 13) (k := 40) (kd := 2) dX13_init_286 (mk0 rfl) rfl rfl (fun _ => ⟨rfl, rfl⟩)) (bind_cg fun h286 => ?_)
  refine Eq.trans (q_aload_n dX13_init_289 (mk0 rfl) rfl rfl) ?_
  refine Eq.trans (q_bipush (v := 6) dX13_init_290 (mk0 rfl) rfl) ?_
  refine Eq.trans (q_newarray (t := 0) (e := nwAr 0 6) dX13_init_292 (mk0 rfl) (Or.inl ⟨rfl, rfl⟩) ⟨by decide, by decide⟩ rfl) ?_
  refine Eq.trans (q_put (ci := 13) (k := 41) (kd := 2) dX13_init_294 (mk0 rfl) rfl rfl (fun _ => ⟨rfl, rfl⟩)) (bind_cg fun h294 => ?_)
  refine Eq.trans (q_aload_n dX13_init_297 (mk0 rfl) rfl rfl) ?_
  refine Eq.trans (q_bipush (v := 72) dX13_init_298 (mk0 rfl) rfl) ?_
  refine Eq.trans (q_newarray (t := 0) (e := nwAr 0 72) dX13_init_300 (mk0 rfl) (Or.inl ⟨rfl, rfl⟩) ⟨by decide, by decide⟩ rfl) ?_
  refine Eq.trans (q_put (ci := 13) (k := 42) (kd := 2) dX13_init_302 (mk0 rfl) rfl rfl (fun _ => ⟨rfl, rfl⟩)) (bind_cg fun h302 => ?_)
  refine Eq.trans (q_aload_n dX13_init_305 (mk0 rfl) rfl rfl) ?_
  refine Eq.trans (q_bipush (v := 72) dX13_init_306 (mk0 rfl) rfl) ?_
  refine Eq.trans (q_newarray (t := 0) (e := nwAr 0 72) dX13_init_308 (mk0 rfl) (Or.inl ⟨rfl, rfl⟩) ⟨by decide, by decide⟩ rfl) ?_
  refine Eq.trans (q_put (ci := 13) (k := 43) (kd := 2) dX13_init_310 (mk0 rfl) rfl rfl (fun _ => ⟨rfl, rfl⟩)) (bind_cg fun h310 => ?_)
  refine Eq.trans (q_aload_n dX13_init_313 (mk0 rfl) rfl rfl) ?_
  refine Eq.trans (q_bipush (v := 72) dX13_init_314 (mk0 rfl) rfl) ?_
  refine Eq.trans (q_newarray (t := 0) (e := nwAr 0 72) dX13_init_316 (mk0 rfl) (Or.inl ⟨rfl, rfl⟩) ⟨by decide, by decide⟩ rfl) ?_
  refine Eq.trans (q_put (ci := 13) (k := 44) (kd := 2) dX13_init_318 (mk0 rfl) rfl rfl (fun _ => ⟨rfl, rfl⟩)) (bind_cg fun h318 => ?_)
  refine Eq.trans (q_aload_n dX13_init_321 (mk0 rfl) rfl rfl) ?_
  refine Eq.trans (q_sipush (v := 402) dX13_init_322 (mk0 rfl) rfl) ?_
  refine Eq.trans (q_newarray (t := 0) (e := nwAr 0 402) dX13_init_325 (mk0 rfl) (Or.inl ⟨rfl, rfl⟩) ⟨by decide, by decide⟩ rfl) ?_
  refine Eq.trans (q_put (ci := 13) (k := 45) (kd := 2) dX13_init_327 (mk0 rfl) rfl rfl (fun _ => ⟨rfl, rfl⟩)) (bind_cg fun h327 => ?_)
  refine Eq.trans (q_aload_n dX13_init_330 (mk0 rfl) rfl rfl) ?_
  refine Eq.trans (q_bipush (v := 12) dX13_init_331 (mk0 rfl) rfl) ?_
  refine Eq.trans (q_newarray (t := 1) (e := nwAr 1 12) dX13_init_333 (mk0 rfl) (Or.inr (Or.inl ⟨rfl, rfl⟩)) ⟨by decide, by decide⟩ rfl) ?_
  refine Eq.trans (q_put (ci := 13) (k := 46) (kd := 2) dX13_init_335 (mk0 rfl) rfl rfl (fun _ => ⟨rfl, rfl⟩)) (bind_cg fun h335 => ?_)
  refine Eq.trans (q_aload_n dX13_init_338 (mk0 rfl) rfl rfl) ?_
  refine Eq.trans (q_sipush (v := 300) dX13_init_339 (mk0 rfl) rfl) ?_
  refine Eq.trans (q_newarray (t := 1) (e := nwAr 1 300) dX13_init_342 (mk0 rfl) (Or.inr (Or.inl ⟨rfl, rfl⟩)) ⟨by decide, by decide⟩ rfl) ?_
  refine Eq.trans (q_put (ci := 13) (k := 47) (kd := 2) dX13_init_344 (mk0 rfl) rfl rfl (fun _ => ⟨rfl, rfl⟩)) (bind_cg fun h344 => ?_)
  refine Eq.trans (q_aload_n dX13_init_347 (mk0 rfl) rfl rfl) ?_
  refine Eq.trans (q_iconst (v := 5) dX13_init_348 (mk0 rfl) rfl) ?_
  refine Eq.trans (q_newarray (t := 0) (e := nwAr 0 5) dX13_init_349 (mk0 rfl) (Or.inl ⟨rfl, rfl⟩) ⟨by decide, by decide⟩ rfl) ?_
  refine Eq.trans (q_put (ci := 13) (k := 48) (kd := 2) dX13_init_351 (mk0 rfl) rfl rfl (fun _ => ⟨rfl, rfl⟩)) (bind_cg fun h351 => ?_)
  refine Eq.trans (q_aload_n dX13_init_354 (mk0 rfl) rfl rfl) ?_
  refine Eq.trans (q_sipush (v := 1520) dX13_init_355 (mk0 rfl) rfl) ?_
  refine Eq.trans (q_newarray (t := 0) (e := nwAr 0 1520) dX13_init_358 (mk0 rfl) (Or.inl ⟨rfl, rfl⟩) ⟨by decide, by decide⟩ rfl) ?_
  refine Eq.trans (q_put (ci := 13) (k := 49) (kd := 2) dX13_init_360 (mk0 rfl) rfl rfl (fun _ => ⟨rfl, rfl⟩)) (bind_cg fun h360 => ?_)
  refine Eq.trans (q_aload_n dX13_init_363 (mk0 rfl) rfl rfl) ?_
  refine Eq.trans (q_iconst (v := 1) dX13_init_364 (mk0 rfl) rfl) ?_
  refine Eq.trans (q_newarray (t := 0) (e := nwAr 0 1) dX13_init_365 (mk0 rfl) (Or.inl ⟨rfl, rfl⟩) ⟨by decide, by decide⟩ rfl) ?_
  refine Eq.trans (q_put (ci := 13) (k := 50) (kd := 2) dX13_init_367 (mk0 rfl) rfl rfl (fun _ => ⟨rfl, rfl⟩)) (bind_cg fun h367 => ?_)
  refine Eq.trans (q_aload_n dX13_init_370 (mk0 rfl) rfl rfl) ?_
  refine Eq.trans (q_sipush (v := 512) dX13_init_371 (mk0 rfl) rfl) ?_
  refine Eq.trans (q_newarray (t := 0) (e := nwAr 0 512) dX13_init_374 (mk0 rfl) (Or.inl ⟨rfl, rfl⟩) ⟨by decide, by decide⟩ rfl) ?_
  refine Eq.trans (q_put (ci := 13) (k := 54) (kd := 2) dX13_init_376 (mk0 rfl) rfl rfl (fun _ => ⟨rfl, rfl⟩)) (bind_cg fun h376 => ?_)
  refine Eq.trans (q_aload_n dX13_init_379 (mk0 rfl) rfl rfl) ?_
  refine Eq.trans (q_bipush (v := 64) dX13_init_380 (mk0 rfl) rfl) ?_
  refine Eq.trans (q_newarray (t := 0) (e := nwAr 0 64) dX13_init_382 (mk0 rfl) (Or.inl ⟨rfl, rfl⟩) ⟨by decide, by decide⟩ rfl) ?_
  refine Eq.trans (q_put (ci := 13) (k := 55) (kd := 2) dX13_init_384 (mk0 rfl) rfl rfl (fun _ => ⟨rfl, rfl⟩)) (bind_cg fun h384 => ?_)
  refine Eq.trans (q_aload_n dX13_init_387 (mk0 rfl) rfl rfl) ?_
  refine Eq.trans (q_bipush (v := 64) dX13_init_388 (mk0 rfl) rfl) ?_
  refine Eq.trans (q_newarray (t := 0) (e := nwAr 0 64) dX13_init_390 (mk0 rfl) (Or.inl ⟨rfl, rfl⟩) ⟨by decide, by decide⟩ rfl) ?_
  refine Eq.trans (q_put (ci := 13) (k := 56) (kd := 2) dX13_init_392 (mk0 rfl) rfl rfl (fun _ => ⟨rfl, rfl⟩)) (bind_cg fun h392 => ?_)
  refine Eq.trans (q_aload_n dX13_init_395 (mk0 rfl) rfl rfl) ?_
  refine Eq.trans (q_sipush (v := 305) dX13_init_396 (mk0 rfl) rfl) ?_
  refine Eq.trans (q_newarray (t := 0) (e := nwAr 0 305) dX13_init_399 (mk0 rfl) (Or.inl ⟨rfl, rfl⟩) ⟨by decide, by decide⟩ rfl) ?_
  refine Eq.trans (q_put (ci := 13) (k := 57) (kd := 2) dX13_init_401 (mk0 rfl) rfl rfl (fun _ => ⟨rfl, rfl⟩)) (bind_cg fun h401 => ?_)
  refine Eq.trans (q_aload_n dX13_init_404 (mk0 rfl) rfl rfl) ?_
  refine Eq.trans (q_bipush (v := 35) dX13_init_405 (mk0 rfl) rfl) ?_
  refine Eq.trans (q_newarray (t := 0) (e := nwAr 0 35) dX13_init_407 (mk0 rfl) (Or.inl ⟨rfl, rfl⟩) ⟨by decide, by decide⟩ rfl) ?_
  refine Eq.trans (q_put (ci := 13) (k := 58) (kd := 2) dX13_init_409 (mk0 rfl) rfl rfl (fun _ => ⟨rfl, rfl⟩)) (bind_cg fun h409 => ?_)
  refine Eq.trans (q_aload_n dX13_init_412 (mk0 rfl) rfl rfl) ?_
  refine Eq.trans (q_sipush (v := 9500) dX13_init_413 (mk0 rfl) rfl) ?_
  refine Eq.trans (q_newarray (t := 0) (e := nwAr 0 9500) dX13_init_416 (mk0 rfl) (Or.inl ⟨rfl, rfl⟩) ⟨by decide, by decide⟩ rfl) ?_
  refine Eq.trans (q_put (ci := 13) (k := 59) (kd := 2) dX13_init_418 (mk0 rfl) rfl rfl (fun _ => ⟨rfl, rfl⟩)) (bind_cg fun h418 => ?_)
  refine Eq.trans (q_aload_n dX13_init_421 (mk0 rfl) rfl rfl) ?_
  refine Eq.trans (q_iconst (v := 4) dX13_init_422 (mk0 rfl) rfl) ?_
  refine Eq.trans (q_newarray (t := 3) (e := nwAr 3 4) dX13_init_423 (mk0 rfl) (Or.inr (Or.inr (Or.inr ⟨rfl, rfl⟩))) ⟨by decide, by decide⟩ rfl) ?_
  refine Eq.trans (q_put (ci := 13) (k := 60) (kd := 2) dX13_init_425 (mk0 rfl) rfl rfl (fun _ => ⟨rfl, rfl⟩)) (bind_cg fun h425 => ?_)
  exact q_return dX13_init_428 (mk0 rfl) rfl
set_option maxRecDepth 20000 in
theorem bX13_in_0 {L : Nat} {xs : Nat → Int32} (d : Nat) (l0 : Int64) (l2 : Int64) (l4 : Int64) (ph : PH) : RS (ZZ L xs) (d + 1) mX13_in 0 [some (.long l0), none, some (.long l2), none, some (.long l4), none] [] ph = if (lg_cmp l0 l2 : Int32) < 0 then RS (ZZ L xs) (d + 1) mX13_in 17 [some (.long l0), none, some (.long l2), none, some (.long l4), none] [] ph else if (0 : Int32) < lg_cmp l0 l4 then RS (ZZ L xs) (d + 1) mX13_in 17 [some (.long l0), none, some (.long l2), none, some (.long l4), none] [] ph else RS (ZZ L xs) (d + 1) mX13_in 18 [some (.long l0), none, some (.long l2), none, some (.long l4), none] [.int 1] ph := by
  refine Eq.trans (q_lload_n dX13_in_0 (mk0 rfl) rfl) ?_
  refine Eq.trans (q_lload_n dX13_in_1 (mk0 rfl) rfl) ?_
  refine Eq.trans (q_lcmp dX13_in_2 (mk0 rfl)) ?_
  refine Eq.trans (q_if_lt (t := 17) dX13_in_3 (mk0 rfl) rfl) (ite_cg ?_ ?_)
  · rfl
  · refine Eq.trans (q_lload_n dX13_in_6 (mk0 rfl) rfl) ?_
    refine Eq.trans (q_lload dX13_in_7 (mk0 rfl) rfl) ?_
    refine Eq.trans (q_lcmp dX13_in_9 (mk0 rfl)) ?_
    refine Eq.trans (q_if_gt (t := 17) dX13_in_10 (mk0 rfl) rfl) (ite_cg ?_ ?_)
    · rfl
    · refine Eq.trans (q_iconst (v := 1) dX13_in_13 (mk0 rfl) rfl) ?_
      refine Eq.trans (q_goto (t := 18) dX13_in_14 (mk0 rfl) rfl) ?_
      rfl
set_option maxRecDepth 20000 in
theorem bX13_in_17 {L : Nat} {xs : Nat → Int32} (d : Nat) (u0 : Option Value) (u1 : Option Value) (u2 : Option Value) (u3 : Option Value) (u4 : Option Value) (u5 : Option Value) (ph : PH) : RS (ZZ L xs) (d + 1) mX13_in 17 [u0, u1, u2, u3, u4, u5] [] ph = RS (ZZ L xs) (d + 1) mX13_in 18 [none, none, none, none, none, none] [.int 0] ph := by
  refine Eq.trans (q_iconst (v := 0) dX13_in_17 (show mK mX13_in 17 [u0, u1, u2, u3, u4, u5] = [none, none, none, none, none, none] from rfl) rfl) ?_
  rfl
set_option maxRecDepth 20000 in
theorem bX13_in_18 {L : Nat} {xs : Nat → Int32} (d : Nat) (u0 : Option Value) (u1 : Option Value) (u2 : Option Value) (u3 : Option Value) (u4 : Option Value) (u5 : Option Value) (t0 : Int32) (ph : PH) : RS (ZZ L xs) (d + 1) mX13_in 18 [u0, u1, u2, u3, u4, u5] [.int t0] ph = if (t0 : Int32) = 0 ∨ (t0 : Int32) = 1 then some (ph, some (.int t0)) else none := by
  exact q_zreturn dX13_in_18 (show mK mX13_in 18 [u0, u1, u2, u3, u4, u5] = [none, none, none, none, none, none] from rfl) rfl
set_option maxRecDepth 20000 in
theorem bX13_has_0 {L : Nat} {xs : Nat → Int32} (d : Nat) (i0 : Int32) (i1 : Int32) (ph : PH) : RS (ZZ L xs) (d + 1) mX13_has 0 [some (.int i0), some (.int i1)] [] ph = if ¬ ((iShr i0 i1) &&& 1 : Int32) = 1 then RS (ZZ L xs) (d + 1) mX13_has 14 [some (.int i0), some (.int i1)] [.int 0] ph else RS (ZZ L xs) (d + 1) mX13_has 14 [some (.int i0), some (.int i1)] [.int 1] ph := by
  refine Eq.trans (q_iload_n dX13_has_0 (mk0 rfl) rfl) ?_
  refine Eq.trans (q_iload_n dX13_has_1 (mk0 rfl) rfl) ?_
  refine Eq.trans (q_ishr dX13_has_2 (mk0 rfl)) ?_
  refine Eq.trans (q_iconst (v := 1) dX13_has_3 (mk0 rfl) rfl) ?_
  refine Eq.trans (q_iand dX13_has_4 (mk0 rfl)) ?_
  refine Eq.trans (q_iconst (v := 1) dX13_has_5 (mk0 rfl) rfl) ?_
  refine Eq.trans (q_icmp_ne (t := 13) dX13_has_6 (mk0 rfl) rfl) (ite_cg ?_ ?_)
  · refine Eq.trans (q_iconst (v := 0) dX13_has_13 (mk0 rfl) rfl) ?_
    rfl
  · refine Eq.trans (q_iconst (v := 1) dX13_has_9 (mk0 rfl) rfl) ?_
    refine Eq.trans (q_goto (t := 14) dX13_has_10 (mk0 rfl) rfl) ?_
    rfl
set_option maxRecDepth 20000 in
theorem bX13_has_14 {L : Nat} {xs : Nat → Int32} (d : Nat) (u0 : Option Value) (u1 : Option Value) (t0 : Int32) (ph : PH) : RS (ZZ L xs) (d + 1) mX13_has 14 [u0, u1] [.int t0] ph = if (t0 : Int32) = 0 ∨ (t0 : Int32) = 1 then some (ph, some (.int t0)) else none := by
  exact q_zreturn dX13_has_14 (show mK mX13_has 14 [u0, u1] = [none, none] from rfl) rfl
set_option maxRecDepth 20000 in
theorem bX13_isTown_0 {L : Nat} {xs : Nat → Int32} (d : Nat) (o : Nat) (ph : PH) : RS (ZZ L xs) (d + 1) mX13_isTown 0 [some (.ref o)] [] ph = (fR ph (.ref o) 13 1).bind fun x1 => (eI ph x1 0).bind fun x5 => if (x5 : Int32) ≤ 0 then RS (ZZ L xs) (d + 1) mX13_isTown 14 [some (.ref o)] [.int 0] ph else RS (ZZ L xs) (d + 1) mX13_isTown 14 [some (.ref o)] [.int 1] ph := by
  refine Eq.trans (q_aload_n dX13_isTown_0 (mk0 rfl) rfl rfl) ?_
  refine Eq.trans (q_getR (ci := 13) (k := 1) dX13_isTown_1 (mk0 rfl) rfl) (bind_cg2 fun x1 hx1 => ?_)
  have hx1 := fR_isR hx1
  refine Eq.trans (q_iconst (v := 0) dX13_isTown_4 (mk0 rfl) rfl) ?_
  refine Eq.trans (q_iaload dX13_isTown_5 (mk0 rfl) (no_ext hx1)) (bind_cg fun x5 => ?_)
  refine Eq.trans (q_if_le (t := 13) dX13_isTown_6 (mk0 rfl) rfl) (ite_cg ?_ ?_)
  · refine Eq.trans (q_iconst (v := 0) dX13_isTown_13 (mk0 rfl) rfl) ?_
    rfl
  · refine Eq.trans (q_iconst (v := 1) dX13_isTown_9 (mk0 rfl) rfl) ?_
    refine Eq.trans (q_goto (t := 14) dX13_isTown_10 (mk0 rfl) rfl) ?_
    rfl
set_option maxRecDepth 20000 in
theorem bX13_isTown_14 {L : Nat} {xs : Nat → Int32} (d : Nat) (u0 : Option Value) (t0 : Int32) (ph : PH) : RS (ZZ L xs) (d + 1) mX13_isTown 14 [u0] [.int t0] ph = if (t0 : Int32) = 0 ∨ (t0 : Int32) = 1 then some (ph, some (.int t0)) else none := by
  exact q_zreturn dX13_isTown_14 (show mK mX13_isTown 14 [u0] = [none] from rfl) rfl
set_option maxRecDepth 20000 in
theorem bX13_isPlace_0 {L : Nat} {xs : Nat → Int32} (d : Nat) (o : Nat) (i1 : Int32) (ph : PH) : RS (ZZ L xs) (d + 1) mX13_isPlace 0 [some (.ref o), some (.int i1)] [] ph = (fR ph (.ref o) 13 1).bind fun x4 => (eI ph x4 0).bind fun x8 => (cI (ZZ L xs) d mX13_in [.long ((i1 : Int32).toInt64), .long 0, .long ((x8 - 1 : Int32).toInt64)] ph).bind fun p12 => if (p12.2 : Int32) = 0 ∨ (p12.2 : Int32) = 1 then some (p12.1, some (.int p12.2)) else none := by
  refine Eq.trans (q_iload_n dX13_isPlace_0 (mk0 rfl) rfl) ?_
  refine Eq.trans (q_i2l dX13_isPlace_1 (mk0 rfl)) ?_
  refine Eq.trans (q_lconst (v := 0) dX13_isPlace_2 (mk0 rfl) rfl) ?_
  refine Eq.trans (q_aload_n dX13_isPlace_3 (mk0 rfl) rfl rfl) ?_
  refine Eq.trans (q_getR (ci := 13) (k := 1) dX13_isPlace_4 (mk0 rfl) rfl) (bind_cg2 fun x4 hx4 => ?_)
  have hx4 := fR_isR hx4
  refine Eq.trans (q_iconst (v := 0) dX13_isPlace_7 (mk0 rfl) rfl) ?_
  refine Eq.trans (q_iaload dX13_isPlace_8 (mk0 rfl) (no_ext hx4)) (bind_cg fun x8 => ?_)
  refine Eq.trans (q_iconst (v := 1) dX13_isPlace_9 (mk0 rfl) rfl) ?_
  refine Eq.trans (q_isub dX13_isPlace_10 (mk0 rfl)) ?_
  refine Eq.trans (q_i2l dX13_isPlace_11 (mk0 rfl)) ?_
  refine Eq.trans (q_callS (as := [.long ((i1 : Int32).toInt64), .long 0, .long ((x8 - 1 : Int32).toInt64)]) dX13_isPlace_12 (mk0 rfl) rfl (Or.inl rfl) rfl rfl (Nat.le_of_ble_eq_true rfl) (Nat.le_of_ble_eq_true rfl)) ?_
  refine Eq.trans (cI_bind (Or.inr rfl)) (bind_cg fun p12 => ?_)
  show RS (ZZ L xs) (d + 1) mX13_isPlace 15 [some (.ref o), some (.int i1)] [.int p12.2] p12.1 = _
  exact q_zreturn dX13_isPlace_15 (mk0 rfl) rfl
set_option maxRecDepth 20000 in
theorem bX13_isPerson_0 {L : Nat} {xs : Nat → Int32} (d : Nat) (o : Nat) (i1 : Int32) (ph : PH) : RS (ZZ L xs) (d + 1) mX13_isPerson 0 [some (.ref o), some (.int i1)] [] ph = (fR ph (.ref o) 13 1).bind fun x4 => (eI ph x4 2).bind fun x8 => (cI (ZZ L xs) d mX13_in [.long ((i1 : Int32).toInt64), .long 0, .long ((x8 - 1 : Int32).toInt64)] ph).bind fun p12 => if (p12.2 : Int32) = 0 ∨ (p12.2 : Int32) = 1 then some (p12.1, some (.int p12.2)) else none := by
  refine Eq.trans (q_iload_n dX13_isPerson_0 (mk0 rfl) rfl) ?_
  refine Eq.trans (q_i2l dX13_isPerson_1 (mk0 rfl)) ?_
  refine Eq.trans (q_lconst (v := 0) dX13_isPerson_2 (mk0 rfl) rfl) ?_
  refine Eq.trans (q_aload_n dX13_isPerson_3 (mk0 rfl) rfl rfl) ?_
  refine Eq.trans (q_getR (ci := 13) (k := 1) dX13_isPerson_4 (mk0 rfl) rfl) (bind_cg2 fun x4 hx4 => ?_)
  have hx4 := fR_isR hx4
  refine Eq.trans (q_iconst (v := 2) dX13_isPerson_7 (mk0 rfl) rfl) ?_
  refine Eq.trans (q_iaload dX13_isPerson_8 (mk0 rfl) (no_ext hx4)) (bind_cg fun x8 => ?_)
  refine Eq.trans (q_iconst (v := 1) dX13_isPerson_9 (mk0 rfl) rfl) ?_
  refine Eq.trans (q_isub dX13_isPerson_10 (mk0 rfl)) ?_
  refine Eq.trans (q_i2l dX13_isPerson_11 (mk0 rfl)) ?_
  refine Eq.trans (q_callS (as := [.long ((i1 : Int32).toInt64), .long 0, .long ((x8 - 1 : Int32).toInt64)]) dX13_isPerson_12 (mk0 rfl) rfl (Or.inl rfl) rfl rfl (Nat.le_of_ble_eq_true rfl) (Nat.le_of_ble_eq_true rfl)) ?_
  refine Eq.trans (cI_bind (Or.inr rfl)) (bind_cg fun p12 => ?_)
  show RS (ZZ L xs) (d + 1) mX13_isPerson 15 [some (.ref o), some (.int i1)] [.int p12.2] p12.1 = _
  exact q_zreturn dX13_isPerson_15 (mk0 rfl) rfl
set_option maxRecDepth 20000 in
theorem bX13_isStranger_0 {L : Nat} {xs : Nat → Int32} (d : Nat) (o : Nat) (i1 : Int32) (ph : PH) : RS (ZZ L xs) (d + 1) mX13_isStranger 0 [some (.ref o), some (.int i1)] [] ph = (fR ph (.ref o) 13 1).bind fun x4 => (eI ph x4 3).bind fun x8 => (cI (ZZ L xs) d mX13_in [.long ((i1 : Int32).toInt64), .long 0, .long ((x8 - 1 : Int32).toInt64)] ph).bind fun p12 => if (p12.2 : Int32) = 0 ∨ (p12.2 : Int32) = 1 then some (p12.1, some (.int p12.2)) else none := by
  refine Eq.trans (q_iload_n dX13_isStranger_0 (mk0 rfl) rfl) ?_
  refine Eq.trans (q_i2l dX13_isStranger_1 (mk0 rfl)) ?_
  refine Eq.trans (q_lconst (v := 0) dX13_isStranger_2 (mk0 rfl) rfl) ?_
  refine Eq.trans (q_aload_n dX13_isStranger_3 (mk0 rfl) rfl rfl) ?_
  refine Eq.trans (q_getR (ci := 13) (k := 1) dX13_isStranger_4 (mk0 rfl) rfl) (bind_cg2 fun x4 hx4 => ?_)
  have hx4 := fR_isR hx4
  refine Eq.trans (q_iconst (v := 3) dX13_isStranger_7 (mk0 rfl) rfl) ?_
  refine Eq.trans (q_iaload dX13_isStranger_8 (mk0 rfl) (no_ext hx4)) (bind_cg fun x8 => ?_)
  refine Eq.trans (q_iconst (v := 1) dX13_isStranger_9 (mk0 rfl) rfl) ?_
  refine Eq.trans (q_isub dX13_isStranger_10 (mk0 rfl)) ?_
  refine Eq.trans (q_i2l dX13_isStranger_11 (mk0 rfl)) ?_
  refine Eq.trans (q_callS (as := [.long ((i1 : Int32).toInt64), .long 0, .long ((x8 - 1 : Int32).toInt64)]) dX13_isStranger_12 (mk0 rfl) rfl (Or.inl rfl) rfl rfl (Nat.le_of_ble_eq_true rfl) (Nat.le_of_ble_eq_true rfl)) ?_
  refine Eq.trans (cI_bind (Or.inr rfl)) (bind_cg fun p12 => ?_)
  show RS (ZZ L xs) (d + 1) mX13_isStranger 15 [some (.ref o), some (.int i1)] [.int p12.2] p12.1 = _
  exact q_zreturn dX13_isStranger_15 (mk0 rfl) rfl
set_option maxRecDepth 20000 in
theorem bX13_feed_0 {L : Nat} {xs : Nat → Int32} (d : Nat) (o : Nat) (i1 : Int32) (i2 : Int32) (i3 : Int32) (i4 : Int32) (i5 : Int32) (ph : PH) : RS (ZZ L xs) (d + 1) mX13_feed 0 [some (.ref o), some (.int i1), some (.int i2), some (.int i3), some (.int i4), some (.int i5)] [] ph = (fI ph (.ref o) 13 28).bind fun x1 => if (x1 + 20 : Int32) ≤ 400 then (iO ph (.ref o) 13).bind fun b17 => (cV (ZZ L xs) d mX13_put [.ref b17, .int i1] ph).bind fun p17 => (iO p17 (.ref o) 13).bind fun b22 => (cV (ZZ L xs) d mX13_put [.ref b22, .int i2] p17).bind fun p22 => (iO p22 (.ref o) 13).bind fun b27 => (cV (ZZ L xs) d mX13_put [.ref b27, .int i3] p22).bind fun p27 => (iO p27 (.ref o) 13).bind fun b33 => (cV (ZZ L xs) d mX13_put [.ref b33, .int i4] p27).bind fun p33 => (iO p33 (.ref o) 13).bind fun b39 => (cV (ZZ L xs) d mX13_put [.ref b39, .int i5] p33).bind fun p39 => (fI p39 (.ref o) 13 28).bind fun x43 => some (p39, some (.int x43)) else some (ph, some (.int ((-1)))) := by
  refine Eq.trans (q_aload_n dX13_feed_0 (mk0 rfl) rfl rfl) ?_
  refine Eq.trans (q_getI (ci := 13) (k := 28) dX13_feed_1 (mk0 rfl) rfl) (bind_cg fun x1 => ?_)
  refine Eq.trans (q_bipush (v := 20) dX13_feed_4 (mk0 rfl) rfl) ?_
  refine Eq.trans (q_iadd dX13_feed_6 (mk0 rfl)) ?_
  refine Eq.trans (q_sipush (v := 400) dX13_feed_7 (mk0 rfl) rfl) ?_
  refine Eq.trans (q_icmp_le (t := 15) dX13_feed_10 (mk0 rfl) rfl) (ite_cg ?_ ?_)
  · refine Eq.trans (q_aload_n dX13_feed_15 (mk0 rfl) rfl rfl) ?_
    refine Eq.trans (q_iload_n dX13_feed_16 (mk0 rfl) rfl) ?_
    refine Eq.trans (q_callV (as := [.int i1]) dX13_feed_17 (mk0 rfl) rfl rfl rfl (Nat.le_of_ble_eq_true rfl) (Nat.le_of_ble_eq_true rfl)) (bind_cg fun b17 => ?_)
    refine Eq.trans (cV_bind rfl) (bind_cg fun p17 => ?_)
    show RS (ZZ L xs) (d + 1) mX13_feed 20 [some (.ref o), some (.int i1), some (.int i2), some (.int i3), some (.int i4), some (.int i5)] [] p17 = _
    refine Eq.trans (q_aload_n dX13_feed_20 (mk0 rfl) rfl rfl) ?_
    refine Eq.trans (q_iload_n dX13_feed_21 (mk0 rfl) rfl) ?_
    refine Eq.trans (q_callV (as := [.int i2]) dX13_feed_22 (mk0 rfl) rfl rfl rfl (Nat.le_of_ble_eq_true rfl) (Nat.le_of_ble_eq_true rfl)) (bind_cg fun b22 => ?_)
    refine Eq.trans (cV_bind rfl) (bind_cg fun p22 => ?_)
    show RS (ZZ L xs) (d + 1) mX13_feed 25 [some (.ref o), some (.int i1), some (.int i2), some (.int i3), some (.int i4), some (.int i5)] [] p22 = _
    refine Eq.trans (q_aload_n dX13_feed_25 (mk0 rfl) rfl rfl) ?_
    refine Eq.trans (q_iload_n dX13_feed_26 (mk0 rfl) rfl) ?_
    refine Eq.trans (q_callV (as := [.int i3]) dX13_feed_27 (mk0 rfl) rfl rfl rfl (Nat.le_of_ble_eq_true rfl) (Nat.le_of_ble_eq_true rfl)) (bind_cg fun b27 => ?_)
    refine Eq.trans (cV_bind rfl) (bind_cg fun p27 => ?_)
    show RS (ZZ L xs) (d + 1) mX13_feed 30 [some (.ref o), some (.int i1), some (.int i2), some (.int i3), some (.int i4), some (.int i5)] [] p27 = _
    refine Eq.trans (q_aload_n dX13_feed_30 (mk0 rfl) rfl rfl) ?_
    refine Eq.trans (q_iload dX13_feed_31 (mk0 rfl) rfl) ?_
    refine Eq.trans (q_callV (as := [.int i4]) dX13_feed_33 (mk0 rfl) rfl rfl rfl (Nat.le_of_ble_eq_true rfl) (Nat.le_of_ble_eq_true rfl)) (bind_cg fun b33 => ?_)
    refine Eq.trans (cV_bind rfl) (bind_cg fun p33 => ?_)
    show RS (ZZ L xs) (d + 1) mX13_feed 36 [some (.ref o), some (.int i1), some (.int i2), some (.int i3), some (.int i4), some (.int i5)] [] p33 = _
    refine Eq.trans (q_aload_n dX13_feed_36 (mk0 rfl) rfl rfl) ?_
    refine Eq.trans (q_iload dX13_feed_37 (mk0 rfl) rfl) ?_
    refine Eq.trans (q_callV (as := [.int i5]) dX13_feed_39 (mk0 rfl) rfl rfl rfl (Nat.le_of_ble_eq_true rfl) (Nat.le_of_ble_eq_true rfl)) (bind_cg fun b39 => ?_)
    refine Eq.trans (cV_bind rfl) (bind_cg fun p39 => ?_)
    show RS (ZZ L xs) (d + 1) mX13_feed 42 [some (.ref o), some (.int i1), some (.int i2), some (.int i3), some (.int i4), some (.int i5)] [] p39 = _
    refine Eq.trans (q_aload_n dX13_feed_42 (mk0 rfl) rfl rfl) ?_
    refine Eq.trans (q_getI (ci := 13) (k := 28) dX13_feed_43 (mk0 rfl) rfl) (bind_cg fun x43 => ?_)
    exact q_ireturn dX13_feed_46 (mk0 rfl) rfl
  · refine Eq.trans (q_iconst (v := (-1)) dX13_feed_13 (mk0 rfl) rfl) ?_
    exact q_ireturn dX13_feed_14 (mk0 rfl) rfl
set_option maxRecDepth 20000 in
theorem bX13_put_0 {L : Nat} {xs : Nat → Int32} (d : Nat) (o : Nat) (i1 : Int32) (ph : PH) : RS (ZZ L xs) (d + 1) mX13_put 0 [some (.ref o), some (.int i1), none] [] ph = RS (ZZ L xs) (d + 1) mX13_put 3 [some (.ref o), some (.int i1), some (.int 24)] [] ph := by
  refine Eq.trans (q_bipush (v := 24) dX13_put_0 (mk0 rfl) rfl) ?_
  refine Eq.trans (q_istore_n (lv2 := [some (.ref o), some (.int i1), some (.int 24)]) dX13_put_2 (mk0 rfl) (Nat.le_of_ble_eq_true rfl) rfl) ?_
  rfl
set_option maxRecDepth 20000 in
theorem bX13_put_3 {L : Nat} {xs : Nat → Int32} (d : Nat) (o : Nat) (i1 : Int32) (i2 : Int32) (ph : PH) : RS (ZZ L xs) (d + 1) mX13_put 3 [some (.ref o), some (.int i1), some (.int i2)] [] ph = if (i2 : Int32) < 0 then some (ph, none) else (fR ph (.ref o) 13 38).bind fun x8 => (fI ph (.ref o) 13 28).bind fun x12 => (wB ph x8 x12 ((iShr i1 i2 : Int32).toInt8.toInt32)).bind fun h19 => (fI h19 (.ref o) 13 28).bind fun x22 => (fP h19 (.ref o) 13 28 (.int (x22 + 1))).bind fun h27 => RS (ZZ L xs) (d + 1) mX13_put 3 [some (.ref o), some (.int i1), some (.int (i2 + (-8)))] [] h27 := by
  refine Eq.trans (q_iload_n dX13_put_3 (mk0 rfl) rfl) ?_
  refine Eq.trans (q_if_lt (t := 36) dX13_put_4 (mk0 rfl) rfl) (ite_cg ?_ ?_)
  · exact q_return dX13_put_36 (mk0 rfl) rfl
  · refine Eq.trans (q_aload_n dX13_put_7 (mk0 rfl) rfl rfl) ?_
    refine Eq.trans (q_getR (ci := 13) (k := 38) dX13_put_8 (mk0 rfl) rfl) (bind_cg2 fun x8 hx8 => ?_)
    have hx8 := fR_isR hx8
    refine Eq.trans (q_aload_n dX13_put_11 (mk0 rfl) rfl rfl) ?_
    refine Eq.trans (q_getI (ci := 13) (k := 28) dX13_put_12 (mk0 rfl) rfl) (bind_cg fun x12 => ?_)
    refine Eq.trans (q_iload_n dX13_put_15 (mk0 rfl) rfl) ?_
    refine Eq.trans (q_iload_n dX13_put_16 (mk0 rfl) rfl) ?_
    refine Eq.trans (q_ishr dX13_put_17 (mk0 rfl)) ?_
    refine Eq.trans (q_i2b dX13_put_18 (mk0 rfl)) ?_
    refine Eq.trans (q_bastore dX13_put_19 (mk0 rfl)) (bind_cg fun h19 => ?_)
    refine Eq.trans (q_aload_n dX13_put_20 (mk0 rfl) rfl rfl) ?_
    refine Eq.trans (q_dup dX13_put_21 (mk0 rfl) rfl) ?_
    refine Eq.trans (q_getI (ci := 13) (k := 28) dX13_put_22 (mk0 rfl) rfl) (bind_cg fun x22 => ?_)
    refine Eq.trans (q_iconst (v := 1) dX13_put_25 (mk0 rfl) rfl) ?_
    refine Eq.trans (q_iadd dX13_put_26 (mk0 rfl)) ?_
    refine Eq.trans (q_put (ci := 13) (k := 28) (kd := 0) dX13_put_27 (mk0 rfl) rfl rfl (fun h => by cases h)) (bind_cg fun h27 => ?_)
    refine Eq.trans (q_iinc (v := (-8)) (lv2 := [some (.ref o), some (.int i1), some (.int (i2 + (-8)))]) dX13_put_30 (mk0 rfl) rfl rfl rfl) ?_
    refine Eq.trans (q_goto (t := 3) dX13_put_33 (mk0 rfl) rfl) ?_
    rfl
set_option maxRecDepth 20000 in
theorem bX13_end_0 {L : Nat} {xs : Nat → Int32} (d : Nat) (o : Nat) (i1 : Int32) (ph : PH) : RS (ZZ L xs) (d + 1) mX13_end 0 [some (.ref o), some (.int i1)] [] ph = if (i1 : Int32) < 0 then RS (ZZ L xs) (d + 1) mX13_end 12 [some (.ref o), some (.int i1)] [] ph else (fI ph (.ref o) 13 28).bind fun x6 => if (i1 : Int32) ≤ x6 then (fP ph (.ref o) 13 28 (.int i1)).bind fun h16 => some (h16, some (.int i1)) else RS (ZZ L xs) (d + 1) mX13_end 12 [some (.ref o), some (.int i1)] [] ph := by
  refine Eq.trans (q_iload_n dX13_end_0 (mk0 rfl) rfl) ?_
  refine Eq.trans (q_if_lt (t := 12) dX13_end_1 (mk0 rfl) rfl) (ite_cg ?_ ?_)
  · rfl
  · refine Eq.trans (q_iload_n dX13_end_4 (mk0 rfl) rfl) ?_
    refine Eq.trans (q_aload_n dX13_end_5 (mk0 rfl) rfl rfl) ?_
    refine Eq.trans (q_getI (ci := 13) (k := 28) dX13_end_6 (mk0 rfl) rfl) (bind_cg fun x6 => ?_)
    refine Eq.trans (q_icmp_le (t := 14) dX13_end_9 (mk0 rfl) rfl) (ite_cg ?_ ?_)
    · refine Eq.trans (q_aload_n dX13_end_14 (mk0 rfl) rfl rfl) ?_
      refine Eq.trans (q_iload_n dX13_end_15 (mk0 rfl) rfl) ?_
      refine Eq.trans (q_put (ci := 13) (k := 28) (kd := 0) dX13_end_16 (mk0 rfl) rfl rfl (fun h => by cases h)) (bind_cg fun h16 => ?_)
      refine Eq.trans (q_iload_n dX13_end_19 (mk0 rfl) rfl) ?_
      exact q_ireturn dX13_end_20 (mk0 rfl) rfl
    · rfl
set_option maxRecDepth 20000 in
theorem bX13_end_12 {L : Nat} {xs : Nat → Int32} (d : Nat) (u0 : Option Value) (u1 : Option Value) (ph : PH) : RS (ZZ L xs) (d + 1) mX13_end 12 [u0, u1] [] ph = some (ph, some (.int ((-1)))) := by
  refine Eq.trans (q_iconst (v := (-1)) dX13_end_12 (show mK mX13_end 12 [u0, u1] = [none, none] from rfl) rfl) ?_
  exact q_ireturn dX13_end_13 (mk0 rfl) rfl
set_option maxRecDepth 20000 in
theorem bX13_wordOf_0 {L : Nat} {xs : Nat → Int32} (d : Nat) (i0 : Int32) (ph : PH) : RS (ZZ L xs) (d + 1) mX13_wordOf 0 [some (.int i0)] [] ph = if (i0 : Int32) = 0 then RS (ZZ L xs) (d + 1) mX13_wordOf 60 [some (.int i0)] [] ph else if (i0 : Int32) = 1 then RS (ZZ L xs) (d + 1) mX13_wordOf 63 [some (.int i0)] [] ph else if (i0 : Int32) = 2 then RS (ZZ L xs) (d + 1) mX13_wordOf 66 [some (.int i0)] [] ph else if (i0 : Int32) = 3 then RS (ZZ L xs) (d + 1) mX13_wordOf 69 [some (.int i0)] [] ph else if (i0 : Int32) = 4 then RS (ZZ L xs) (d + 1) mX13_wordOf 72 [some (.int i0)] [] ph else if (i0 : Int32) = 5 then RS (ZZ L xs) (d + 1) mX13_wordOf 75 [some (.int i0)] [] ph else if (i0 : Int32) = 6 then RS (ZZ L xs) (d + 1) mX13_wordOf 78 [some (.int i0)] [] ph else if (i0 : Int32) = 7 then RS (ZZ L xs) (d + 1) mX13_wordOf 81 [some (.int i0)] [] ph else if (i0 : Int32) = 8 then RS (ZZ L xs) (d + 1) mX13_wordOf 84 [some (.int i0)] [] ph else if (i0 : Int32) = 9 then RS (ZZ L xs) (d + 1) mX13_wordOf 87 [some (.int i0)] [] ph else if (i0 : Int32) = 10 then RS (ZZ L xs) (d + 1) mX13_wordOf 90 [some (.int i0)] [] ph else RS (ZZ L xs) (d + 1) mX13_wordOf 93 [some (.int i0)] [] ph := by
  refine Eq.trans (q_iload_n dX13_wordOf_0 (mk0 rfl) rfl) ?_
  refine Eq.trans (q_tableswitch dX13_wordOf_1 (mk0 rfl)) ?_
  generalize (i0 : Int32) = y1
  by_cases hy0 : y1 = 0
  · rw [if_pos hy0, hy0]; rfl
  rw [if_neg hy0]
  by_cases hy1 : y1 = 1
  · rw [if_pos hy1, hy1]; rfl
  rw [if_neg hy1]
  by_cases hy2 : y1 = 2
  · rw [if_pos hy2, hy2]; rfl
  rw [if_neg hy2]
  by_cases hy3 : y1 = 3
  · rw [if_pos hy3, hy3]; rfl
  rw [if_neg hy3]
  by_cases hy4 : y1 = 4
  · rw [if_pos hy4, hy4]; rfl
  rw [if_neg hy4]
  by_cases hy5 : y1 = 5
  · rw [if_pos hy5, hy5]; rfl
  rw [if_neg hy5]
  by_cases hy6 : y1 = 6
  · rw [if_pos hy6, hy6]; rfl
  rw [if_neg hy6]
  by_cases hy7 : y1 = 7
  · rw [if_pos hy7, hy7]; rfl
  rw [if_neg hy7]
  by_cases hy8 : y1 = 8
  · rw [if_pos hy8, hy8]; rfl
  rw [if_neg hy8]
  by_cases hy9 : y1 = 9
  · rw [if_pos hy9, hy9]; rfl
  rw [if_neg hy9]
  by_cases hy10 : y1 = 10
  · rw [if_pos hy10, hy10]; rfl
  rw [if_neg hy10]
  have ny0 := i32_ne hy0 (n := 0) rfl
  have ny1 := i32_ne hy1 (n := 1) rfl
  have ny2 := i32_ne hy2 (n := 2) rfl
  have ny3 := i32_ne hy3 (n := 3) rfl
  have ny4 := i32_ne hy4 (n := 4) rfl
  have ny5 := i32_ne hy5 (n := 5) rfl
  have ny6 := i32_ne hy6 (n := 6) rfl
  have ny7 := i32_ne hy7 (n := 7) rfl
  have ny8 := i32_ne hy8 (n := 8) rfl
  have ny9 := i32_ne hy9 (n := 9) rfl
  have ny10 := i32_ne hy10 (n := 10) rfl
  rw [sw_out (t := 93) (by omega) rfl]
  rfl
set_option maxRecDepth 20000 in
theorem bX13_wordOf_60 {L : Nat} {xs : Nat → Int32} (d : Nat) (u0 : Option Value) (ph : PH) : RS (ZZ L xs) (d + 1) mX13_wordOf 60 [u0] [] ph = some (ph, some (.retAddr 15)) := by
  refine Eq.trans (q_ldcS (k := 15) dX13_wordOf_60 (show mK mX13_wordOf 60 [u0] = [none] from rfl) rfl) ?_
  exact q_areturn dX13_wordOf_62 (mk0 rfl) rfl rfl
set_option maxRecDepth 20000 in
theorem bX13_wordOf_63 {L : Nat} {xs : Nat → Int32} (d : Nat) (u0 : Option Value) (ph : PH) : RS (ZZ L xs) (d + 1) mX13_wordOf 63 [u0] [] ph = some (ph, some (.retAddr 14)) := by
  refine Eq.trans (q_ldcS (k := 14) dX13_wordOf_63 (show mK mX13_wordOf 63 [u0] = [none] from rfl) rfl) ?_
  exact q_areturn dX13_wordOf_65 (mk0 rfl) rfl rfl
set_option maxRecDepth 20000 in
theorem bX13_wordOf_66 {L : Nat} {xs : Nat → Int32} (d : Nat) (u0 : Option Value) (ph : PH) : RS (ZZ L xs) (d + 1) mX13_wordOf 66 [u0] [] ph = some (ph, some (.retAddr 17)) := by
  refine Eq.trans (q_ldcS (k := 17) dX13_wordOf_66 (show mK mX13_wordOf 66 [u0] = [none] from rfl) rfl) ?_
  exact q_areturn dX13_wordOf_68 (mk0 rfl) rfl rfl
set_option maxRecDepth 20000 in
theorem bX13_wordOf_69 {L : Nat} {xs : Nat → Int32} (d : Nat) (u0 : Option Value) (ph : PH) : RS (ZZ L xs) (d + 1) mX13_wordOf 69 [u0] [] ph = some (ph, some (.retAddr 18)) := by
  refine Eq.trans (q_ldcS (k := 18) dX13_wordOf_69 (show mK mX13_wordOf 69 [u0] = [none] from rfl) rfl) ?_
  exact q_areturn dX13_wordOf_71 (mk0 rfl) rfl rfl
set_option maxRecDepth 20000 in
theorem bX13_wordOf_72 {L : Nat} {xs : Nat → Int32} (d : Nat) (u0 : Option Value) (ph : PH) : RS (ZZ L xs) (d + 1) mX13_wordOf 72 [u0] [] ph = some (ph, some (.retAddr 19)) := by
  refine Eq.trans (q_ldcS (k := 19) dX13_wordOf_72 (show mK mX13_wordOf 72 [u0] = [none] from rfl) rfl) ?_
  exact q_areturn dX13_wordOf_74 (mk0 rfl) rfl rfl
set_option maxRecDepth 20000 in
theorem bX13_wordOf_75 {L : Nat} {xs : Nat → Int32} (d : Nat) (u0 : Option Value) (ph : PH) : RS (ZZ L xs) (d + 1) mX13_wordOf 75 [u0] [] ph = some (ph, some (.retAddr 20)) := by
  refine Eq.trans (q_ldcS (k := 20) dX13_wordOf_75 (show mK mX13_wordOf 75 [u0] = [none] from rfl) rfl) ?_
  exact q_areturn dX13_wordOf_77 (mk0 rfl) rfl rfl
set_option maxRecDepth 20000 in
theorem bX13_wordOf_78 {L : Nat} {xs : Nat → Int32} (d : Nat) (u0 : Option Value) (ph : PH) : RS (ZZ L xs) (d + 1) mX13_wordOf 78 [u0] [] ph = some (ph, some (.retAddr 21)) := by
  refine Eq.trans (q_ldcS (k := 21) dX13_wordOf_78 (show mK mX13_wordOf 78 [u0] = [none] from rfl) rfl) ?_
  exact q_areturn dX13_wordOf_80 (mk0 rfl) rfl rfl
set_option maxRecDepth 20000 in
theorem bX13_wordOf_81 {L : Nat} {xs : Nat → Int32} (d : Nat) (u0 : Option Value) (ph : PH) : RS (ZZ L xs) (d + 1) mX13_wordOf 81 [u0] [] ph = some (ph, some (.retAddr 22)) := by
  refine Eq.trans (q_ldcS (k := 22) dX13_wordOf_81 (show mK mX13_wordOf 81 [u0] = [none] from rfl) rfl) ?_
  exact q_areturn dX13_wordOf_83 (mk0 rfl) rfl rfl
set_option maxRecDepth 20000 in
theorem bX13_wordOf_84 {L : Nat} {xs : Nat → Int32} (d : Nat) (u0 : Option Value) (ph : PH) : RS (ZZ L xs) (d + 1) mX13_wordOf 84 [u0] [] ph = some (ph, some (.retAddr 23)) := by
  refine Eq.trans (q_ldcS (k := 23) dX13_wordOf_84 (show mK mX13_wordOf 84 [u0] = [none] from rfl) rfl) ?_
  exact q_areturn dX13_wordOf_86 (mk0 rfl) rfl rfl
set_option maxRecDepth 20000 in
theorem bX13_wordOf_87 {L : Nat} {xs : Nat → Int32} (d : Nat) (u0 : Option Value) (ph : PH) : RS (ZZ L xs) (d + 1) mX13_wordOf 87 [u0] [] ph = some (ph, some (.retAddr 24)) := by
  refine Eq.trans (q_ldcS (k := 24) dX13_wordOf_87 (show mK mX13_wordOf 87 [u0] = [none] from rfl) rfl) ?_
  exact q_areturn dX13_wordOf_89 (mk0 rfl) rfl rfl
set_option maxRecDepth 20000 in
theorem bX13_wordOf_90 {L : Nat} {xs : Nat → Int32} (d : Nat) (u0 : Option Value) (ph : PH) : RS (ZZ L xs) (d + 1) mX13_wordOf 90 [u0] [] ph = some (ph, some (.retAddr 25)) := by
  refine Eq.trans (q_ldcS (k := 25) dX13_wordOf_90 (show mK mX13_wordOf 90 [u0] = [none] from rfl) rfl) ?_
  exact q_areturn dX13_wordOf_92 (mk0 rfl) rfl rfl
set_option maxRecDepth 20000 in
theorem bX13_wordOf_93 {L : Nat} {xs : Nat → Int32} (d : Nat) (u0 : Option Value) (ph : PH) : RS (ZZ L xs) (d + 1) mX13_wordOf 93 [u0] [] ph = some (ph, some (.retAddr 26)) := by
  refine Eq.trans (q_ldcS (k := 26) dX13_wordOf_93 (show mK mX13_wordOf 93 [u0] = [none] from rfl) rfl) ?_
  exact q_areturn dX13_wordOf_95 (mk0 rfl) rfl rfl
set_option maxRecDepth 20000 in
theorem bX13_fails_0 {L : Nat} {xs : Nat → Int32} (d : Nat) (o : Nat) (i1 : Int32) (i2 : Int32) (ph : PH) : RS (ZZ L xs) (d + 1) mX13_fails 0 [some (.ref o), some (.int i1), some (.int i2)] [] ph = (fI ph (.ref o) 13 30).bind fun x2 => if ¬ (x2 : Int32) = 0 then (fI ph (.ref o) 13 30).bind fun x20 => RS (ZZ L xs) (d + 1) mX13_fails 23 [some (.ref o), some (.int i1), some (.int i2)] [.int x20, .ref o] ph else RS (ZZ L xs) (d + 1) mX13_fails 23 [some (.ref o), some (.int i1), some (.int i2)] [.int ((1 + (8 * i2)) + i1), .ref o] ph := by
  refine Eq.trans (q_aload_n dX13_fails_0 (mk0 rfl) rfl rfl) ?_
  refine Eq.trans (q_aload_n dX13_fails_1 (mk0 rfl) rfl rfl) ?_
  refine Eq.trans (q_getI (ci := 13) (k := 30) dX13_fails_2 (mk0 rfl) rfl) (bind_cg fun x2 => ?_)
  refine Eq.trans (q_if_ne (t := 19) dX13_fails_5 (mk0 rfl) rfl) (ite_cg ?_ ?_)
  · refine Eq.trans (q_aload_n dX13_fails_19 (mk0 rfl) rfl rfl) ?_
    refine Eq.trans (q_getI (ci := 13) (k := 30) dX13_fails_20 (mk0 rfl) rfl) (bind_cg fun x20 => ?_)
    rfl
  · refine Eq.trans (q_iconst (v := 1) dX13_fails_8 (mk0 rfl) rfl) ?_
    refine Eq.trans (q_bipush (v := 8) dX13_fails_9 (mk0 rfl) rfl) ?_
    refine Eq.trans (q_iload_n dX13_fails_11 (mk0 rfl) rfl) ?_
    refine Eq.trans (q_imul dX13_fails_12 (mk0 rfl)) ?_
    refine Eq.trans (q_iadd dX13_fails_13 (mk0 rfl)) ?_
    refine Eq.trans (q_iload_n dX13_fails_14 (mk0 rfl) rfl) ?_
    refine Eq.trans (q_iadd dX13_fails_15 (mk0 rfl)) ?_
    refine Eq.trans (q_goto (t := 23) dX13_fails_16 (mk0 rfl) rfl) ?_
    rfl
set_option maxRecDepth 20000 in
theorem bX13_fails_23 {L : Nat} {xs : Nat → Int32} (d : Nat) (u0 : Option Value) (u1 : Option Value) (u2 : Option Value) (t0 : Int32) (w1 : Value) (hw1 : isR w1 = true) (ph : PH) : RS (ZZ L xs) (d + 1) mX13_fails 23 [u0, u1, u2] [.int t0, w1] ph = (fP ph w1 13 30 (.int t0)).bind fun h23 => some (h23, none) := by
  refine Eq.trans (q_put (ci := 13) (k := 30) (kd := 0) dX13_fails_23 (show mK mX13_fails 23 [u0, u1, u2] = [none, none, none] from rfl) rfl rfl (fun h => by cases h)) (bind_cg fun h23 => ?_)
  exact q_return dX13_fails_26 (mk0 rfl) rfl
set_option maxRecDepth 20000 in
theorem bX13_sign_0 {L : Nat} {xs : Nat → Int32} (d : Nat) (o : Nat) (ph : PH) : RS (ZZ L xs) (d + 1) mX13_sign 0 [some (.ref o)] [] ph = (fI ph (.ref o) 13 29).bind fun x1 => (fI ph (.ref o) 13 28).bind fun x5 => if (x5 : Int32) ≤ x1 then RS (ZZ L xs) (d + 1) mX13_sign 28 [some (.ref o)] [.int ((-1))] ph else (fR ph (.ref o) 13 38).bind fun x12 => (fI ph (.ref o) 13 29).bind fun x16 => (eB ph x12 x16).bind fun x19 => RS (ZZ L xs) (d + 1) mX13_sign 28 [some (.ref o)] [.int (x19 &&& 255)] ph := by
  refine Eq.trans (q_aload_n dX13_sign_0 (mk0 rfl) rfl rfl) ?_
  refine Eq.trans (q_getI (ci := 13) (k := 29) dX13_sign_1 (mk0 rfl) rfl) (bind_cg fun x1 => ?_)
  refine Eq.trans (q_aload_n dX13_sign_4 (mk0 rfl) rfl rfl) ?_
  refine Eq.trans (q_getI (ci := 13) (k := 28) dX13_sign_5 (mk0 rfl) rfl) (bind_cg fun x5 => ?_)
  refine Eq.trans (q_icmp_ge (t := 27) dX13_sign_8 (mk0 rfl) rfl) (ite_cg ?_ ?_)
  · refine Eq.trans (q_iconst (v := (-1)) dX13_sign_27 (mk0 rfl) rfl) ?_
    rfl
  · refine Eq.trans (q_aload_n dX13_sign_11 (mk0 rfl) rfl rfl) ?_
    refine Eq.trans (q_getR (ci := 13) (k := 38) dX13_sign_12 (mk0 rfl) rfl) (bind_cg2 fun x12 hx12 => ?_)
    have hx12 := fR_isR hx12
    refine Eq.trans (q_aload_n dX13_sign_15 (mk0 rfl) rfl rfl) ?_
    refine Eq.trans (q_getI (ci := 13) (k := 29) dX13_sign_16 (mk0 rfl) rfl) (bind_cg fun x16 => ?_)
    refine Eq.trans (q_baload dX13_sign_19 (mk0 rfl)) (bind_cg fun x19 => ?_)
    refine Eq.trans (q_sipush (v := 255) dX13_sign_20 (mk0 rfl) rfl) ?_
    refine Eq.trans (q_iand dX13_sign_23 (mk0 rfl)) ?_
    refine Eq.trans (q_goto (t := 28) dX13_sign_24 (mk0 rfl) rfl) ?_
    rfl
set_option maxRecDepth 20000 in
theorem bX13_sign_28 {L : Nat} {xs : Nat → Int32} (d : Nat) (u0 : Option Value) (t0 : Int32) (ph : PH) : RS (ZZ L xs) (d + 1) mX13_sign 28 [u0] [.int t0] ph = some (ph, some (.int t0)) := by
  exact q_ireturn dX13_sign_28 (show mK mX13_sign 28 [u0] = [none] from rfl) rfl
set_option maxRecDepth 20000 in
theorem bX13_blanks_0 {L : Nat} {xs : Nat → Int32} (d : Nat) (o : Nat) (ph : PH) : RS (ZZ L xs) (d + 1) mX13_blanks 0 [some (.ref o)] [] ph = (iO ph (.ref o) 13).bind fun b1 => (cI (ZZ L xs) d mX13_sign [.ref b1] ph).bind fun p1 => if ¬ (p1.2 : Int32) = 32 then some (p1.1, none) else (fI p1.1 (.ref o) 13 29).bind fun x11 => (fP p1.1 (.ref o) 13 29 (.int (x11 + 1))).bind fun h16 => RS (ZZ L xs) (d + 1) mX13_blanks 0 [some (.ref o)] [] h16 := by
  refine Eq.trans (q_aload_n dX13_blanks_0 (mk0 rfl) rfl rfl) ?_
  refine Eq.trans (q_callV (as := []) dX13_blanks_1 (mk0 rfl) rfl rfl rfl (Nat.le_of_ble_eq_true rfl) (Nat.le_of_ble_eq_true rfl)) (bind_cg fun b1 => ?_)
  refine Eq.trans (cI_bind (Or.inl rfl)) (bind_cg fun p1 => ?_)
  show RS (ZZ L xs) (d + 1) mX13_blanks 4 [some (.ref o)] [.int p1.2] p1.1 = _
  refine Eq.trans (q_bipush (v := 32) dX13_blanks_4 (mk0 rfl) rfl) ?_
  refine Eq.trans (q_icmp_ne (t := 22) dX13_blanks_6 (mk0 rfl) rfl) (ite_cg ?_ ?_)
  · exact q_return dX13_blanks_22 (mk0 rfl) rfl
  · refine Eq.trans (q_aload_n dX13_blanks_9 (mk0 rfl) rfl rfl) ?_
    refine Eq.trans (q_dup dX13_blanks_10 (mk0 rfl) rfl) ?_
    refine Eq.trans (q_getI (ci := 13) (k := 29) dX13_blanks_11 (mk0 rfl) rfl) (bind_cg fun x11 => ?_)
    refine Eq.trans (q_iconst (v := 1) dX13_blanks_14 (mk0 rfl) rfl) ?_
    refine Eq.trans (q_iadd dX13_blanks_15 (mk0 rfl)) ?_
    refine Eq.trans (q_put (ci := 13) (k := 29) (kd := 0) dX13_blanks_16 (mk0 rfl) rfl rfl (fun h => by cases h)) (bind_cg fun h16 => ?_)
    refine Eq.trans (q_goto (t := 0) dX13_blanks_19 (mk0 rfl) rfl) ?_
    rfl
set_option maxRecDepth 20000 in
theorem bX13_isDigit_0 {L : Nat} {xs : Nat → Int32} (d : Nat) (o : Nat) (ph : PH) : RS (ZZ L xs) (d + 1) mX13_isDigit 0 [some (.ref o)] [] ph = (iO ph (.ref o) 13).bind fun b1 => (cI (ZZ L xs) d mX13_sign [.ref b1] ph).bind fun p1 => (cI (ZZ L xs) d mX13_in [.long ((p1.2 : Int32).toInt64), .long 48, .long 57] p1.1).bind fun p11 => if (p11.2 : Int32) = 0 ∨ (p11.2 : Int32) = 1 then some (p11.1, some (.int p11.2)) else none := by
  refine Eq.trans (q_aload_n dX13_isDigit_0 (mk0 rfl) rfl rfl) ?_
  refine Eq.trans (q_callV (as := []) dX13_isDigit_1 (mk0 rfl) rfl rfl rfl (Nat.le_of_ble_eq_true rfl) (Nat.le_of_ble_eq_true rfl)) (bind_cg fun b1 => ?_)
  refine Eq.trans (cI_bind (Or.inl rfl)) (bind_cg fun p1 => ?_)
  show RS (ZZ L xs) (d + 1) mX13_isDigit 4 [some (.ref o)] [.int p1.2] p1.1 = _
  refine Eq.trans (q_i2l dX13_isDigit_4 (mk0 rfl)) ?_
  refine Eq.trans (q_ldc2 (v := 48) dX13_isDigit_5 (mk0 rfl) rfl) ?_
  refine Eq.trans (q_ldc2 (v := 57) dX13_isDigit_8 (mk0 rfl) rfl) ?_
  refine Eq.trans (q_callS (as := [.long ((p1.2 : Int32).toInt64), .long 48, .long 57]) dX13_isDigit_11 (mk0 rfl) rfl (Or.inl rfl) rfl rfl (Nat.le_of_ble_eq_true rfl) (Nat.le_of_ble_eq_true rfl)) ?_
  refine Eq.trans (cI_bind (Or.inr rfl)) (bind_cg fun p11 => ?_)
  show RS (ZZ L xs) (d + 1) mX13_isDigit 14 [some (.ref o)] [.int p11.2] p11.1 = _
  exact q_zreturn dX13_isDigit_14 (mk0 rfl) rfl
set_option maxRecDepth 20000 in
theorem bX13_stood_0 {L : Nat} {xs : Nat → Int32} (d : Nat) (o : Nat) (v1 : Value) (hv1 : isA v1 = true) (ph : PH) : RS (ZZ L xs) (d + 1) mX13_stood 0 [some (.ref o), some (v1), none, none, none] [] ph = (fI ph (.ref o) 13 29).bind fun x1 => RS (ZZ L xs) (d + 1) mX13_stood 5 [some (.ref o), some (v1), some (.int x1), none, none] [] ph := by
  refine Eq.trans (q_aload_n dX13_stood_0 (mk0 rfl) rfl rfl) ?_
  refine Eq.trans (q_getI (ci := 13) (k := 29) dX13_stood_1 (mk0 rfl) rfl) (bind_cg fun x1 => ?_)
  refine Eq.trans (q_istore_n (lv2 := [some (.ref o), some (v1), some (.int x1), none, none]) dX13_stood_4 (mk0 rfl) (Nat.le_of_ble_eq_true rfl) (by simp [s1, s2, s0, (cat_A hv1)] <;> rfl)) ?_
  rfl
set_option maxRecDepth 20000 in
theorem bX13_stood_5 {L : Nat} {xs : Nat → Int32} (d : Nat) (o : Nat) (v1 : Value) (i2 : Int32) (u3 : Option Value) (u4 : Option Value) (hv1 : isA v1 = true) (ph : PH) : RS (ZZ L xs) (d + 1) mX13_stood 5 [some (.ref o), some (v1), some (.int i2), u3, u4] [] ph = (fI ph (.ref o) 13 28).bind fun x7 => if (x7 : Int32) ≤ i2 then RS (ZZ L xs) (d + 1) mX13_stood 41 [some (.ref o), some (v1), some (.int i2), none, none] [] ph else (fR ph (.ref o) 13 38).bind fun x14 => (eB ph x14 i2).bind fun x18 => if (x18 : Int32) < 97 then RS (ZZ L xs) (d + 1) mX13_stood 41 [some (.ref o), some (v1), some (.int i2), none, none] [] ph else (fR ph (.ref o) 13 38).bind fun x25 => (eB ph x25 i2).bind fun x29 => if (122 : Int32) < x29 then RS (ZZ L xs) (d + 1) mX13_stood 41 [some (.ref o), some (v1), some (.int i2), none, none] [] ph else RS (ZZ L xs) (d + 1) mX13_stood 5 [some (.ref o), some (v1), some (.int (i2 + 1)), none, none] [] ph := by
  refine Eq.trans (q_iload_n dX13_stood_5 (show mK mX13_stood 5 [some (.ref o), some (v1), some (.int i2), u3, u4] = [some (.ref o), some (v1), some (.int i2), none, none] from rfl) rfl) ?_
  refine Eq.trans (q_aload_n dX13_stood_6 (mk0 rfl) rfl rfl) ?_
  refine Eq.trans (q_getI (ci := 13) (k := 28) dX13_stood_7 (mk0 rfl) rfl) (bind_cg fun x7 => ?_)
  refine Eq.trans (q_icmp_ge (t := 41) dX13_stood_10 (mk0 rfl) rfl) (ite_cg ?_ ?_)
  · rfl
  · refine Eq.trans (q_aload_n dX13_stood_13 (mk0 rfl) rfl rfl) ?_
    refine Eq.trans (q_getR (ci := 13) (k := 38) dX13_stood_14 (mk0 rfl) rfl) (bind_cg2 fun x14 hx14 => ?_)
    have hx14 := fR_isR hx14
    refine Eq.trans (q_iload_n dX13_stood_17 (mk0 rfl) rfl) ?_
    refine Eq.trans (q_baload dX13_stood_18 (mk0 rfl)) (bind_cg fun x18 => ?_)
    refine Eq.trans (q_bipush (v := 97) dX13_stood_19 (mk0 rfl) rfl) ?_
    refine Eq.trans (q_icmp_lt (t := 41) dX13_stood_21 (mk0 rfl) rfl) (ite_cg ?_ ?_)
    · rfl
    · refine Eq.trans (q_aload_n dX13_stood_24 (mk0 rfl) rfl rfl) ?_
      refine Eq.trans (q_getR (ci := 13) (k := 38) dX13_stood_25 (mk0 rfl) rfl) (bind_cg2 fun x25 hx25 => ?_)
      have hx25 := fR_isR hx25
      refine Eq.trans (q_iload_n dX13_stood_28 (mk0 rfl) rfl) ?_
      refine Eq.trans (q_baload dX13_stood_29 (mk0 rfl)) (bind_cg fun x29 => ?_)
      refine Eq.trans (q_bipush (v := 122) dX13_stood_30 (mk0 rfl) rfl) ?_
      refine Eq.trans (q_icmp_gt (t := 41) dX13_stood_32 (mk0 rfl) rfl) (ite_cg ?_ ?_)
      · rfl
      · refine Eq.trans (q_iinc (v := 1) (lv2 := [some (.ref o), some (v1), some (.int (i2 + 1)), none, none]) dX13_stood_35 (mk0 rfl) rfl rfl (by simp [s1, s2, s0, (cat_A hv1)] <;> rfl)) ?_
        refine Eq.trans (q_goto (t := 5) dX13_stood_38 (mk0 rfl) rfl) ?_
        rfl
set_option maxRecDepth 20000 in
theorem bX13_stood_41 {L : Nat} {xs : Nat → Int32} (d : Nat) (o : Nat) (v1 : Value) (i2 : Int32) (u3 : Option Value) (u4 : Option Value) (hv1 : isA v1 = true) (ph : PH) : RS (ZZ L xs) (d + 1) mX13_stood 41 [some (.ref o), some (v1), some (.int i2), u3, u4] [] ph = (fI ph (.ref o) 13 29).bind fun x43 => (sN (ZZ L xs) v1).bind fun p48 => if ¬ (i2 - x43 : Int32) = p48 then RS (ZZ L xs) (d + 1) mX13_stood 59 [some (.ref o), some (v1), some (.int i2), none, none] [.int 0] ph else RS (ZZ L xs) (d + 1) mX13_stood 59 [some (.ref o), some (v1), some (.int i2), none, none] [.int 1] ph := by
  refine Eq.trans (q_iload_n dX13_stood_41 (show mK mX13_stood 41 [some (.ref o), some (v1), some (.int i2), u3, u4] = [some (.ref o), some (v1), some (.int i2), none, none] from rfl) rfl) ?_
  refine Eq.trans (q_aload_n dX13_stood_42 (mk0 rfl) rfl rfl) ?_
  refine Eq.trans (q_getI (ci := 13) (k := 29) dX13_stood_43 (mk0 rfl) rfl) (bind_cg fun x43 => ?_)
  refine Eq.trans (q_isub dX13_stood_46 (mk0 rfl)) ?_
  refine Eq.trans (q_aload_n dX13_stood_47 (mk0 rfl) rfl hv1) ?_
  refine Eq.trans (q_slen dX13_stood_48 (mk0 rfl) rfl (Nat.le_of_ble_eq_true rfl)) (bind_cg fun p48 => ?_)
  refine Eq.trans (q_icmp_ne (t := 58) dX13_stood_51 (mk0 rfl) rfl) (ite_cg ?_ ?_)
  · refine Eq.trans (q_iconst (v := 0) dX13_stood_58 (mk0 rfl) rfl) ?_
    rfl
  · refine Eq.trans (q_iconst (v := 1) dX13_stood_54 (mk0 rfl) rfl) ?_
    refine Eq.trans (q_goto (t := 59) dX13_stood_55 (mk0 rfl) rfl) ?_
    rfl
set_option maxRecDepth 20000 in
theorem bX13_stood_59 {L : Nat} {xs : Nat → Int32} (d : Nat) (o : Nat) (v1 : Value) (u2 : Option Value) (u3 : Option Value) (u4 : Option Value) (t0 : Int32) (hv1 : isA v1 = true) (ph : PH) : RS (ZZ L xs) (d + 1) mX13_stood 59 [some (.ref o), some (v1), u2, u3, u4] [.int t0] ph = RS (ZZ L xs) (d + 1) mX13_stood 63 [some (.ref o), some (v1), none, some (.int t0), some (.int 0)] [] ph := by
  refine Eq.trans (q_istore_n (lv2 := [some (.ref o), some (v1), none, some (.int t0), none]) dX13_stood_59 (show mK mX13_stood 59 [some (.ref o), some (v1), u2, u3, u4] = [some (.ref o), some (v1), none, none, none] from rfl) (Nat.le_of_ble_eq_true rfl) rfl) ?_
  refine Eq.trans (q_iconst (v := 0) dX13_stood_60 (mk0 rfl) rfl) ?_
  refine Eq.trans (q_istore (lv2 := [some (.ref o), some (v1), none, some (.int t0), some (.int 0)]) dX13_stood_61 (mk0 rfl) (Nat.le_of_ble_eq_true rfl) rfl) ?_
  rfl
set_option maxRecDepth 20000 in
theorem bX13_stood_63 {L : Nat} {xs : Nat → Int32} (d : Nat) (o : Nat) (v1 : Value) (u2 : Option Value) (i3 : Int32) (i4 : Int32) (hv1 : isA v1 = true) (ph : PH) : RS (ZZ L xs) (d + 1) mX13_stood 63 [some (.ref o), some (v1), u2, some (.int i3), some (.int i4)] [] ph = (sN (ZZ L xs) v1).bind fun p66 => if (p66 : Int32) ≤ i4 then RS (ZZ L xs) (d + 1) mX13_stood 109 [some (.ref o), some (v1), none, some (.int i3), some (.int i4)] [] ph else if (i3 : Int32) = 0 then RS (ZZ L xs) (d + 1) mX13_stood 109 [some (.ref o), some (v1), none, some (.int i3), some (.int i4)] [] ph else (fR ph (.ref o) 13 38).bind fun x77 => (fI ph (.ref o) 13 29).bind fun x81 => (eB ph x77 (x81 + i4)).bind fun x87 => (sC (ZZ L xs) v1 i4).bind fun p91 => if ¬ (x87 : Int32) = p91 then RS (ZZ L xs) (d + 1) mX13_stood 102 [some (.ref o), some (v1), none, some (.int i3), some (.int i4)] [.int 0] ph else RS (ZZ L xs) (d + 1) mX13_stood 102 [some (.ref o), some (v1), none, some (.int i3), some (.int i4)] [.int 1] ph := by
  refine Eq.trans (q_iload dX13_stood_63 (show mK mX13_stood 63 [some (.ref o), some (v1), u2, some (.int i3), some (.int i4)] = [some (.ref o), some (v1), none, some (.int i3), some (.int i4)] from rfl) rfl) ?_
  refine Eq.trans (q_aload_n dX13_stood_65 (mk0 rfl) rfl hv1) ?_
  refine Eq.trans (q_slen dX13_stood_66 (mk0 rfl) rfl (Nat.le_of_ble_eq_true rfl)) (bind_cg fun p66 => ?_)
  refine Eq.trans (q_icmp_ge (t := 109) dX13_stood_69 (mk0 rfl) rfl) (ite_cg ?_ ?_)
  · rfl
  · refine Eq.trans (q_iload_n dX13_stood_72 (mk0 rfl) rfl) ?_
    refine Eq.trans (q_if_eq (t := 109) dX13_stood_73 (mk0 rfl) rfl) (ite_cg ?_ ?_)
    · rfl
    · refine Eq.trans (q_aload_n dX13_stood_76 (mk0 rfl) rfl rfl) ?_
      refine Eq.trans (q_getR (ci := 13) (k := 38) dX13_stood_77 (mk0 rfl) rfl) (bind_cg2 fun x77 hx77 => ?_)
      have hx77 := fR_isR hx77
      refine Eq.trans (q_aload_n dX13_stood_80 (mk0 rfl) rfl rfl) ?_
      refine Eq.trans (q_getI (ci := 13) (k := 29) dX13_stood_81 (mk0 rfl) rfl) (bind_cg fun x81 => ?_)
      refine Eq.trans (q_iload dX13_stood_84 (mk0 rfl) rfl) ?_
      refine Eq.trans (q_iadd dX13_stood_86 (mk0 rfl)) ?_
      refine Eq.trans (q_baload dX13_stood_87 (mk0 rfl)) (bind_cg fun x87 => ?_)
      refine Eq.trans (q_aload_n dX13_stood_88 (mk0 rfl) rfl hv1) ?_
      refine Eq.trans (q_iload dX13_stood_89 (mk0 rfl) rfl) ?_
      refine Eq.trans (q_schar dX13_stood_91 (mk0 rfl) rfl (Nat.le_of_ble_eq_true rfl)) (bind_cg fun p91 => ?_)
      refine Eq.trans (q_icmp_ne (t := 101) dX13_stood_94 (mk0 rfl) rfl) (ite_cg ?_ ?_)
      · refine Eq.trans (q_iconst (v := 0) dX13_stood_101 (mk0 rfl) rfl) ?_
        rfl
      · refine Eq.trans (q_iconst (v := 1) dX13_stood_97 (mk0 rfl) rfl) ?_
        refine Eq.trans (q_goto (t := 102) dX13_stood_98 (mk0 rfl) rfl) ?_
        rfl
set_option maxRecDepth 20000 in
theorem bX13_stood_102 {L : Nat} {xs : Nat → Int32} (d : Nat) (o : Nat) (v1 : Value) (u2 : Option Value) (u3 : Option Value) (i4 : Int32) (t0 : Int32) (hv1 : isA v1 = true) (ph : PH) : RS (ZZ L xs) (d + 1) mX13_stood 102 [some (.ref o), some (v1), u2, u3, some (.int i4)] [.int t0] ph = RS (ZZ L xs) (d + 1) mX13_stood 63 [some (.ref o), some (v1), none, some (.int t0), some (.int (i4 + 1))] [] ph := by
  refine Eq.trans (q_istore_n (lv2 := [some (.ref o), some (v1), none, some (.int t0), some (.int i4)]) dX13_stood_102 (show mK mX13_stood 102 [some (.ref o), some (v1), u2, u3, some (.int i4)] = [some (.ref o), some (v1), none, none, some (.int i4)] from rfl) (Nat.le_of_ble_eq_true rfl) rfl) ?_
  refine Eq.trans (q_iinc (v := 1) (lv2 := [some (.ref o), some (v1), none, some (.int t0), some (.int (i4 + 1))]) dX13_stood_103 (mk0 rfl) rfl rfl rfl) ?_
  refine Eq.trans (q_goto (t := 63) dX13_stood_106 (mk0 rfl) rfl) ?_
  rfl
set_option maxRecDepth 20000 in
theorem bX13_stood_109 {L : Nat} {xs : Nat → Int32} (d : Nat) (u0 : Option Value) (u1 : Option Value) (u2 : Option Value) (i3 : Int32) (u4 : Option Value) (ph : PH) : RS (ZZ L xs) (d + 1) mX13_stood 109 [u0, u1, u2, some (.int i3), u4] [] ph = if (i3 : Int32) = 0 ∨ (i3 : Int32) = 1 then some (ph, some (.int i3)) else none := by
  refine Eq.trans (q_iload_n dX13_stood_109 (show mK mX13_stood 109 [u0, u1, u2, some (.int i3), u4] = [none, none, none, some (.int i3), none] from rfl) rfl) ?_
  exact q_zreturn dX13_stood_110 (mk0 rfl) rfl
set_option maxRecDepth 20000 in
theorem bX13_takes_0 {L : Nat} {xs : Nat → Int32} (d : Nat) (o : Nat) (v1 : Value) (hv1 : isA v1 = true) (ph : PH) : RS (ZZ L xs) (d + 1) mX13_takes 0 [some (.ref o), some (v1), none] [] ph = (iO ph (.ref o) 13).bind fun b1 => (cV (ZZ L xs) d mX13_blanks [.ref b1] ph).bind fun p1 => (iO p1 (.ref o) 13).bind fun b6 => (cI (ZZ L xs) d mX13_stood [.ref b6, v1] p1).bind fun p6 => (fI p6.1 (.ref o) 13 29).bind fun x12 => if (p6.2 : Int32) = 0 then RS (ZZ L xs) (d + 1) mX13_takes 27 [some (.ref o), some (v1), some (.int p6.2)] [.int 0, .int x12, .ref o] p6.1 else (sN (ZZ L xs) v1).bind fun p20 => RS (ZZ L xs) (d + 1) mX13_takes 27 [some (.ref o), some (v1), some (.int p6.2)] [.int p20, .int x12, .ref o] p6.1 := by
  refine Eq.trans (q_aload_n dX13_takes_0 (mk0 rfl) rfl rfl) ?_
  refine Eq.trans (q_callV (as := []) dX13_takes_1 (mk0 rfl) rfl rfl rfl (Nat.le_of_ble_eq_true rfl) (Nat.le_of_ble_eq_true rfl)) (bind_cg fun b1 => ?_)
  refine Eq.trans (cV_bind rfl) (bind_cg fun p1 => ?_)
  show RS (ZZ L xs) (d + 1) mX13_takes 4 [some (.ref o), some (v1), none] [] p1 = _
  refine Eq.trans (q_aload_n dX13_takes_4 (mk0 rfl) rfl rfl) ?_
  refine Eq.trans (q_aload_n dX13_takes_5 (mk0 rfl) rfl hv1) ?_
  refine Eq.trans (q_callV (as := [v1]) dX13_takes_6 (mk0 rfl) rfl rfl rfl (Nat.le_of_ble_eq_true rfl) (by simp [eA, ct_i, ct_l, ct_r, ct_n, ct_x, mX13_stood, (cat_A hv1)])) (bind_cg fun b6 => ?_)
  refine Eq.trans (cI_bind (Or.inr rfl)) (bind_cg fun p6 => ?_)
  show RS (ZZ L xs) (d + 1) mX13_takes 9 [some (.ref o), some (v1), none] [.int p6.2] p6.1 = _
  refine Eq.trans (q_istore_n (lv2 := [some (.ref o), some (v1), some (.int p6.2)]) dX13_takes_9 (mk0 rfl) (Nat.le_of_ble_eq_true rfl) (by simp [s1, s2, s0, (cat_A hv1)] <;> rfl)) ?_
  refine Eq.trans (q_aload_n dX13_takes_10 (mk0 rfl) rfl rfl) ?_
  refine Eq.trans (q_dup dX13_takes_11 (mk0 rfl) rfl) ?_
  refine Eq.trans (q_getI (ci := 13) (k := 29) dX13_takes_12 (mk0 rfl) rfl) (bind_cg fun x12 => ?_)
  refine Eq.trans (q_iload_n dX13_takes_15 (mk0 rfl) rfl) ?_
  refine Eq.trans (q_if_eq (t := 26) dX13_takes_16 (mk0 rfl) rfl) (ite_cg ?_ ?_)
  · refine Eq.trans (q_iconst (v := 0) dX13_takes_26 (mk0 rfl) rfl) ?_
    rfl
  · refine Eq.trans (q_aload_n dX13_takes_19 (mk0 rfl) rfl hv1) ?_
    refine Eq.trans (q_slen dX13_takes_20 (mk0 rfl) rfl (Nat.le_of_ble_eq_true rfl)) (bind_cg fun p20 => ?_)
    refine Eq.trans (q_goto (t := 27) dX13_takes_23 (mk0 rfl) rfl) ?_
    rfl
set_option maxRecDepth 20000 in
theorem bX13_takes_27 {L : Nat} {xs : Nat → Int32} (d : Nat) (u0 : Option Value) (u1 : Option Value) (i2 : Int32) (t0 : Int32) (t1 : Int32) (w2 : Value) (hw2 : isR w2 = true) (ph : PH) : RS (ZZ L xs) (d + 1) mX13_takes 27 [u0, u1, some (.int i2)] [.int t0, .int t1, w2] ph = (fP ph w2 13 29 (.int (t1 + t0))).bind fun h28 => if (i2 : Int32) = 0 ∨ (i2 : Int32) = 1 then some (h28, some (.int i2)) else none := by
  refine Eq.trans (q_iadd dX13_takes_27 (show mK mX13_takes 27 [u0, u1, some (.int i2)] = [none, none, some (.int i2)] from rfl)) ?_
  refine Eq.trans (q_put (ci := 13) (k := 29) (kd := 0) dX13_takes_28 (mk0 rfl) rfl rfl (fun h => by cases h)) (bind_cg fun h28 => ?_)
  refine Eq.trans (q_iload_n dX13_takes_31 (mk0 rfl) rfl) ?_
  exact q_zreturn dX13_takes_32 (mk0 rfl) rfl
set_option maxRecDepth 20000 in
theorem bX13_entry_0 {L : Nat} {xs : Nat → Int32} (d : Nat) (o : Nat) (i1 : Int32) (i2 : Int32) (ph : PH) : RS (ZZ L xs) (d + 1) mX13_entry 0 [some (.ref o), some (.int i1), some (.int i2)] [] ph = (fI ph (.ref o) 13 30).bind fun x1 => if ¬ (x1 : Int32) = 0 then RS (ZZ L xs) (d + 1) mX13_entry 55 [some (.ref o), some (.int i1), some (.int i2)] [] ph else (fR ph (.ref o) 13 39).bind fun x8 => (fI ph (.ref o) 13 31).bind fun x15 => (fI ph (.ref o) 13 33).bind fun x20 => (wI ph x8 ((300 * x15) + x20) i1).bind fun h25 => (fR h25 (.ref o) 13 40).bind fun x27 => (fI h25 (.ref o) 13 31).bind fun x34 => (fI h25 (.ref o) 13 33).bind fun x39 => (wI h25 x27 ((300 * x34) + x39) i2).bind fun h44 => (fI h44 (.ref o) 13 33).bind fun x47 => (fP h44 (.ref o) 13 33 (.int (x47 + 1))).bind fun h52 => RS (ZZ L xs) (d + 1) mX13_entry 55 [some (.ref o), some (.int i1), some (.int i2)] [] h52 := by
  refine Eq.trans (q_aload_n dX13_entry_0 (mk0 rfl) rfl rfl) ?_
  refine Eq.trans (q_getI (ci := 13) (k := 30) dX13_entry_1 (mk0 rfl) rfl) (bind_cg fun x1 => ?_)
  refine Eq.trans (q_if_ne (t := 55) dX13_entry_4 (mk0 rfl) rfl) (ite_cg ?_ ?_)
  · rfl
  · refine Eq.trans (q_aload_n dX13_entry_7 (mk0 rfl) rfl rfl) ?_
    refine Eq.trans (q_getR (ci := 13) (k := 39) dX13_entry_8 (mk0 rfl) rfl) (bind_cg2 fun x8 hx8 => ?_)
    have hx8 := fR_isR hx8
    refine Eq.trans (q_sipush (v := 300) dX13_entry_11 (mk0 rfl) rfl) ?_
    refine Eq.trans (q_aload_n dX13_entry_14 (mk0 rfl) rfl rfl) ?_
    refine Eq.trans (q_getI (ci := 13) (k := 31) dX13_entry_15 (mk0 rfl) rfl) (bind_cg fun x15 => ?_)
    refine Eq.trans (q_imul dX13_entry_18 (mk0 rfl)) ?_
    refine Eq.trans (q_aload_n dX13_entry_19 (mk0 rfl) rfl rfl) ?_
    refine Eq.trans (q_getI (ci := 13) (k := 33) dX13_entry_20 (mk0 rfl) rfl) (bind_cg fun x20 => ?_)
    refine Eq.trans (q_iadd dX13_entry_23 (mk0 rfl)) ?_
    refine Eq.trans (q_iload_n dX13_entry_24 (mk0 rfl) rfl) ?_
    refine Eq.trans (q_iastore dX13_entry_25 (mk0 rfl)) (bind_cg fun h25 => ?_)
    refine Eq.trans (q_aload_n dX13_entry_26 (mk0 rfl) rfl rfl) ?_
    refine Eq.trans (q_getR (ci := 13) (k := 40) dX13_entry_27 (mk0 rfl) rfl) (bind_cg2 fun x27 hx27 => ?_)
    have hx27 := fR_isR hx27
    refine Eq.trans (q_sipush (v := 300) dX13_entry_30 (mk0 rfl) rfl) ?_
    refine Eq.trans (q_aload_n dX13_entry_33 (mk0 rfl) rfl rfl) ?_
    refine Eq.trans (q_getI (ci := 13) (k := 31) dX13_entry_34 (mk0 rfl) rfl) (bind_cg fun x34 => ?_)
    refine Eq.trans (q_imul dX13_entry_37 (mk0 rfl)) ?_
    refine Eq.trans (q_aload_n dX13_entry_38 (mk0 rfl) rfl rfl) ?_
    refine Eq.trans (q_getI (ci := 13) (k := 33) dX13_entry_39 (mk0 rfl) rfl) (bind_cg fun x39 => ?_)
    refine Eq.trans (q_iadd dX13_entry_42 (mk0 rfl)) ?_
    refine Eq.trans (q_iload_n dX13_entry_43 (mk0 rfl) rfl) ?_
    refine Eq.trans (q_iastore dX13_entry_44 (mk0 rfl)) (bind_cg fun h44 => ?_)
    refine Eq.trans (q_aload_n dX13_entry_45 (mk0 rfl) rfl rfl) ?_
    refine Eq.trans (q_dup dX13_entry_46 (mk0 rfl) rfl) ?_
    refine Eq.trans (q_getI (ci := 13) (k := 33) dX13_entry_47 (mk0 rfl) rfl) (bind_cg fun x47 => ?_)
    refine Eq.trans (q_iconst (v := 1) dX13_entry_50 (mk0 rfl) rfl) ?_
    refine Eq.trans (q_iadd dX13_entry_51 (mk0 rfl)) ?_
    refine Eq.trans (q_put (ci := 13) (k := 33) (kd := 0) dX13_entry_52 (mk0 rfl) rfl rfl (fun h => by cases h)) (bind_cg fun h52 => ?_)
    rfl
set_option maxRecDepth 20000 in
theorem bX13_entry_55 {L : Nat} {xs : Nat → Int32} (d : Nat) (u0 : Option Value) (u1 : Option Value) (u2 : Option Value) (ph : PH) : RS (ZZ L xs) (d + 1) mX13_entry 55 [u0, u1, u2] [] ph = some (ph, none) := by
  exact q_return dX13_entry_55 (show mK mX13_entry 55 [u0, u1, u2] = [none, none, none] from rfl) rfl
set_option maxRecDepth 20000 in
theorem bX13_isCounted_0 {L : Nat} {xs : Nat → Int32} (d : Nat) (o : Nat) (i1 : Int32) (ph : PH) : RS (ZZ L xs) (d + 1) mX13_isCounted 0 [some (.ref o), some (.int i1)] [] ph = (fI ph (.ref o) 13 35).bind fun x1 => if ¬ (x1 : Int32) = 60 then RS (ZZ L xs) (d + 1) mX13_isCounted 15 [some (.ref o), some (.int i1)] [] ph else (iO ph (.ref o) 13).bind fun b12 => (cV (ZZ L xs) d mX13_fails [.ref b12, .int 3, .int i1] ph).bind fun p12 => RS (ZZ L xs) (d + 1) mX13_isCounted 15 [some (.ref o), some (.int i1)] [] p12 := by
  refine Eq.trans (q_aload_n dX13_isCounted_0 (mk0 rfl) rfl rfl) ?_
  refine Eq.trans (q_getI (ci := 13) (k := 35) dX13_isCounted_1 (mk0 rfl) rfl) (bind_cg fun x1 => ?_)
  refine Eq.trans (q_bipush (v := 60) dX13_isCounted_4 (mk0 rfl) rfl) ?_
  refine Eq.trans (q_icmp_ne (t := 15) dX13_isCounted_6 (mk0 rfl) rfl) (ite_cg ?_ ?_)
  · rfl
  · refine Eq.trans (q_aload_n dX13_isCounted_9 (mk0 rfl) rfl rfl) ?_
    refine Eq.trans (q_iconst (v := 3) dX13_isCounted_10 (mk0 rfl) rfl) ?_
    refine Eq.trans (q_iload_n dX13_isCounted_11 (mk0 rfl) rfl) ?_
    refine Eq.trans (q_callV (as := [.int 3, .int i1]) dX13_isCounted_12 (mk0 rfl) rfl rfl rfl (Nat.le_of_ble_eq_true rfl) (Nat.le_of_ble_eq_true rfl)) (bind_cg fun b12 => ?_)
    refine Eq.trans (cV_bind rfl) (bind_cg fun p12 => ?_)
    show RS (ZZ L xs) (d + 1) mX13_isCounted 15 [some (.ref o), some (.int i1)] [] p12 = _
    rfl
set_option maxRecDepth 20000 in
theorem bX13_isCounted_15 {L : Nat} {xs : Nat → Int32} (d : Nat) (o : Nat) (u1 : Option Value) (ph : PH) : RS (ZZ L xs) (d + 1) mX13_isCounted 15 [some (.ref o), u1] [] ph = (fI ph (.ref o) 13 35).bind fun x17 => (fP ph (.ref o) 13 35 (.int (x17 + 1))).bind fun h22 => some (h22, none) := by
  refine Eq.trans (q_aload_n dX13_isCounted_15 (show mK mX13_isCounted 15 [some (.ref o), u1] = [some (.ref o), none] from rfl) rfl rfl) ?_
  refine Eq.trans (q_dup dX13_isCounted_16 (mk0 rfl) rfl) ?_
  refine Eq.trans (q_getI (ci := 13) (k := 35) dX13_isCounted_17 (mk0 rfl) rfl) (bind_cg fun x17 => ?_)
  refine Eq.trans (q_iconst (v := 1) dX13_isCounted_20 (mk0 rfl) rfl) ?_
  refine Eq.trans (q_iadd dX13_isCounted_21 (mk0 rfl)) ?_
  refine Eq.trans (q_put (ci := 13) (k := 35) (kd := 0) dX13_isCounted_22 (mk0 rfl) rfl rfl (fun h => by cases h)) (bind_cg fun h22 => ?_)
  exact q_return dX13_isCounted_25 (mk0 rfl) rfl
set_option maxRecDepth 20000 in
theorem bX13_digits_0 {L : Nat} {xs : Nat → Int32} (d : Nat) (o : Nat) (i1 : Int32) (ph : PH) : RS (ZZ L xs) (d + 1) mX13_digits 0 [some (.ref o), some (.int i1), none, none] [] ph = (iO ph (.ref o) 13).bind fun b1 => (cI (ZZ L xs) d mX13_isDigit [.ref b1] ph).bind fun p1 => if ¬ (p1.2 : Int32) = 0 then (fI p1.1 (.ref o) 13 29).bind fun x19 => RS (ZZ L xs) (d + 1) mX13_digits 25 [some (.ref o), some (.int i1), some (.int x19), some (.int 0)] [] p1.1 else (fI p1.1 (.ref o) 13 29).bind fun x10 => (iO p1.1 (.ref o) 13).bind fun b13 => (cV (ZZ L xs) d mX13_fails [.ref b13, .int 0, .int x10] p1.1).bind fun p13 => some (p13, some (.int 0)) := by
  refine Eq.trans (q_aload_n dX13_digits_0 (mk0 rfl) rfl rfl) ?_
  refine Eq.trans (q_callV (as := []) dX13_digits_1 (mk0 rfl) rfl rfl rfl (Nat.le_of_ble_eq_true rfl) (Nat.le_of_ble_eq_true rfl)) (bind_cg fun b1 => ?_)
  refine Eq.trans (cI_bind (Or.inr rfl)) (bind_cg fun p1 => ?_)
  show RS (ZZ L xs) (d + 1) mX13_digits 4 [some (.ref o), some (.int i1), none, none] [.int p1.2] p1.1 = _
  refine Eq.trans (q_if_ne (t := 18) dX13_digits_4 (mk0 rfl) rfl) (ite_cg ?_ ?_)
  · refine Eq.trans (q_aload_n dX13_digits_18 (mk0 rfl) rfl rfl) ?_
    refine Eq.trans (q_getI (ci := 13) (k := 29) dX13_digits_19 (mk0 rfl) rfl) (bind_cg fun x19 => ?_)
    refine Eq.trans (q_istore_n (lv2 := [some (.ref o), some (.int i1), some (.int x19), none]) dX13_digits_22 (mk0 rfl) (Nat.le_of_ble_eq_true rfl) rfl) ?_
    refine Eq.trans (q_iconst (v := 0) dX13_digits_23 (mk0 rfl) rfl) ?_
    refine Eq.trans (q_istore_n (lv2 := [some (.ref o), some (.int i1), some (.int x19), some (.int 0)]) dX13_digits_24 (mk0 rfl) (Nat.le_of_ble_eq_true rfl) rfl) ?_
    rfl
  · refine Eq.trans (q_aload_n dX13_digits_7 (mk0 rfl) rfl rfl) ?_
    refine Eq.trans (q_iconst (v := 0) dX13_digits_8 (mk0 rfl) rfl) ?_
    refine Eq.trans (q_aload_n dX13_digits_9 (mk0 rfl) rfl rfl) ?_
    refine Eq.trans (q_getI (ci := 13) (k := 29) dX13_digits_10 (mk0 rfl) rfl) (bind_cg fun x10 => ?_)
    refine Eq.trans (q_callV (as := [.int 0, .int x10]) dX13_digits_13 (mk0 rfl) rfl rfl rfl (Nat.le_of_ble_eq_true rfl) (Nat.le_of_ble_eq_true rfl)) (bind_cg fun b13 => ?_)
    refine Eq.trans (cV_bind rfl) (bind_cg fun p13 => ?_)
    show RS (ZZ L xs) (d + 1) mX13_digits 16 [some (.ref o), some (.int i1), none, none] [] p13 = _
    refine Eq.trans (q_iconst (v := 0) dX13_digits_16 (mk0 rfl) rfl) ?_
    exact q_ireturn dX13_digits_17 (mk0 rfl) rfl
set_option maxRecDepth 20000 in
theorem bX13_digits_25 {L : Nat} {xs : Nat → Int32} (d : Nat) (o : Nat) (i1 : Int32) (i2 : Int32) (i3 : Int32) (ph : PH) : RS (ZZ L xs) (d + 1) mX13_digits 25 [some (.ref o), some (.int i1), some (.int i2), some (.int i3)] [] ph = (iO ph (.ref o) 13).bind fun b26 => (cI (ZZ L xs) d mX13_isDigit [.ref b26] ph).bind fun p26 => if (p26.2 : Int32) = 0 then (fI p26.1 (.ref o) 13 29).bind fun x73 => if (5 : Int32) < x73 - i2 then RS (ZZ L xs) (d + 1) mX13_digits 87 [some (.ref o), some (.int i1), some (.int i2), some (.int i3)] [] p26.1 else if (i3 : Int32) ≤ i1 then RS (ZZ L xs) (d + 1) mX13_digits 93 [some (.ref o), some (.int i1), some (.int i2), some (.int i3)] [] p26.1 else RS (ZZ L xs) (d + 1) mX13_digits 87 [some (.ref o), some (.int i1), some (.int i2), some (.int i3)] [] p26.1 else (fI p26.1 (.ref o) 13 29).bind fun x33 => if (5 : Int32) ≤ x33 - i2 then RS (ZZ L xs) (d + 1) mX13_digits 58 [some (.ref o), some (.int i1), some (.int i2), some (.int i3)] [.int i3] p26.1 else (iO p26.1 (.ref o) 13).bind fun b47 => (cI (ZZ L xs) d mX13_sign [.ref b47] p26.1).bind fun p47 => RS (ZZ L xs) (d + 1) mX13_digits 58 [some (.ref o), some (.int i1), some (.int i2), some (.int i3)] [.int (((10 * i3) + p47.2) - 48)] p47.1 := by
  refine Eq.trans (q_aload_n dX13_digits_25 (mk0 rfl) rfl rfl) ?_
  refine Eq.trans (q_callV (as := []) dX13_digits_26 (mk0 rfl) rfl rfl rfl (Nat.le_of_ble_eq_true rfl) (Nat.le_of_ble_eq_true rfl)) (bind_cg fun b26 => ?_)
  refine Eq.trans (cI_bind (Or.inr rfl)) (bind_cg fun p26 => ?_)
  show RS (ZZ L xs) (d + 1) mX13_digits 29 [some (.ref o), some (.int i1), some (.int i2), some (.int i3)] [.int p26.2] p26.1 = _
  refine Eq.trans (q_if_eq (t := 72) dX13_digits_29 (mk0 rfl) rfl) (ite_cg ?_ ?_)
  · refine Eq.trans (q_aload_n dX13_digits_72 (mk0 rfl) rfl rfl) ?_
    refine Eq.trans (q_getI (ci := 13) (k := 29) dX13_digits_73 (mk0 rfl) rfl) (bind_cg fun x73 => ?_)
    refine Eq.trans (q_iload_n dX13_digits_76 (mk0 rfl) rfl) ?_
    refine Eq.trans (q_isub dX13_digits_77 (mk0 rfl)) ?_
    refine Eq.trans (q_iconst (v := 5) dX13_digits_78 (mk0 rfl) rfl) ?_
    refine Eq.trans (q_icmp_gt (t := 87) dX13_digits_79 (mk0 rfl) rfl) (ite_cg ?_ ?_)
    · rfl
    · refine Eq.trans (q_iload_n dX13_digits_82 (mk0 rfl) rfl) ?_
      refine Eq.trans (q_iload_n dX13_digits_83 (mk0 rfl) rfl) ?_
      refine Eq.trans (q_icmp_le (t := 93) dX13_digits_84 (mk0 rfl) rfl) (ite_cg ?_ ?_)
      · rfl
      · rfl
  · refine Eq.trans (q_aload_n dX13_digits_32 (mk0 rfl) rfl rfl) ?_
    refine Eq.trans (q_getI (ci := 13) (k := 29) dX13_digits_33 (mk0 rfl) rfl) (bind_cg fun x33 => ?_)
    refine Eq.trans (q_iload_n dX13_digits_36 (mk0 rfl) rfl) ?_
    refine Eq.trans (q_isub dX13_digits_37 (mk0 rfl)) ?_
    refine Eq.trans (q_iconst (v := 5) dX13_digits_38 (mk0 rfl) rfl) ?_
    refine Eq.trans (q_icmp_ge (t := 57) dX13_digits_39 (mk0 rfl) rfl) (ite_cg ?_ ?_)
    · refine Eq.trans (q_iload_n dX13_digits_57 (mk0 rfl) rfl) ?_
      rfl
    · refine Eq.trans (q_bipush (v := 10) dX13_digits_42 (mk0 rfl) rfl) ?_
      refine Eq.trans (q_iload_n dX13_digits_44 (mk0 rfl) rfl) ?_
      refine Eq.trans (q_imul dX13_digits_45 (mk0 rfl)) ?_
      refine Eq.trans (q_aload_n dX13_digits_46 (mk0 rfl) rfl rfl) ?_
      refine Eq.trans (q_callV (as := []) dX13_digits_47 (mk0 rfl) rfl rfl rfl (Nat.le_of_ble_eq_true rfl) (Nat.le_of_ble_eq_true rfl)) (bind_cg fun b47 => ?_)
      refine Eq.trans (cI_bind (Or.inl rfl)) (bind_cg fun p47 => ?_)
      show RS (ZZ L xs) (d + 1) mX13_digits 50 [some (.ref o), some (.int i1), some (.int i2), some (.int i3)] [.int p47.2, .int (10 * i3)] p47.1 = _
      refine Eq.trans (q_iadd dX13_digits_50 (mk0 rfl)) ?_
      refine Eq.trans (q_bipush (v := 48) dX13_digits_51 (mk0 rfl) rfl) ?_
      refine Eq.trans (q_isub dX13_digits_53 (mk0 rfl)) ?_
      refine Eq.trans (q_goto (t := 58) dX13_digits_54 (mk0 rfl) rfl) ?_
      rfl
set_option maxRecDepth 20000 in
theorem bX13_digits_58 {L : Nat} {xs : Nat → Int32} (d : Nat) (o : Nat) (i1 : Int32) (i2 : Int32) (u3 : Option Value) (t0 : Int32) (ph : PH) : RS (ZZ L xs) (d + 1) mX13_digits 58 [some (.ref o), some (.int i1), some (.int i2), u3] [.int t0] ph = (fI ph (.ref o) 13 29).bind fun x61 => (fP ph (.ref o) 13 29 (.int (x61 + 1))).bind fun h66 => RS (ZZ L xs) (d + 1) mX13_digits 25 [some (.ref o), some (.int i1), some (.int i2), some (.int t0)] [] h66 := by
  refine Eq.trans (q_istore_n (lv2 := [some (.ref o), some (.int i1), some (.int i2), some (.int t0)]) dX13_digits_58 (show mK mX13_digits 58 [some (.ref o), some (.int i1), some (.int i2), u3] = [some (.ref o), some (.int i1), some (.int i2), none] from rfl) (Nat.le_of_ble_eq_true rfl) rfl) ?_
  refine Eq.trans (q_aload_n dX13_digits_59 (mk0 rfl) rfl rfl) ?_
  refine Eq.trans (q_dup dX13_digits_60 (mk0 rfl) rfl) ?_
  refine Eq.trans (q_getI (ci := 13) (k := 29) dX13_digits_61 (mk0 rfl) rfl) (bind_cg fun x61 => ?_)
  refine Eq.trans (q_iconst (v := 1) dX13_digits_64 (mk0 rfl) rfl) ?_
  refine Eq.trans (q_iadd dX13_digits_65 (mk0 rfl)) ?_
  refine Eq.trans (q_put (ci := 13) (k := 29) (kd := 0) dX13_digits_66 (mk0 rfl) rfl rfl (fun h => by cases h)) (bind_cg fun h66 => ?_)
  refine Eq.trans (q_goto (t := 25) dX13_digits_69 (mk0 rfl) rfl) ?_
  rfl
set_option maxRecDepth 20000 in
theorem bX13_digits_87 {L : Nat} {xs : Nat → Int32} (d : Nat) (o : Nat) (u1 : Option Value) (i2 : Int32) (i3 : Int32) (ph : PH) : RS (ZZ L xs) (d + 1) mX13_digits 87 [some (.ref o), u1, some (.int i2), some (.int i3)] [] ph = (iO ph (.ref o) 13).bind fun b90 => (cV (ZZ L xs) d mX13_fails [.ref b90, .int 1, .int i2] ph).bind fun p90 => RS (ZZ L xs) (d + 1) mX13_digits 93 [some (.ref o), none, some (.int i2), some (.int i3)] [] p90 := by
  refine Eq.trans (q_aload_n dX13_digits_87 (show mK mX13_digits 87 [some (.ref o), u1, some (.int i2), some (.int i3)] = [some (.ref o), none, some (.int i2), some (.int i3)] from rfl) rfl rfl) ?_
  refine Eq.trans (q_iconst (v := 1) dX13_digits_88 (mk0 rfl) rfl) ?_
  refine Eq.trans (q_iload_n dX13_digits_89 (mk0 rfl) rfl) ?_
  refine Eq.trans (q_callV (as := [.int 1, .int i2]) dX13_digits_90 (mk0 rfl) rfl rfl rfl (Nat.le_of_ble_eq_true rfl) (Nat.le_of_ble_eq_true rfl)) (bind_cg fun b90 => ?_)
  refine Eq.trans (cV_bind rfl) (bind_cg fun p90 => ?_)
  show RS (ZZ L xs) (d + 1) mX13_digits 93 [some (.ref o), none, some (.int i2), some (.int i3)] [] p90 = _
  rfl
set_option maxRecDepth 20000 in
theorem bX13_digits_93 {L : Nat} {xs : Nat → Int32} (d : Nat) (u0 : Option Value) (u1 : Option Value) (u2 : Option Value) (i3 : Int32) (ph : PH) : RS (ZZ L xs) (d + 1) mX13_digits 93 [u0, u1, u2, some (.int i3)] [] ph = some (ph, some (.int i3)) := by
  refine Eq.trans (q_iload_n dX13_digits_93 (show mK mX13_digits 93 [u0, u1, u2, some (.int i3)] = [none, none, none, some (.int i3)] from rfl) rfl) ?_
  exact q_ireturn dX13_digits_94 (mk0 rfl) rfl
set_option maxRecDepth 20000 in
theorem bX13_value_0 {L : Nat} {xs : Nat → Int32} (d : Nat) (o : Nat) (ph : PH) : RS (ZZ L xs) (d + 1) mX13_value 0 [some (.ref o), none, none] [] ph = (iO ph (.ref o) 13).bind fun b1 => (cV (ZZ L xs) d mX13_blanks [.ref b1] ph).bind fun p1 => (fI p1 (.ref o) 13 29).bind fun x5 => (iO p1 (.ref o) 13).bind fun b10 => (cI (ZZ L xs) d mX13_isDigit [.ref b10] p1).bind fun p10 => if (p10.2 : Int32) = 0 then RS (ZZ L xs) (d + 1) mX13_value 37 [some (.ref o), some (.int x5), some (.int 0)] [] p10.1 else (iO p10.1 (.ref o) 13).bind fun b19 => (cI (ZZ L xs) d mX13_digits [.ref b19, .int 99999] p10.1).bind fun p19 => (iO p19.1 (.ref o) 13).bind fun b25 => (cV (ZZ L xs) d mX13_isCounted [.ref b25, .int x5] p19.1).bind fun p25 => (iO p25 (.ref o) 13).bind fun b31 => (cV (ZZ L xs) d mX13_entry [.ref b31, .int 0, .int p19.2] p25).bind fun p31 => some (p31, none) := by
  refine Eq.trans (q_aload_n dX13_value_0 (mk0 rfl) rfl rfl) ?_
  refine Eq.trans (q_callV (as := []) dX13_value_1 (mk0 rfl) rfl rfl rfl (Nat.le_of_ble_eq_true rfl) (Nat.le_of_ble_eq_true rfl)) (bind_cg fun b1 => ?_)
  refine Eq.trans (cV_bind rfl) (bind_cg fun p1 => ?_)
  show RS (ZZ L xs) (d + 1) mX13_value 4 [some (.ref o), none, none] [] p1 = _
  refine Eq.trans (q_aload_n dX13_value_4 (mk0 rfl) rfl rfl) ?_
  refine Eq.trans (q_getI (ci := 13) (k := 29) dX13_value_5 (mk0 rfl) rfl) (bind_cg fun x5 => ?_)
  refine Eq.trans (q_istore_n (lv2 := [some (.ref o), some (.int x5), none]) dX13_value_8 (mk0 rfl) (Nat.le_of_ble_eq_true rfl) rfl) ?_
  refine Eq.trans (q_aload_n dX13_value_9 (mk0 rfl) rfl rfl) ?_
  refine Eq.trans (q_callV (as := []) dX13_value_10 (mk0 rfl) rfl rfl rfl (Nat.le_of_ble_eq_true rfl) (Nat.le_of_ble_eq_true rfl)) (bind_cg fun b10 => ?_)
  refine Eq.trans (cI_bind (Or.inr rfl)) (bind_cg fun p10 => ?_)
  show RS (ZZ L xs) (d + 1) mX13_value 13 [some (.ref o), some (.int x5), none] [.int p10.2] p10.1 = _
  refine Eq.trans (q_if_eq (t := 35) dX13_value_13 (mk0 rfl) rfl) (ite_cg ?_ ?_)
  · refine Eq.trans (q_iconst (v := 0) dX13_value_35 (mk0 rfl) rfl) ?_
    refine Eq.trans (q_istore_n (lv2 := [some (.ref o), some (.int x5), some (.int 0)]) dX13_value_36 (mk0 rfl) (Nat.le_of_ble_eq_true rfl) rfl) ?_
    rfl
  · refine Eq.trans (q_aload_n dX13_value_16 (mk0 rfl) rfl rfl) ?_
    refine Eq.trans (q_ldcI (v := 99999) dX13_value_17 (mk0 rfl) rfl) ?_
    refine Eq.trans (q_callV (as := [.int 99999]) dX13_value_19 (mk0 rfl) rfl rfl rfl (Nat.le_of_ble_eq_true rfl) (Nat.le_of_ble_eq_true rfl)) (bind_cg fun b19 => ?_)
    refine Eq.trans (cI_bind (Or.inl rfl)) (bind_cg fun p19 => ?_)
    show RS (ZZ L xs) (d + 1) mX13_value 22 [some (.ref o), some (.int x5), none] [.int p19.2] p19.1 = _
    refine Eq.trans (q_istore_n (lv2 := [some (.ref o), some (.int x5), some (.int p19.2)]) dX13_value_22 (mk0 rfl) (Nat.le_of_ble_eq_true rfl) rfl) ?_
    refine Eq.trans (q_aload_n dX13_value_23 (mk0 rfl) rfl rfl) ?_
    refine Eq.trans (q_iload_n dX13_value_24 (mk0 rfl) rfl) ?_
    refine Eq.trans (q_callV (as := [.int x5]) dX13_value_25 (mk0 rfl) rfl rfl rfl (Nat.le_of_ble_eq_true rfl) (Nat.le_of_ble_eq_true rfl)) (bind_cg fun b25 => ?_)
    refine Eq.trans (cV_bind rfl) (bind_cg fun p25 => ?_)
    show RS (ZZ L xs) (d + 1) mX13_value 28 [some (.ref o), some (.int x5), some (.int p19.2)] [] p25 = _
    refine Eq.trans (q_aload_n dX13_value_28 (mk0 rfl) rfl rfl) ?_
    refine Eq.trans (q_iconst (v := 0) dX13_value_29 (mk0 rfl) rfl) ?_
    refine Eq.trans (q_iload_n dX13_value_30 (mk0 rfl) rfl) ?_
    refine Eq.trans (q_callV (as := [.int 0, .int p19.2]) dX13_value_31 (mk0 rfl) rfl rfl rfl (Nat.le_of_ble_eq_true rfl) (Nat.le_of_ble_eq_true rfl)) (bind_cg fun b31 => ?_)
    refine Eq.trans (cV_bind rfl) (bind_cg fun p31 => ?_)
    show RS (ZZ L xs) (d + 1) mX13_value 34 [some (.ref o), some (.int x5), some (.int p19.2)] [] p31 = _
    exact q_return dX13_value_34 (mk0 rfl) rfl
set_option maxRecDepth 20000 in
theorem bX13_value_37 {L : Nat} {xs : Nat → Int32} (d : Nat) (o : Nat) (i1 : Int32) (i2 : Int32) (ph : PH) : RS (ZZ L xs) (d + 1) mX13_value 37 [some (.ref o), some (.int i1), some (.int i2)] [] ph = (fI ph (.ref o) 13 37).bind fun x39 => if (x39 : Int32) ≤ i2 then RS (ZZ L xs) (d + 1) mX13_value 62 [some (.ref o), some (.int i1), some (.int i2)] [] ph else (cR (ZZ L xs) d mX13_wordOf [.int i2] ph).bind fun p47 => (iO p47.1 (.ref o) 13).bind fun b50 => (cI (ZZ L xs) d mX13_stood [.ref b50, p47.2] p47.1).bind fun p50 => if ¬ (p50.2 : Int32) = 0 then RS (ZZ L xs) (d + 1) mX13_value 62 [some (.ref o), some (.int i1), some (.int i2)] [] p50.1 else RS (ZZ L xs) (d + 1) mX13_value 37 [some (.ref o), some (.int i1), some (.int (i2 + 1))] [] p50.1 := by
  refine Eq.trans (q_iload_n dX13_value_37 (mk0 rfl) rfl) ?_
  refine Eq.trans (q_aload_n dX13_value_38 (mk0 rfl) rfl rfl) ?_
  refine Eq.trans (q_getI (ci := 13) (k := 37) dX13_value_39 (mk0 rfl) rfl) (bind_cg fun x39 => ?_)
  refine Eq.trans (q_icmp_ge (t := 62) dX13_value_42 (mk0 rfl) rfl) (ite_cg ?_ ?_)
  · rfl
  · refine Eq.trans (q_aload_n dX13_value_45 (mk0 rfl) rfl rfl) ?_
    refine Eq.trans (q_iload_n dX13_value_46 (mk0 rfl) rfl) ?_
    refine Eq.trans (q_callS (as := [.int i2]) dX13_value_47 (mk0 rfl) rfl (Or.inl rfl) rfl rfl (Nat.le_of_ble_eq_true rfl) (Nat.le_of_ble_eq_true rfl)) ?_
    refine Eq.trans (cR_bind rfl) (bind_cg2 fun p47 hp47 => ?_)
    have hp47 := cR_isA hp47
    show RS (ZZ L xs) (d + 1) mX13_value 50 [some (.ref o), some (.int i1), some (.int i2)] [p47.2, .ref o] p47.1 = _
    refine Eq.trans (q_callV (as := [p47.2]) dX13_value_50 (mk0 rfl) rfl rfl rfl (Nat.le_of_ble_eq_true rfl) (by simp [eA, ct_i, ct_l, ct_r, ct_n, ct_x, mX13_stood, (cat_A hp47)])) (bind_cg fun b50 => ?_)
    refine Eq.trans (cI_bind (Or.inr rfl)) (bind_cg fun p50 => ?_)
    show RS (ZZ L xs) (d + 1) mX13_value 53 [some (.ref o), some (.int i1), some (.int i2)] [.int p50.2] p50.1 = _
    refine Eq.trans (q_if_ne (t := 62) dX13_value_53 (mk0 rfl) rfl) (ite_cg ?_ ?_)
    · rfl
    · refine Eq.trans (q_iinc (v := 1) (lv2 := [some (.ref o), some (.int i1), some (.int (i2 + 1))]) dX13_value_56 (mk0 rfl) rfl rfl rfl) ?_
      refine Eq.trans (q_goto (t := 37) dX13_value_59 (mk0 rfl) rfl) ?_
      rfl
set_option maxRecDepth 20000 in
theorem bX13_value_62 {L : Nat} {xs : Nat → Int32} (d : Nat) (o : Nat) (i1 : Int32) (i2 : Int32) (ph : PH) : RS (ZZ L xs) (d + 1) mX13_value 62 [some (.ref o), some (.int i1), some (.int i2)] [] ph = (fI ph (.ref o) 13 37).bind fun x64 => if ¬ (i2 : Int32) = x64 then (iO ph (.ref o) 13).bind fun b79 => (cV (ZZ L xs) d mX13_isCounted [.ref b79, .int i1] ph).bind fun p79 => (fI p79 (.ref o) 13 29).bind fun x84 => (cR (ZZ L xs) d mX13_wordOf [.int i2] p79).bind fun p88 => (sN (ZZ L xs) p88.2).bind fun p91 => (fP p88.1 (.ref o) 13 29 (.int (x84 + p91))).bind fun h95 => (iO h95 (.ref o) 13).bind fun b101 => (cV (ZZ L xs) d mX13_entry [.ref b101, .int 1, .int i2] h95).bind fun p101 => some (p101, none) else (iO ph (.ref o) 13).bind fun b73 => (cV (ZZ L xs) d mX13_fails [.ref b73, .int 0, .int i1] ph).bind fun p73 => some (p73, none) := by
  refine Eq.trans (q_iload_n dX13_value_62 (mk0 rfl) rfl) ?_
  refine Eq.trans (q_aload_n dX13_value_63 (mk0 rfl) rfl rfl) ?_
  refine Eq.trans (q_getI (ci := 13) (k := 37) dX13_value_64 (mk0 rfl) rfl) (bind_cg fun x64 => ?_)
  refine Eq.trans (q_icmp_ne (t := 77) dX13_value_67 (mk0 rfl) rfl) (ite_cg ?_ ?_)
  · refine Eq.trans (q_aload_n dX13_value_77 (mk0 rfl) rfl rfl) ?_
    refine Eq.trans (q_iload_n dX13_value_78 (mk0 rfl) rfl) ?_
    refine Eq.trans (q_callV (as := [.int i1]) dX13_value_79 (mk0 rfl) rfl rfl rfl (Nat.le_of_ble_eq_true rfl) (Nat.le_of_ble_eq_true rfl)) (bind_cg fun b79 => ?_)
    refine Eq.trans (cV_bind rfl) (bind_cg fun p79 => ?_)
    show RS (ZZ L xs) (d + 1) mX13_value 82 [some (.ref o), some (.int i1), some (.int i2)] [] p79 = _
    refine Eq.trans (q_aload_n dX13_value_82 (mk0 rfl) rfl rfl) ?_
    refine Eq.trans (q_dup dX13_value_83 (mk0 rfl) rfl) ?_
    refine Eq.trans (q_getI (ci := 13) (k := 29) dX13_value_84 (mk0 rfl) rfl) (bind_cg fun x84 => ?_)
    refine Eq.trans (q_iload_n dX13_value_87 (mk0 rfl) rfl) ?_
    refine Eq.trans (q_callS (as := [.int i2]) dX13_value_88 (mk0 rfl) rfl (Or.inl rfl) rfl rfl (Nat.le_of_ble_eq_true rfl) (Nat.le_of_ble_eq_true rfl)) ?_
    refine Eq.trans (cR_bind rfl) (bind_cg2 fun p88 hp88 => ?_)
    have hp88 := cR_isA hp88
    show RS (ZZ L xs) (d + 1) mX13_value 91 [some (.ref o), some (.int i1), some (.int i2)] [p88.2, .int x84, .ref o] p88.1 = _
    refine Eq.trans (q_slen dX13_value_91 (mk0 rfl) rfl (Nat.le_of_ble_eq_true rfl)) (bind_cg fun p91 => ?_)
    refine Eq.trans (q_iadd dX13_value_94 (mk0 rfl)) ?_
    refine Eq.trans (q_put (ci := 13) (k := 29) (kd := 0) dX13_value_95 (mk0 rfl) rfl rfl (fun h => by cases h)) (bind_cg fun h95 => ?_)
    refine Eq.trans (q_aload_n dX13_value_98 (mk0 rfl) rfl rfl) ?_
    refine Eq.trans (q_iconst (v := 1) dX13_value_99 (mk0 rfl) rfl) ?_
    refine Eq.trans (q_iload_n dX13_value_100 (mk0 rfl) rfl) ?_
    refine Eq.trans (q_callV (as := [.int 1, .int i2]) dX13_value_101 (mk0 rfl) rfl rfl rfl (Nat.le_of_ble_eq_true rfl) (Nat.le_of_ble_eq_true rfl)) (bind_cg fun b101 => ?_)
    refine Eq.trans (cV_bind rfl) (bind_cg fun p101 => ?_)
    show RS (ZZ L xs) (d + 1) mX13_value 104 [some (.ref o), some (.int i1), some (.int i2)] [] p101 = _
    exact q_return dX13_value_104 (mk0 rfl) rfl
  · refine Eq.trans (q_aload_n dX13_value_70 (mk0 rfl) rfl rfl) ?_
    refine Eq.trans (q_iconst (v := 0) dX13_value_71 (mk0 rfl) rfl) ?_
    refine Eq.trans (q_iload_n dX13_value_72 (mk0 rfl) rfl) ?_
    refine Eq.trans (q_callV (as := [.int 0, .int i1]) dX13_value_73 (mk0 rfl) rfl rfl rfl (Nat.le_of_ble_eq_true rfl) (Nat.le_of_ble_eq_true rfl)) (bind_cg fun b73 => ?_)
    refine Eq.trans (cV_bind rfl) (bind_cg fun p73 => ?_)
    show RS (ZZ L xs) (d + 1) mX13_value 76 [some (.ref o), some (.int i1), some (.int i2)] [] p73 = _
    exact q_return dX13_value_76 (mk0 rfl) rfl
set_option maxRecDepth 20000 in
theorem bX13_term_0 {L : Nat} {xs : Nat → Int32} (d : Nat) (o : Nat) (ph : PH) : RS (ZZ L xs) (d + 1) mX13_term 0 [some (.ref o), none] [] ph = (iO ph (.ref o) 13).bind fun b1 => (cV (ZZ L xs) d mX13_value [.ref b1] ph).bind fun p1 => (iO p1 (.ref o) 13).bind fun b5 => (cV (ZZ L xs) d mX13_blanks [.ref b5] p1).bind fun p5 => RS (ZZ L xs) (d + 1) mX13_term 8 [some (.ref o), none] [] p5 := by
  refine Eq.trans (q_aload_n dX13_term_0 (mk0 rfl) rfl rfl) ?_
  refine Eq.trans (q_callV (as := []) dX13_term_1 (mk0 rfl) rfl rfl rfl (Nat.le_of_ble_eq_true rfl) (Nat.le_of_ble_eq_true rfl)) (bind_cg fun b1 => ?_)
  refine Eq.trans (cV_bind rfl) (bind_cg fun p1 => ?_)
  show RS (ZZ L xs) (d + 1) mX13_term 4 [some (.ref o), none] [] p1 = _
  refine Eq.trans (q_aload_n dX13_term_4 (mk0 rfl) rfl rfl) ?_
  refine Eq.trans (q_callV (as := []) dX13_term_5 (mk0 rfl) rfl rfl rfl (Nat.le_of_ble_eq_true rfl) (Nat.le_of_ble_eq_true rfl)) (bind_cg fun b5 => ?_)
  refine Eq.trans (cV_bind rfl) (bind_cg fun p5 => ?_)
  show RS (ZZ L xs) (d + 1) mX13_term 8 [some (.ref o), none] [] p5 = _
  rfl
set_option maxRecDepth 20000 in
theorem bX13_term_8 {L : Nat} {xs : Nat → Int32} (d : Nat) (o : Nat) (u1 : Option Value) (ph : PH) : RS (ZZ L xs) (d + 1) mX13_term 8 [some (.ref o), u1] [] ph = (fI ph (.ref o) 13 30).bind fun x9 => if ¬ (x9 : Int32) = 0 then RS (ZZ L xs) (d + 1) mX13_term 100 [some (.ref o), none] [] ph else (iO ph (.ref o) 13).bind fun b16 => (cI (ZZ L xs) d mX13_sign [.ref b16] ph).bind fun p16 => if (p16.2 : Int32) = 42 then RS (ZZ L xs) (d + 1) mX13_term 42 [some (.ref o), none] [] p16.1 else (iO p16.1 (.ref o) 13).bind fun b25 => (cI (ZZ L xs) d mX13_sign [.ref b25] p16.1).bind fun p25 => if (p25.2 : Int32) = 47 then RS (ZZ L xs) (d + 1) mX13_term 42 [some (.ref o), none] [] p25.1 else (iO p25.1 (.ref o) 13).bind fun b34 => (cI (ZZ L xs) d mX13_sign [.ref b34] p25.1).bind fun p34 => if ¬ (p34.2 : Int32) = 37 then RS (ZZ L xs) (d + 1) mX13_term 100 [some (.ref o), none] [] p34.1 else RS (ZZ L xs) (d + 1) mX13_term 42 [some (.ref o), none] [] p34.1 := by
  refine Eq.trans (q_aload_n dX13_term_8 (show mK mX13_term 8 [some (.ref o), u1] = [some (.ref o), none] from rfl) rfl rfl) ?_
  refine Eq.trans (q_getI (ci := 13) (k := 30) dX13_term_9 (mk0 rfl) rfl) (bind_cg fun x9 => ?_)
  refine Eq.trans (q_if_ne (t := 100) dX13_term_12 (mk0 rfl) rfl) (ite_cg ?_ ?_)
  · rfl
  · refine Eq.trans (q_aload_n dX13_term_15 (mk0 rfl) rfl rfl) ?_
    refine Eq.trans (q_callV (as := []) dX13_term_16 (mk0 rfl) rfl rfl rfl (Nat.le_of_ble_eq_true rfl) (Nat.le_of_ble_eq_true rfl)) (bind_cg fun b16 => ?_)
    refine Eq.trans (cI_bind (Or.inl rfl)) (bind_cg fun p16 => ?_)
    show RS (ZZ L xs) (d + 1) mX13_term 19 [some (.ref o), none] [.int p16.2] p16.1 = _
    refine Eq.trans (q_bipush (v := 42) dX13_term_19 (mk0 rfl) rfl) ?_
    refine Eq.trans (q_icmp_eq (t := 42) dX13_term_21 (mk0 rfl) rfl) (ite_cg ?_ ?_)
    · rfl
    · refine Eq.trans (q_aload_n dX13_term_24 (mk0 rfl) rfl rfl) ?_
      refine Eq.trans (q_callV (as := []) dX13_term_25 (mk0 rfl) rfl rfl rfl (Nat.le_of_ble_eq_true rfl) (Nat.le_of_ble_eq_true rfl)) (bind_cg fun b25 => ?_)
      refine Eq.trans (cI_bind (Or.inl rfl)) (bind_cg fun p25 => ?_)
      show RS (ZZ L xs) (d + 1) mX13_term 28 [some (.ref o), none] [.int p25.2] p25.1 = _
      refine Eq.trans (q_bipush (v := 47) dX13_term_28 (mk0 rfl) rfl) ?_
      refine Eq.trans (q_icmp_eq (t := 42) dX13_term_30 (mk0 rfl) rfl) (ite_cg ?_ ?_)
      · rfl
      · refine Eq.trans (q_aload_n dX13_term_33 (mk0 rfl) rfl rfl) ?_
        refine Eq.trans (q_callV (as := []) dX13_term_34 (mk0 rfl) rfl rfl rfl (Nat.le_of_ble_eq_true rfl) (Nat.le_of_ble_eq_true rfl)) (bind_cg fun b34 => ?_)
        refine Eq.trans (cI_bind (Or.inl rfl)) (bind_cg fun p34 => ?_)
        show RS (ZZ L xs) (d + 1) mX13_term 37 [some (.ref o), none] [.int p34.2] p34.1 = _
        refine Eq.trans (q_bipush (v := 37) dX13_term_37 (mk0 rfl) rfl) ?_
        refine Eq.trans (q_icmp_ne (t := 100) dX13_term_39 (mk0 rfl) rfl) (ite_cg ?_ ?_)
        · rfl
        · rfl
set_option maxRecDepth 20000 in
theorem bX13_term_42 {L : Nat} {xs : Nat → Int32} (d : Nat) (o : Nat) (u1 : Option Value) (ph : PH) : RS (ZZ L xs) (d + 1) mX13_term 42 [some (.ref o), u1] [] ph = (iO ph (.ref o) 13).bind fun b43 => (cI (ZZ L xs) d mX13_sign [.ref b43] ph).bind fun p43 => if ¬ (p43.2 : Int32) = 42 then (iO p43.1 (.ref o) 13).bind fun b57 => (cI (ZZ L xs) d mX13_sign [.ref b57] p43.1).bind fun p57 => if ¬ (p57.2 : Int32) = 47 then RS (ZZ L xs) (d + 1) mX13_term 72 [some (.ref o), none] [.int 15] p57.1 else RS (ZZ L xs) (d + 1) mX13_term 72 [some (.ref o), none] [.int 14] p57.1 else RS (ZZ L xs) (d + 1) mX13_term 72 [some (.ref o), none] [.int 13] p43.1 := by
  refine Eq.trans (q_aload_n dX13_term_42 (show mK mX13_term 42 [some (.ref o), u1] = [some (.ref o), none] from rfl) rfl rfl) ?_
  refine Eq.trans (q_callV (as := []) dX13_term_43 (mk0 rfl) rfl rfl rfl (Nat.le_of_ble_eq_true rfl) (Nat.le_of_ble_eq_true rfl)) (bind_cg fun b43 => ?_)
  refine Eq.trans (cI_bind (Or.inl rfl)) (bind_cg fun p43 => ?_)
  show RS (ZZ L xs) (d + 1) mX13_term 46 [some (.ref o), none] [.int p43.2] p43.1 = _
  refine Eq.trans (q_bipush (v := 42) dX13_term_46 (mk0 rfl) rfl) ?_
  refine Eq.trans (q_icmp_ne (t := 56) dX13_term_48 (mk0 rfl) rfl) (ite_cg ?_ ?_)
  · refine Eq.trans (q_aload_n dX13_term_56 (mk0 rfl) rfl rfl) ?_
    refine Eq.trans (q_callV (as := []) dX13_term_57 (mk0 rfl) rfl rfl rfl (Nat.le_of_ble_eq_true rfl) (Nat.le_of_ble_eq_true rfl)) (bind_cg fun b57 => ?_)
    refine Eq.trans (cI_bind (Or.inl rfl)) (bind_cg fun p57 => ?_)
    show RS (ZZ L xs) (d + 1) mX13_term 60 [some (.ref o), none] [.int p57.2] p57.1 = _
    refine Eq.trans (q_bipush (v := 47) dX13_term_60 (mk0 rfl) rfl) ?_
    refine Eq.trans (q_icmp_ne (t := 70) dX13_term_62 (mk0 rfl) rfl) (ite_cg ?_ ?_)
    · refine Eq.trans (q_bipush (v := 15) dX13_term_70 (mk0 rfl) rfl) ?_
      rfl
    · refine Eq.trans (q_bipush (v := 14) dX13_term_65 (mk0 rfl) rfl) ?_
      refine Eq.trans (q_goto (t := 72) dX13_term_67 (mk0 rfl) rfl) ?_
      rfl
  · refine Eq.trans (q_bipush (v := 13) dX13_term_51 (mk0 rfl) rfl) ?_
    refine Eq.trans (q_goto (t := 72) dX13_term_53 (mk0 rfl) rfl) ?_
    rfl
set_option maxRecDepth 20000 in
theorem bX13_term_72 {L : Nat} {xs : Nat → Int32} (d : Nat) (o : Nat) (u1 : Option Value) (t0 : Int32) (ph : PH) : RS (ZZ L xs) (d + 1) mX13_term 72 [some (.ref o), u1] [.int t0] ph = (fI ph (.ref o) 13 29).bind fun x75 => (fP ph (.ref o) 13 29 (.int (x75 + 1))).bind fun h80 => (iO h80 (.ref o) 13).bind fun b84 => (cV (ZZ L xs) d mX13_value [.ref b84] h80).bind fun p84 => (iO p84 (.ref o) 13).bind fun b90 => (cV (ZZ L xs) d mX13_entry [.ref b90, .int t0, .int 0] p84).bind fun p90 => (iO p90 (.ref o) 13).bind fun b94 => (cV (ZZ L xs) d mX13_blanks [.ref b94] p90).bind fun p94 => RS (ZZ L xs) (d + 1) mX13_term 8 [some (.ref o), some (.int t0)] [] p94 := by
  refine Eq.trans (q_istore_n (lv2 := [some (.ref o), some (.int t0)]) dX13_term_72 (show mK mX13_term 72 [some (.ref o), u1] = [some (.ref o), none] from rfl) (Nat.le_of_ble_eq_true rfl) rfl) ?_
  refine Eq.trans (q_aload_n dX13_term_73 (mk0 rfl) rfl rfl) ?_
  refine Eq.trans (q_dup dX13_term_74 (mk0 rfl) rfl) ?_
  refine Eq.trans (q_getI (ci := 13) (k := 29) dX13_term_75 (mk0 rfl) rfl) (bind_cg fun x75 => ?_)
  refine Eq.trans (q_iconst (v := 1) dX13_term_78 (mk0 rfl) rfl) ?_
  refine Eq.trans (q_iadd dX13_term_79 (mk0 rfl)) ?_
  refine Eq.trans (q_put (ci := 13) (k := 29) (kd := 0) dX13_term_80 (mk0 rfl) rfl rfl (fun h => by cases h)) (bind_cg fun h80 => ?_)
  refine Eq.trans (q_aload_n dX13_term_83 (mk0 rfl) rfl rfl) ?_
  refine Eq.trans (q_callV (as := []) dX13_term_84 (mk0 rfl) rfl rfl rfl (Nat.le_of_ble_eq_true rfl) (Nat.le_of_ble_eq_true rfl)) (bind_cg fun b84 => ?_)
  refine Eq.trans (cV_bind rfl) (bind_cg fun p84 => ?_)
  show RS (ZZ L xs) (d + 1) mX13_term 87 [some (.ref o), some (.int t0)] [] p84 = _
  refine Eq.trans (q_aload_n dX13_term_87 (mk0 rfl) rfl rfl) ?_
  refine Eq.trans (q_iload_n dX13_term_88 (mk0 rfl) rfl) ?_
  refine Eq.trans (q_iconst (v := 0) dX13_term_89 (mk0 rfl) rfl) ?_
  refine Eq.trans (q_callV (as := [.int t0, .int 0]) dX13_term_90 (mk0 rfl) rfl rfl rfl (Nat.le_of_ble_eq_true rfl) (Nat.le_of_ble_eq_true rfl)) (bind_cg fun b90 => ?_)
  refine Eq.trans (cV_bind rfl) (bind_cg fun p90 => ?_)
  show RS (ZZ L xs) (d + 1) mX13_term 93 [some (.ref o), some (.int t0)] [] p90 = _
  refine Eq.trans (q_aload_n dX13_term_93 (mk0 rfl) rfl rfl) ?_
  refine Eq.trans (q_callV (as := []) dX13_term_94 (mk0 rfl) rfl rfl rfl (Nat.le_of_ble_eq_true rfl) (Nat.le_of_ble_eq_true rfl)) (bind_cg fun b94 => ?_)
  refine Eq.trans (cV_bind rfl) (bind_cg fun p94 => ?_)
  show RS (ZZ L xs) (d + 1) mX13_term 97 [some (.ref o), some (.int t0)] [] p94 = _
  refine Eq.trans (q_goto (t := 8) dX13_term_97 (mk0 rfl) rfl) ?_
  rfl
set_option maxRecDepth 20000 in
theorem bX13_term_100 {L : Nat} {xs : Nat → Int32} (d : Nat) (u0 : Option Value) (u1 : Option Value) (ph : PH) : RS (ZZ L xs) (d + 1) mX13_term 100 [u0, u1] [] ph = some (ph, none) := by
  exact q_return dX13_term_100 (show mK mX13_term 100 [u0, u1] = [none, none] from rfl) rfl
set_option maxRecDepth 20000 in
theorem bX13_sum_0 {L : Nat} {xs : Nat → Int32} (d : Nat) (o : Nat) (ph : PH) : RS (ZZ L xs) (d + 1) mX13_sum 0 [some (.ref o), none] [] ph = (iO ph (.ref o) 13).bind fun b1 => (cV (ZZ L xs) d mX13_term [.ref b1] ph).bind fun p1 => RS (ZZ L xs) (d + 1) mX13_sum 4 [some (.ref o), none] [] p1 := by
  refine Eq.trans (q_aload_n dX13_sum_0 (mk0 rfl) rfl rfl) ?_
  refine Eq.trans (q_callV (as := []) dX13_sum_1 (mk0 rfl) rfl rfl rfl (Nat.le_of_ble_eq_true rfl) (Nat.le_of_ble_eq_true rfl)) (bind_cg fun b1 => ?_)
  refine Eq.trans (cV_bind rfl) (bind_cg fun p1 => ?_)
  show RS (ZZ L xs) (d + 1) mX13_sum 4 [some (.ref o), none] [] p1 = _
  rfl
set_option maxRecDepth 20000 in
theorem bX13_sum_4 {L : Nat} {xs : Nat → Int32} (d : Nat) (o : Nat) (u1 : Option Value) (ph : PH) : RS (ZZ L xs) (d + 1) mX13_sum 4 [some (.ref o), u1] [] ph = (fI ph (.ref o) 13 30).bind fun x5 => if ¬ (x5 : Int32) = 0 then RS (ZZ L xs) (d + 1) mX13_sum 67 [some (.ref o), none] [] ph else (iO ph (.ref o) 13).bind fun b12 => (cI (ZZ L xs) d mX13_sign [.ref b12] ph).bind fun p12 => if (p12.2 : Int32) = 43 then RS (ZZ L xs) (d + 1) mX13_sum 29 [some (.ref o), none] [] p12.1 else (iO p12.1 (.ref o) 13).bind fun b21 => (cI (ZZ L xs) d mX13_sign [.ref b21] p12.1).bind fun p21 => if ¬ (p21.2 : Int32) = 45 then RS (ZZ L xs) (d + 1) mX13_sum 67 [some (.ref o), none] [] p21.1 else RS (ZZ L xs) (d + 1) mX13_sum 29 [some (.ref o), none] [] p21.1 := by
  refine Eq.trans (q_aload_n dX13_sum_4 (show mK mX13_sum 4 [some (.ref o), u1] = [some (.ref o), none] from rfl) rfl rfl) ?_
  refine Eq.trans (q_getI (ci := 13) (k := 30) dX13_sum_5 (mk0 rfl) rfl) (bind_cg fun x5 => ?_)
  refine Eq.trans (q_if_ne (t := 67) dX13_sum_8 (mk0 rfl) rfl) (ite_cg ?_ ?_)
  · rfl
  · refine Eq.trans (q_aload_n dX13_sum_11 (mk0 rfl) rfl rfl) ?_
    refine Eq.trans (q_callV (as := []) dX13_sum_12 (mk0 rfl) rfl rfl rfl (Nat.le_of_ble_eq_true rfl) (Nat.le_of_ble_eq_true rfl)) (bind_cg fun b12 => ?_)
    refine Eq.trans (cI_bind (Or.inl rfl)) (bind_cg fun p12 => ?_)
    show RS (ZZ L xs) (d + 1) mX13_sum 15 [some (.ref o), none] [.int p12.2] p12.1 = _
    refine Eq.trans (q_bipush (v := 43) dX13_sum_15 (mk0 rfl) rfl) ?_
    refine Eq.trans (q_icmp_eq (t := 29) dX13_sum_17 (mk0 rfl) rfl) (ite_cg ?_ ?_)
    · rfl
    · refine Eq.trans (q_aload_n dX13_sum_20 (mk0 rfl) rfl rfl) ?_
      refine Eq.trans (q_callV (as := []) dX13_sum_21 (mk0 rfl) rfl rfl rfl (Nat.le_of_ble_eq_true rfl) (Nat.le_of_ble_eq_true rfl)) (bind_cg fun b21 => ?_)
      refine Eq.trans (cI_bind (Or.inl rfl)) (bind_cg fun p21 => ?_)
      show RS (ZZ L xs) (d + 1) mX13_sum 24 [some (.ref o), none] [.int p21.2] p21.1 = _
      refine Eq.trans (q_bipush (v := 45) dX13_sum_24 (mk0 rfl) rfl) ?_
      refine Eq.trans (q_icmp_ne (t := 67) dX13_sum_26 (mk0 rfl) rfl) (ite_cg ?_ ?_)
      · rfl
      · rfl
set_option maxRecDepth 20000 in
theorem bX13_sum_29 {L : Nat} {xs : Nat → Int32} (d : Nat) (o : Nat) (u1 : Option Value) (ph : PH) : RS (ZZ L xs) (d + 1) mX13_sum 29 [some (.ref o), u1] [] ph = (iO ph (.ref o) 13).bind fun b30 => (cI (ZZ L xs) d mX13_sign [.ref b30] ph).bind fun p30 => if ¬ (p30.2 : Int32) = 43 then RS (ZZ L xs) (d + 1) mX13_sum 43 [some (.ref o), none] [.int 3] p30.1 else RS (ZZ L xs) (d + 1) mX13_sum 43 [some (.ref o), none] [.int 2] p30.1 := by
  refine Eq.trans (q_aload_n dX13_sum_29 (show mK mX13_sum 29 [some (.ref o), u1] = [some (.ref o), none] from rfl) rfl rfl) ?_
  refine Eq.trans (q_callV (as := []) dX13_sum_30 (mk0 rfl) rfl rfl rfl (Nat.le_of_ble_eq_true rfl) (Nat.le_of_ble_eq_true rfl)) (bind_cg fun b30 => ?_)
  refine Eq.trans (cI_bind (Or.inl rfl)) (bind_cg fun p30 => ?_)
  show RS (ZZ L xs) (d + 1) mX13_sum 33 [some (.ref o), none] [.int p30.2] p30.1 = _
  refine Eq.trans (q_bipush (v := 43) dX13_sum_33 (mk0 rfl) rfl) ?_
  refine Eq.trans (q_icmp_ne (t := 42) dX13_sum_35 (mk0 rfl) rfl) (ite_cg ?_ ?_)
  · refine Eq.trans (q_iconst (v := 3) dX13_sum_42 (mk0 rfl) rfl) ?_
    rfl
  · refine Eq.trans (q_iconst (v := 2) dX13_sum_38 (mk0 rfl) rfl) ?_
    refine Eq.trans (q_goto (t := 43) dX13_sum_39 (mk0 rfl) rfl) ?_
    rfl
set_option maxRecDepth 20000 in
theorem bX13_sum_43 {L : Nat} {xs : Nat → Int32} (d : Nat) (o : Nat) (u1 : Option Value) (t0 : Int32) (ph : PH) : RS (ZZ L xs) (d + 1) mX13_sum 43 [some (.ref o), u1] [.int t0] ph = (fI ph (.ref o) 13 29).bind fun x46 => (fP ph (.ref o) 13 29 (.int (x46 + 1))).bind fun h51 => (iO h51 (.ref o) 13).bind fun b55 => (cV (ZZ L xs) d mX13_term [.ref b55] h51).bind fun p55 => (iO p55 (.ref o) 13).bind fun b61 => (cV (ZZ L xs) d mX13_entry [.ref b61, .int t0, .int 0] p55).bind fun p61 => RS (ZZ L xs) (d + 1) mX13_sum 4 [some (.ref o), some (.int t0)] [] p61 := by
  refine Eq.trans (q_istore_n (lv2 := [some (.ref o), some (.int t0)]) dX13_sum_43 (show mK mX13_sum 43 [some (.ref o), u1] = [some (.ref o), none] from rfl) (Nat.le_of_ble_eq_true rfl) rfl) ?_
  refine Eq.trans (q_aload_n dX13_sum_44 (mk0 rfl) rfl rfl) ?_
  refine Eq.trans (q_dup dX13_sum_45 (mk0 rfl) rfl) ?_
  refine Eq.trans (q_getI (ci := 13) (k := 29) dX13_sum_46 (mk0 rfl) rfl) (bind_cg fun x46 => ?_)
  refine Eq.trans (q_iconst (v := 1) dX13_sum_49 (mk0 rfl) rfl) ?_
  refine Eq.trans (q_iadd dX13_sum_50 (mk0 rfl)) ?_
  refine Eq.trans (q_put (ci := 13) (k := 29) (kd := 0) dX13_sum_51 (mk0 rfl) rfl rfl (fun h => by cases h)) (bind_cg fun h51 => ?_)
  refine Eq.trans (q_aload_n dX13_sum_54 (mk0 rfl) rfl rfl) ?_
  refine Eq.trans (q_callV (as := []) dX13_sum_55 (mk0 rfl) rfl rfl rfl (Nat.le_of_ble_eq_true rfl) (Nat.le_of_ble_eq_true rfl)) (bind_cg fun b55 => ?_)
  refine Eq.trans (cV_bind rfl) (bind_cg fun p55 => ?_)
  show RS (ZZ L xs) (d + 1) mX13_sum 58 [some (.ref o), some (.int t0)] [] p55 = _
  refine Eq.trans (q_aload_n dX13_sum_58 (mk0 rfl) rfl rfl) ?_
  refine Eq.trans (q_iload_n dX13_sum_59 (mk0 rfl) rfl) ?_
  refine Eq.trans (q_iconst (v := 0) dX13_sum_60 (mk0 rfl) rfl) ?_
  refine Eq.trans (q_callV (as := [.int t0, .int 0]) dX13_sum_61 (mk0 rfl) rfl rfl rfl (Nat.le_of_ble_eq_true rfl) (Nat.le_of_ble_eq_true rfl)) (bind_cg fun b61 => ?_)
  refine Eq.trans (cV_bind rfl) (bind_cg fun p61 => ?_)
  show RS (ZZ L xs) (d + 1) mX13_sum 64 [some (.ref o), some (.int t0)] [] p61 = _
  refine Eq.trans (q_goto (t := 4) dX13_sum_64 (mk0 rfl) rfl) ?_
  rfl
set_option maxRecDepth 20000 in
theorem bX13_sum_67 {L : Nat} {xs : Nat → Int32} (d : Nat) (u0 : Option Value) (u1 : Option Value) (ph : PH) : RS (ZZ L xs) (d + 1) mX13_sum 67 [u0, u1] [] ph = some (ph, none) := by
  exact q_return dX13_sum_67 (show mK mX13_sum 67 [u0, u1] = [none, none] from rfl) rfl
set_option maxRecDepth 20000 in
theorem bX13_compared_0 {L : Nat} {xs : Nat → Int32} (d : Nat) (o : Nat) (ph : PH) : RS (ZZ L xs) (d + 1) mX13_compared 0 [some (.ref o), none, none] [] ph = (iO ph (.ref o) 13).bind fun b1 => (cV (ZZ L xs) d mX13_sum [.ref b1] ph).bind fun p1 => (iO p1 (.ref o) 13).bind fun b5 => (cI (ZZ L xs) d mX13_sign [.ref b5] p1).bind fun p5 => if (p5.2 : Int32) = 60 then RS (ZZ L xs) (d + 1) mX13_compared 37 [some (.ref o), some (.int p5.2), none] [] p5.1 else if (p5.2 : Int32) = 61 then RS (ZZ L xs) (d + 1) mX13_compared 37 [some (.ref o), some (.int p5.2), none] [] p5.1 else if (p5.2 : Int32) = 62 then RS (ZZ L xs) (d + 1) mX13_compared 37 [some (.ref o), some (.int p5.2), none] [] p5.1 else (fI p5.1 (.ref o) 13 29).bind fun x30 => (iO p5.1 (.ref o) 13).bind fun b33 => (cV (ZZ L xs) d mX13_fails [.ref b33, .int 0, .int x30] p5.1).bind fun p33 => some (p33, none) := by
  refine Eq.trans (q_aload_n dX13_compared_0 (mk0 rfl) rfl rfl) ?_
  refine Eq.trans (q_callV (as := []) dX13_compared_1 (mk0 rfl) rfl rfl rfl (Nat.le_of_ble_eq_true rfl) (Nat.le_of_ble_eq_true rfl)) (bind_cg fun b1 => ?_)
  refine Eq.trans (cV_bind rfl) (bind_cg fun p1 => ?_)
  show RS (ZZ L xs) (d + 1) mX13_compared 4 [some (.ref o), none, none] [] p1 = _
  refine Eq.trans (q_aload_n dX13_compared_4 (mk0 rfl) rfl rfl) ?_
  refine Eq.trans (q_callV (as := []) dX13_compared_5 (mk0 rfl) rfl rfl rfl (Nat.le_of_ble_eq_true rfl) (Nat.le_of_ble_eq_true rfl)) (bind_cg fun b5 => ?_)
  refine Eq.trans (cI_bind (Or.inl rfl)) (bind_cg fun p5 => ?_)
  show RS (ZZ L xs) (d + 1) mX13_compared 8 [some (.ref o), none, none] [.int p5.2] p5.1 = _
  refine Eq.trans (q_istore_n (lv2 := [some (.ref o), some (.int p5.2), none]) dX13_compared_8 (mk0 rfl) (Nat.le_of_ble_eq_true rfl) rfl) ?_
  refine Eq.trans (q_iload_n dX13_compared_9 (mk0 rfl) rfl) ?_
  refine Eq.trans (q_bipush (v := 60) dX13_compared_10 (mk0 rfl) rfl) ?_
  refine Eq.trans (q_icmp_eq (t := 37) dX13_compared_12 (mk0 rfl) rfl) (ite_cg ?_ ?_)
  · rfl
  · refine Eq.trans (q_iload_n dX13_compared_15 (mk0 rfl) rfl) ?_
    refine Eq.trans (q_bipush (v := 61) dX13_compared_16 (mk0 rfl) rfl) ?_
    refine Eq.trans (q_icmp_eq (t := 37) dX13_compared_18 (mk0 rfl) rfl) (ite_cg ?_ ?_)
    · rfl
    · refine Eq.trans (q_iload_n dX13_compared_21 (mk0 rfl) rfl) ?_
      refine Eq.trans (q_bipush (v := 62) dX13_compared_22 (mk0 rfl) rfl) ?_
      refine Eq.trans (q_icmp_eq (t := 37) dX13_compared_24 (mk0 rfl) rfl) (ite_cg ?_ ?_)
      · rfl
      · refine Eq.trans (q_aload_n dX13_compared_27 (mk0 rfl) rfl rfl) ?_
        refine Eq.trans (q_iconst (v := 0) dX13_compared_28 (mk0 rfl) rfl) ?_
        refine Eq.trans (q_aload_n dX13_compared_29 (mk0 rfl) rfl rfl) ?_
        refine Eq.trans (q_getI (ci := 13) (k := 29) dX13_compared_30 (mk0 rfl) rfl) (bind_cg fun x30 => ?_)
        refine Eq.trans (q_callV (as := [.int 0, .int x30]) dX13_compared_33 (mk0 rfl) rfl rfl rfl (Nat.le_of_ble_eq_true rfl) (Nat.le_of_ble_eq_true rfl)) (bind_cg fun b33 => ?_)
        refine Eq.trans (cV_bind rfl) (bind_cg fun p33 => ?_)
        show RS (ZZ L xs) (d + 1) mX13_compared 36 [some (.ref o), some (.int p5.2), none] [] p33 = _
        exact q_return dX13_compared_36 (mk0 rfl) rfl
set_option maxRecDepth 20000 in
theorem bX13_compared_37 {L : Nat} {xs : Nat → Int32} (d : Nat) (o : Nat) (i1 : Int32) (u2 : Option Value) (ph : PH) : RS (ZZ L xs) (d + 1) mX13_compared 37 [some (.ref o), some (.int i1), u2] [] ph = (fI ph (.ref o) 13 29).bind fun x39 => (iO ph (.ref o) 13).bind fun b42 => (cV (ZZ L xs) d mX13_isCounted [.ref b42, .int x39] ph).bind fun p42 => (fI p42 (.ref o) 13 29).bind fun x47 => (fP p42 (.ref o) 13 29 (.int (x47 + 1))).bind fun h52 => if (i1 : Int32) = 61 then RS (ZZ L xs) (d + 1) mX13_compared 74 [some (.ref o), some (.int i1), none] [] h52 else (iO h52 (.ref o) 13).bind fun b62 => (cI (ZZ L xs) d mX13_sign [.ref b62] h52).bind fun p62 => if ¬ (p62.2 : Int32) = 61 then RS (ZZ L xs) (d + 1) mX13_compared 74 [some (.ref o), some (.int i1), none] [] p62.1 else RS (ZZ L xs) (d + 1) mX13_compared 75 [some (.ref o), some (.int i1), none] [.int 1] p62.1 := by
  refine Eq.trans (q_aload_n dX13_compared_37 (show mK mX13_compared 37 [some (.ref o), some (.int i1), u2] = [some (.ref o), some (.int i1), none] from rfl) rfl rfl) ?_
  refine Eq.trans (q_aload_n dX13_compared_38 (mk0 rfl) rfl rfl) ?_
  refine Eq.trans (q_getI (ci := 13) (k := 29) dX13_compared_39 (mk0 rfl) rfl) (bind_cg fun x39 => ?_)
  refine Eq.trans (q_callV (as := [.int x39]) dX13_compared_42 (mk0 rfl) rfl rfl rfl (Nat.le_of_ble_eq_true rfl) (Nat.le_of_ble_eq_true rfl)) (bind_cg fun b42 => ?_)
  refine Eq.trans (cV_bind rfl) (bind_cg fun p42 => ?_)
  show RS (ZZ L xs) (d + 1) mX13_compared 45 [some (.ref o), some (.int i1), none] [] p42 = _
  refine Eq.trans (q_aload_n dX13_compared_45 (mk0 rfl) rfl rfl) ?_
  refine Eq.trans (q_dup dX13_compared_46 (mk0 rfl) rfl) ?_
  refine Eq.trans (q_getI (ci := 13) (k := 29) dX13_compared_47 (mk0 rfl) rfl) (bind_cg fun x47 => ?_)
  refine Eq.trans (q_iconst (v := 1) dX13_compared_50 (mk0 rfl) rfl) ?_
  refine Eq.trans (q_iadd dX13_compared_51 (mk0 rfl)) ?_
  refine Eq.trans (q_put (ci := 13) (k := 29) (kd := 0) dX13_compared_52 (mk0 rfl) rfl rfl (fun h => by cases h)) (bind_cg fun h52 => ?_)
  refine Eq.trans (q_iload_n dX13_compared_55 (mk0 rfl) rfl) ?_
  refine Eq.trans (q_bipush (v := 61) dX13_compared_56 (mk0 rfl) rfl) ?_
  refine Eq.trans (q_icmp_eq (t := 74) dX13_compared_58 (mk0 rfl) rfl) (ite_cg ?_ ?_)
  · rfl
  · refine Eq.trans (q_aload_n dX13_compared_61 (mk0 rfl) rfl rfl) ?_
    refine Eq.trans (q_callV (as := []) dX13_compared_62 (mk0 rfl) rfl rfl rfl (Nat.le_of_ble_eq_true rfl) (Nat.le_of_ble_eq_true rfl)) (bind_cg fun b62 => ?_)
    refine Eq.trans (cI_bind (Or.inl rfl)) (bind_cg fun p62 => ?_)
    show RS (ZZ L xs) (d + 1) mX13_compared 65 [some (.ref o), some (.int i1), none] [.int p62.2] p62.1 = _
    refine Eq.trans (q_bipush (v := 61) dX13_compared_65 (mk0 rfl) rfl) ?_
    refine Eq.trans (q_icmp_ne (t := 74) dX13_compared_67 (mk0 rfl) rfl) (ite_cg ?_ ?_)
    · rfl
    · refine Eq.trans (q_iconst (v := 1) dX13_compared_70 (mk0 rfl) rfl) ?_
      refine Eq.trans (q_goto (t := 75) dX13_compared_71 (mk0 rfl) rfl) ?_
      rfl
set_option maxRecDepth 20000 in
theorem bX13_compared_74 {L : Nat} {xs : Nat → Int32} (d : Nat) (o : Nat) (i1 : Int32) (u2 : Option Value) (ph : PH) : RS (ZZ L xs) (d + 1) mX13_compared 74 [some (.ref o), some (.int i1), u2] [] ph = RS (ZZ L xs) (d + 1) mX13_compared 75 [some (.ref o), some (.int i1), none] [.int 0] ph := by
  refine Eq.trans (q_iconst (v := 0) dX13_compared_74 (show mK mX13_compared 74 [some (.ref o), some (.int i1), u2] = [some (.ref o), some (.int i1), none] from rfl) rfl) ?_
  rfl
set_option maxRecDepth 20000 in
theorem bX13_compared_75 {L : Nat} {xs : Nat → Int32} (d : Nat) (o : Nat) (i1 : Int32) (u2 : Option Value) (t0 : Int32) (ph : PH) : RS (ZZ L xs) (d + 1) mX13_compared 75 [some (.ref o), some (.int i1), u2] [.int t0] ph = (fI ph (.ref o) 13 29).bind fun x78 => if (t0 : Int32) = 0 then RS (ZZ L xs) (d + 1) mX13_compared 90 [some (.ref o), some (.int i1), some (.int t0)] [.int 0, .int x78, .ref o] ph else RS (ZZ L xs) (d + 1) mX13_compared 90 [some (.ref o), some (.int i1), some (.int t0)] [.int 1, .int x78, .ref o] ph := by
  refine Eq.trans (q_istore_n (lv2 := [some (.ref o), some (.int i1), some (.int t0)]) dX13_compared_75 (show mK mX13_compared 75 [some (.ref o), some (.int i1), u2] = [some (.ref o), some (.int i1), none] from rfl) (Nat.le_of_ble_eq_true rfl) rfl) ?_
  refine Eq.trans (q_aload_n dX13_compared_76 (mk0 rfl) rfl rfl) ?_
  refine Eq.trans (q_dup dX13_compared_77 (mk0 rfl) rfl) ?_
  refine Eq.trans (q_getI (ci := 13) (k := 29) dX13_compared_78 (mk0 rfl) rfl) (bind_cg fun x78 => ?_)
  refine Eq.trans (q_iload_n dX13_compared_81 (mk0 rfl) rfl) ?_
  refine Eq.trans (q_if_eq (t := 89) dX13_compared_82 (mk0 rfl) rfl) (ite_cg ?_ ?_)
  · refine Eq.trans (q_iconst (v := 0) dX13_compared_89 (mk0 rfl) rfl) ?_
    rfl
  · refine Eq.trans (q_iconst (v := 1) dX13_compared_85 (mk0 rfl) rfl) ?_
    refine Eq.trans (q_goto (t := 90) dX13_compared_86 (mk0 rfl) rfl) ?_
    rfl
set_option maxRecDepth 20000 in
theorem bX13_compared_90 {L : Nat} {xs : Nat → Int32} (d : Nat) (o : Nat) (i1 : Int32) (i2 : Int32) (t0 : Int32) (t1 : Int32) (w2 : Value) (hw2 : isR w2 = true) (ph : PH) : RS (ZZ L xs) (d + 1) mX13_compared 90 [some (.ref o), some (.int i1), some (.int i2)] [.int t0, .int t1, w2] ph = (fP ph w2 13 29 (.int (t1 + t0))).bind fun h91 => (iO h91 (.ref o) 13).bind fun b95 => (cV (ZZ L xs) d mX13_sum [.ref b95] h91).bind fun p95 => if ¬ (i1 : Int32) = 61 then if ¬ (i1 : Int32) = 60 then if (i2 : Int32) = 0 then RS (ZZ L xs) (d + 1) mX13_compared 139 [some (.ref o), some (.int i1), some (.int i2)] [.int 8, .ref o] p95 else RS (ZZ L xs) (d + 1) mX13_compared 139 [some (.ref o), some (.int i1), some (.int i2)] [.int 7, .ref o] p95 else if (i2 : Int32) = 0 then RS (ZZ L xs) (d + 1) mX13_compared 139 [some (.ref o), some (.int i1), some (.int i2)] [.int 4, .ref o] p95 else RS (ZZ L xs) (d + 1) mX13_compared 139 [some (.ref o), some (.int i1), some (.int i2)] [.int 5, .ref o] p95 else RS (ZZ L xs) (d + 1) mX13_compared 139 [some (.ref o), some (.int i1), some (.int i2)] [.int 6, .ref o] p95 := by
  refine Eq.trans (q_iadd dX13_compared_90 (mk0 rfl)) ?_
  refine Eq.trans (q_put (ci := 13) (k := 29) (kd := 0) dX13_compared_91 (mk0 rfl) rfl rfl (fun h => by cases h)) (bind_cg fun h91 => ?_)
  refine Eq.trans (q_aload_n dX13_compared_94 (mk0 rfl) rfl rfl) ?_
  refine Eq.trans (q_callV (as := []) dX13_compared_95 (mk0 rfl) rfl rfl rfl (Nat.le_of_ble_eq_true rfl) (Nat.le_of_ble_eq_true rfl)) (bind_cg fun b95 => ?_)
  refine Eq.trans (cV_bind rfl) (bind_cg fun p95 => ?_)
  show RS (ZZ L xs) (d + 1) mX13_compared 98 [some (.ref o), some (.int i1), some (.int i2)] [] p95 = _
  refine Eq.trans (q_aload_n dX13_compared_98 (mk0 rfl) rfl rfl) ?_
  refine Eq.trans (q_iload_n dX13_compared_99 (mk0 rfl) rfl) ?_
  refine Eq.trans (q_bipush (v := 61) dX13_compared_100 (mk0 rfl) rfl) ?_
  refine Eq.trans (q_icmp_ne (t := 110) dX13_compared_102 (mk0 rfl) rfl) (ite_cg ?_ ?_)
  · refine Eq.trans (q_iload_n dX13_compared_110 (mk0 rfl) rfl) ?_
    refine Eq.trans (q_bipush (v := 60) dX13_compared_111 (mk0 rfl) rfl) ?_
    refine Eq.trans (q_icmp_ne (t := 128) dX13_compared_113 (mk0 rfl) rfl) (ite_cg ?_ ?_)
    · refine Eq.trans (q_iload_n dX13_compared_128 (mk0 rfl) rfl) ?_
      refine Eq.trans (q_if_eq (t := 137) dX13_compared_129 (mk0 rfl) rfl) (ite_cg ?_ ?_)
      · refine Eq.trans (q_bipush (v := 8) dX13_compared_137 (mk0 rfl) rfl) ?_
        rfl
      · refine Eq.trans (q_bipush (v := 7) dX13_compared_132 (mk0 rfl) rfl) ?_
        refine Eq.trans (q_goto (t := 139) dX13_compared_134 (mk0 rfl) rfl) ?_
        rfl
    · refine Eq.trans (q_iload_n dX13_compared_116 (mk0 rfl) rfl) ?_
      refine Eq.trans (q_if_eq (t := 124) dX13_compared_117 (mk0 rfl) rfl) (ite_cg ?_ ?_)
      · refine Eq.trans (q_iconst (v := 4) dX13_compared_124 (mk0 rfl) rfl) ?_
        refine Eq.trans (q_goto (t := 139) dX13_compared_125 (mk0 rfl) rfl) ?_
        rfl
      · refine Eq.trans (q_iconst (v := 5) dX13_compared_120 (mk0 rfl) rfl) ?_
        refine Eq.trans (q_goto (t := 139) dX13_compared_121 (mk0 rfl) rfl) ?_
        rfl
  · refine Eq.trans (q_bipush (v := 6) dX13_compared_105 (mk0 rfl) rfl) ?_
    refine Eq.trans (q_goto (t := 139) dX13_compared_107 (mk0 rfl) rfl) ?_
    rfl
set_option maxRecDepth 20000 in
theorem bX13_compared_139 {L : Nat} {xs : Nat → Int32} (d : Nat) (u0 : Option Value) (u1 : Option Value) (u2 : Option Value) (t0 : Int32) (w1 : Value) (hw1 : isR w1 = true) (ph : PH) : RS (ZZ L xs) (d + 1) mX13_compared 139 [u0, u1, u2] [.int t0, w1] ph = (iO ph w1 13).bind fun b140 => (cV (ZZ L xs) d mX13_entry [.ref b140, .int t0, .int 0] ph).bind fun p140 => some (p140, none) := by
  refine Eq.trans (q_iconst (v := 0) dX13_compared_139 (show mK mX13_compared 139 [u0, u1, u2] = [none, none, none] from rfl) rfl) ?_
  refine Eq.trans (q_callV (as := [.int t0, .int 0]) dX13_compared_140 (mk0 rfl) rfl rfl rfl (Nat.le_of_ble_eq_true rfl) (Nat.le_of_ble_eq_true rfl)) (bind_cg fun b140 => ?_)
  refine Eq.trans (cV_bind rfl) (bind_cg fun p140 => ?_)
  show RS (ZZ L xs) (d + 1) mX13_compared 143 [none, none, none] [] p140 = _
  exact q_return dX13_compared_143 (mk0 rfl) rfl
set_option maxRecDepth 20000 in
theorem bX13_top_0 {L : Nat} {xs : Nat → Int32} (d : Nat) (o : Nat) (ph : PH) : RS (ZZ L xs) (d + 1) mX13_top 0 [some (.ref o)] [] ph = (fI ph (.ref o) 13 36).bind fun x1 => if ¬ (x1 : Int32) = 0 then (fR ph (.ref o) 13 45).bind fun x12 => (fI ph (.ref o) 13 36).bind fun x16 => (eI ph x12 (x16 - 1)).bind fun x21 => RS (ZZ L xs) (d + 1) mX13_top 22 [some (.ref o)] [.int x21] ph else RS (ZZ L xs) (d + 1) mX13_top 22 [some (.ref o)] [.int ((-1))] ph := by
  refine Eq.trans (q_aload_n dX13_top_0 (mk0 rfl) rfl rfl) ?_
  refine Eq.trans (q_getI (ci := 13) (k := 36) dX13_top_1 (mk0 rfl) rfl) (bind_cg fun x1 => ?_)
  refine Eq.trans (q_if_ne (t := 11) dX13_top_4 (mk0 rfl) rfl) (ite_cg ?_ ?_)
  · refine Eq.trans (q_aload_n dX13_top_11 (mk0 rfl) rfl rfl) ?_
    refine Eq.trans (q_getR (ci := 13) (k := 45) dX13_top_12 (mk0 rfl) rfl) (bind_cg2 fun x12 hx12 => ?_)
    have hx12 := fR_isR hx12
    refine Eq.trans (q_aload_n dX13_top_15 (mk0 rfl) rfl rfl) ?_
    refine Eq.trans (q_getI (ci := 13) (k := 36) dX13_top_16 (mk0 rfl) rfl) (bind_cg fun x16 => ?_)
    refine Eq.trans (q_iconst (v := 1) dX13_top_19 (mk0 rfl) rfl) ?_
    refine Eq.trans (q_isub dX13_top_20 (mk0 rfl)) ?_
    refine Eq.trans (q_iaload dX13_top_21 (mk0 rfl) (no_ext hx12)) (bind_cg fun x21 => ?_)
    rfl
  · refine Eq.trans (q_iconst (v := (-1)) dX13_top_7 (mk0 rfl) rfl) ?_
    refine Eq.trans (q_goto (t := 22) dX13_top_8 (mk0 rfl) rfl) ?_
    rfl
set_option maxRecDepth 20000 in
theorem bX13_top_22 {L : Nat} {xs : Nat → Int32} (d : Nat) (u0 : Option Value) (t0 : Int32) (ph : PH) : RS (ZZ L xs) (d + 1) mX13_top 22 [u0] [.int t0] ph = some (ph, some (.int t0)) := by
  exact q_ireturn dX13_top_22 (show mK mX13_top 22 [u0] = [none] from rfl) rfl
set_option maxRecDepth 20000 in
theorem bX13_opens_0 {L : Nat} {xs : Nat → Int32} (d : Nat) (o : Nat) (i1 : Int32) (ph : PH) : RS (ZZ L xs) (d + 1) mX13_opens 0 [some (.ref o), some (.int i1)] [] ph = if (i1 : Int32) = 9 then RS (ZZ L xs) (d + 1) mX13_opens 12 [some (.ref o), some (.int i1)] [] ph else if ¬ (i1 : Int32) = 12 then RS (ZZ L xs) (d + 1) mX13_opens 40 [some (.ref o), some (.int i1)] [] ph else RS (ZZ L xs) (d + 1) mX13_opens 12 [some (.ref o), some (.int i1)] [] ph := by
  refine Eq.trans (q_iload_n dX13_opens_0 (mk0 rfl) rfl) ?_
  refine Eq.trans (q_bipush (v := 9) dX13_opens_1 (mk0 rfl) rfl) ?_
  refine Eq.trans (q_icmp_eq (t := 12) dX13_opens_3 (mk0 rfl) rfl) (ite_cg ?_ ?_)
  · rfl
  · refine Eq.trans (q_iload_n dX13_opens_6 (mk0 rfl) rfl) ?_
    refine Eq.trans (q_bipush (v := 12) dX13_opens_7 (mk0 rfl) rfl) ?_
    refine Eq.trans (q_icmp_ne (t := 40) dX13_opens_9 (mk0 rfl) rfl) (ite_cg ?_ ?_)
    · rfl
    · rfl
set_option maxRecDepth 20000 in
theorem bX13_opens_12 {L : Nat} {xs : Nat → Int32} (d : Nat) (o : Nat) (i1 : Int32) (ph : PH) : RS (ZZ L xs) (d + 1) mX13_opens 12 [some (.ref o), some (.int i1)] [] ph = (fI ph (.ref o) 13 34).bind fun x13 => if ¬ (x13 : Int32) = 10 then RS (ZZ L xs) (d + 1) mX13_opens 30 [some (.ref o), some (.int i1)] [] ph else (fI ph (.ref o) 13 29).bind fun x24 => (iO ph (.ref o) 13).bind fun b27 => (cV (ZZ L xs) d mX13_fails [.ref b27, .int 2, .int x24] ph).bind fun p27 => RS (ZZ L xs) (d + 1) mX13_opens 30 [some (.ref o), some (.int i1)] [] p27 := by
  refine Eq.trans (q_aload_n dX13_opens_12 (mk0 rfl) rfl rfl) ?_
  refine Eq.trans (q_getI (ci := 13) (k := 34) dX13_opens_13 (mk0 rfl) rfl) (bind_cg fun x13 => ?_)
  refine Eq.trans (q_bipush (v := 10) dX13_opens_16 (mk0 rfl) rfl) ?_
  refine Eq.trans (q_icmp_ne (t := 30) dX13_opens_18 (mk0 rfl) rfl) (ite_cg ?_ ?_)
  · rfl
  · refine Eq.trans (q_aload_n dX13_opens_21 (mk0 rfl) rfl rfl) ?_
    refine Eq.trans (q_iconst (v := 2) dX13_opens_22 (mk0 rfl) rfl) ?_
    refine Eq.trans (q_aload_n dX13_opens_23 (mk0 rfl) rfl rfl) ?_
    refine Eq.trans (q_getI (ci := 13) (k := 29) dX13_opens_24 (mk0 rfl) rfl) (bind_cg fun x24 => ?_)
    refine Eq.trans (q_callV (as := [.int 2, .int x24]) dX13_opens_27 (mk0 rfl) rfl rfl rfl (Nat.le_of_ble_eq_true rfl) (Nat.le_of_ble_eq_true rfl)) (bind_cg fun b27 => ?_)
    refine Eq.trans (cV_bind rfl) (bind_cg fun p27 => ?_)
    show RS (ZZ L xs) (d + 1) mX13_opens 30 [some (.ref o), some (.int i1)] [] p27 = _
    rfl
set_option maxRecDepth 20000 in
theorem bX13_opens_30 {L : Nat} {xs : Nat → Int32} (d : Nat) (o : Nat) (i1 : Int32) (ph : PH) : RS (ZZ L xs) (d + 1) mX13_opens 30 [some (.ref o), some (.int i1)] [] ph = (fI ph (.ref o) 13 34).bind fun x32 => (fP ph (.ref o) 13 34 (.int (x32 + 1))).bind fun h37 => RS (ZZ L xs) (d + 1) mX13_opens 40 [some (.ref o), some (.int i1)] [] h37 := by
  refine Eq.trans (q_aload_n dX13_opens_30 (mk0 rfl) rfl rfl) ?_
  refine Eq.trans (q_dup dX13_opens_31 (mk0 rfl) rfl) ?_
  refine Eq.trans (q_getI (ci := 13) (k := 34) dX13_opens_32 (mk0 rfl) rfl) (bind_cg fun x32 => ?_)
  refine Eq.trans (q_iconst (v := 1) dX13_opens_35 (mk0 rfl) rfl) ?_
  refine Eq.trans (q_iadd dX13_opens_36 (mk0 rfl)) ?_
  refine Eq.trans (q_put (ci := 13) (k := 34) (kd := 0) dX13_opens_37 (mk0 rfl) rfl rfl (fun h => by cases h)) (bind_cg fun h37 => ?_)
  rfl
set_option maxRecDepth 20000 in
theorem bX13_opens_40 {L : Nat} {xs : Nat → Int32} (d : Nat) (o : Nat) (i1 : Int32) (ph : PH) : RS (ZZ L xs) (d + 1) mX13_opens 40 [some (.ref o), some (.int i1)] [] ph = (fR ph (.ref o) 13 45).bind fun x41 => (fI ph (.ref o) 13 36).bind fun x45 => (wI ph x41 x45 i1).bind fun h49 => (fI h49 (.ref o) 13 36).bind fun x52 => (fP h49 (.ref o) 13 36 (.int (x52 + 1))).bind fun h57 => some (h57, none) := by
  refine Eq.trans (q_aload_n dX13_opens_40 (mk0 rfl) rfl rfl) ?_
  refine Eq.trans (q_getR (ci := 13) (k := 45) dX13_opens_41 (mk0 rfl) rfl) (bind_cg2 fun x41 hx41 => ?_)
  have hx41 := fR_isR hx41
  refine Eq.trans (q_aload_n dX13_opens_44 (mk0 rfl) rfl rfl) ?_
  refine Eq.trans (q_getI (ci := 13) (k := 36) dX13_opens_45 (mk0 rfl) rfl) (bind_cg fun x45 => ?_)
  refine Eq.trans (q_iload_n dX13_opens_48 (mk0 rfl) rfl) ?_
  refine Eq.trans (q_iastore dX13_opens_49 (mk0 rfl)) (bind_cg fun h49 => ?_)
  refine Eq.trans (q_aload_n dX13_opens_50 (mk0 rfl) rfl rfl) ?_
  refine Eq.trans (q_dup dX13_opens_51 (mk0 rfl) rfl) ?_
  refine Eq.trans (q_getI (ci := 13) (k := 36) dX13_opens_52 (mk0 rfl) rfl) (bind_cg fun x52 => ?_)
  refine Eq.trans (q_iconst (v := 1) dX13_opens_55 (mk0 rfl) rfl) ?_
  refine Eq.trans (q_iadd dX13_opens_56 (mk0 rfl)) ?_
  refine Eq.trans (q_put (ci := 13) (k := 36) (kd := 0) dX13_opens_57 (mk0 rfl) rfl rfl (fun h => by cases h)) (bind_cg fun h57 => ?_)
  exact q_return dX13_opens_60 (mk0 rfl) rfl
set_option maxRecDepth 20000 in
theorem bX13_answers_0 {L : Nat} {xs : Nat → Int32} (d : Nat) (o : Nat) (i1 : Int32) (ph : PH) : RS (ZZ L xs) (d + 1) mX13_answers 0 [some (.ref o), some (.int i1)] [] ph = (iO ph (.ref o) 13).bind fun b1 => (cI (ZZ L xs) d mX13_top [.ref b1] ph).bind fun p1 => if ¬ (p1.2 : Int32) = i1 then RS (ZZ L xs) (d + 1) mX13_answers 54 [some (.ref o), some (.int i1)] [] p1.1 else (fI p1.1 (.ref o) 13 30).bind fun x9 => if ¬ (x9 : Int32) = 0 then RS (ZZ L xs) (d + 1) mX13_answers 54 [some (.ref o), some (.int i1)] [] p1.1 else (iO p1.1 (.ref o) 13).bind fun b18 => (cV (ZZ L xs) d mX13_entry [.ref b18, .int i1, .int 0] p1.1).bind fun p18 => (fI p18 (.ref o) 13 36).bind fun x23 => (fP p18 (.ref o) 13 36 (.int (x23 - 1))).bind fun h28 => (fI h28 (.ref o) 13 34).bind fun x33 => if ¬ (i1 : Int32) = 9 then RS (ZZ L xs) (d + 1) mX13_answers 47 [some (.ref o), some (.int i1)] [.int 0, .int x33, .ref o] h28 else RS (ZZ L xs) (d + 1) mX13_answers 47 [some (.ref o), some (.int i1)] [.int 1, .int x33, .ref o] h28 := by
  refine Eq.trans (q_aload_n dX13_answers_0 (mk0 rfl) rfl rfl) ?_
  refine Eq.trans (q_callV (as := []) dX13_answers_1 (mk0 rfl) rfl rfl rfl (Nat.le_of_ble_eq_true rfl) (Nat.le_of_ble_eq_true rfl)) (bind_cg fun b1 => ?_)
  refine Eq.trans (cI_bind (Or.inl rfl)) (bind_cg fun p1 => ?_)
  show RS (ZZ L xs) (d + 1) mX13_answers 4 [some (.ref o), some (.int i1)] [.int p1.2] p1.1 = _
  refine Eq.trans (q_iload_n dX13_answers_4 (mk0 rfl) rfl) ?_
  refine Eq.trans (q_icmp_ne (t := 54) dX13_answers_5 (mk0 rfl) rfl) (ite_cg ?_ ?_)
  · rfl
  · refine Eq.trans (q_aload_n dX13_answers_8 (mk0 rfl) rfl rfl) ?_
    refine Eq.trans (q_getI (ci := 13) (k := 30) dX13_answers_9 (mk0 rfl) rfl) (bind_cg fun x9 => ?_)
    refine Eq.trans (q_if_ne (t := 54) dX13_answers_12 (mk0 rfl) rfl) (ite_cg ?_ ?_)
    · rfl
    · refine Eq.trans (q_aload_n dX13_answers_15 (mk0 rfl) rfl rfl) ?_
      refine Eq.trans (q_iload_n dX13_answers_16 (mk0 rfl) rfl) ?_
      refine Eq.trans (q_iconst (v := 0) dX13_answers_17 (mk0 rfl) rfl) ?_
      refine Eq.trans (q_callV (as := [.int i1, .int 0]) dX13_answers_18 (mk0 rfl) rfl rfl rfl (Nat.le_of_ble_eq_true rfl) (Nat.le_of_ble_eq_true rfl)) (bind_cg fun b18 => ?_)
      refine Eq.trans (cV_bind rfl) (bind_cg fun p18 => ?_)
      show RS (ZZ L xs) (d + 1) mX13_answers 21 [some (.ref o), some (.int i1)] [] p18 = _
      refine Eq.trans (q_aload_n dX13_answers_21 (mk0 rfl) rfl rfl) ?_
      refine Eq.trans (q_dup dX13_answers_22 (mk0 rfl) rfl) ?_
      refine Eq.trans (q_getI (ci := 13) (k := 36) dX13_answers_23 (mk0 rfl) rfl) (bind_cg fun x23 => ?_)
      refine Eq.trans (q_iconst (v := 1) dX13_answers_26 (mk0 rfl) rfl) ?_
      refine Eq.trans (q_isub dX13_answers_27 (mk0 rfl)) ?_
      refine Eq.trans (q_put (ci := 13) (k := 36) (kd := 0) dX13_answers_28 (mk0 rfl) rfl rfl (fun h => by cases h)) (bind_cg fun h28 => ?_)
      refine Eq.trans (q_aload_n dX13_answers_31 (mk0 rfl) rfl rfl) ?_
      refine Eq.trans (q_dup dX13_answers_32 (mk0 rfl) rfl) ?_
      refine Eq.trans (q_getI (ci := 13) (k := 34) dX13_answers_33 (mk0 rfl) rfl) (bind_cg fun x33 => ?_)
      refine Eq.trans (q_iload_n dX13_answers_36 (mk0 rfl) rfl) ?_
      refine Eq.trans (q_bipush (v := 9) dX13_answers_37 (mk0 rfl) rfl) ?_
      refine Eq.trans (q_icmp_ne (t := 46) dX13_answers_39 (mk0 rfl) rfl) (ite_cg ?_ ?_)
      · refine Eq.trans (q_iconst (v := 0) dX13_answers_46 (mk0 rfl) rfl) ?_
        rfl
      · refine Eq.trans (q_iconst (v := 1) dX13_answers_42 (mk0 rfl) rfl) ?_
        refine Eq.trans (q_goto (t := 47) dX13_answers_43 (mk0 rfl) rfl) ?_
        rfl
set_option maxRecDepth 20000 in
theorem bX13_answers_47 {L : Nat} {xs : Nat → Int32} (d : Nat) (o : Nat) (i1 : Int32) (t0 : Int32) (t1 : Int32) (w2 : Value) (hw2 : isR w2 = true) (ph : PH) : RS (ZZ L xs) (d + 1) mX13_answers 47 [some (.ref o), some (.int i1)] [.int t0, .int t1, w2] ph = (fP ph w2 13 34 (.int (t1 - t0))).bind fun h48 => RS (ZZ L xs) (d + 1) mX13_answers 0 [some (.ref o), some (.int i1)] [] h48 := by
  refine Eq.trans (q_isub dX13_answers_47 (mk0 rfl)) ?_
  refine Eq.trans (q_put (ci := 13) (k := 34) (kd := 0) dX13_answers_48 (mk0 rfl) rfl rfl (fun h => by cases h)) (bind_cg fun h48 => ?_)
  refine Eq.trans (q_goto (t := 0) dX13_answers_51 (mk0 rfl) rfl) ?_
  rfl
set_option maxRecDepth 20000 in
theorem bX13_answers_54 {L : Nat} {xs : Nat → Int32} (d : Nat) (u0 : Option Value) (u1 : Option Value) (ph : PH) : RS (ZZ L xs) (d + 1) mX13_answers 54 [u0, u1] [] ph = some (ph, none) := by
  exact q_return dX13_answers_54 (show mK mX13_answers 54 [u0, u1] = [none, none] from rfl) rfl
set_option maxRecDepth 20000 in
theorem bX13_fact_0 {L : Nat} {xs : Nat → Int32} (d : Nat) (o : Nat) (ph : PH) : RS (ZZ L xs) (d + 1) mX13_fact 0 [some (.ref o)] [] ph = (iO ph (.ref o) 13).bind fun b1 => (cV (ZZ L xs) d mX13_blanks [.ref b1] ph).bind fun p1 => (iO p1 (.ref o) 13).bind fun b8 => (cI (ZZ L xs) d mX13_stood [.ref b8, .retAddr 28] p1).bind fun p8 => if (p8.2 : Int32) = 0 then (iO p8.1 (.ref o) 13).bind fun b33 => (cI (ZZ L xs) d mX13_sign [.ref b33] p8.1).bind fun p33 => if ¬ (p33.2 : Int32) = 91 then (iO p33.1 (.ref o) 13).bind fun b60 => (cV (ZZ L xs) d mX13_compared [.ref b60] p33.1).bind fun p60 => if (1 : Int32) = 0 ∨ (1 : Int32) = 1 then some (p60, some (.int 1)) else none else (iO p33.1 (.ref o) 13).bind fun b44 => (cV (ZZ L xs) d mX13_opens [.ref b44, .int 12] p33.1).bind fun p44 => (fI p44 (.ref o) 13 29).bind fun x49 => (fP p44 (.ref o) 13 29 (.int (x49 + 1))).bind fun h54 => if (0 : Int32) = 0 ∨ (0 : Int32) = 1 then some (h54, some (.int 0)) else none else (iO p8.1 (.ref o) 13).bind fun b17 => (cV (ZZ L xs) d mX13_opens [.ref b17, .int 9] p8.1).bind fun p17 => (fI p17 (.ref o) 13 29).bind fun x22 => (fP p17 (.ref o) 13 29 (.int (x22 + 3))).bind fun h27 => if (0 : Int32) = 0 ∨ (0 : Int32) = 1 then some (h27, some (.int 0)) else none := by
  refine Eq.trans (q_aload_n dX13_fact_0 (mk0 rfl) rfl rfl) ?_
  refine Eq.trans (q_callV (as := []) dX13_fact_1 (mk0 rfl) rfl rfl rfl (Nat.le_of_ble_eq_true rfl) (Nat.le_of_ble_eq_true rfl)) (bind_cg fun b1 => ?_)
  refine Eq.trans (cV_bind rfl) (bind_cg fun p1 => ?_)
  show RS (ZZ L xs) (d + 1) mX13_fact 4 [some (.ref o)] [] p1 = _
  refine Eq.trans (q_aload_n dX13_fact_4 (mk0 rfl) rfl rfl) ?_
  refine Eq.trans (q_ldcwS (k := 28) dX13_fact_5 (mk0 rfl) rfl) ?_
  refine Eq.trans (q_callV (as := [.retAddr 28]) dX13_fact_8 (mk0 rfl) rfl rfl rfl (Nat.le_of_ble_eq_true rfl) (Nat.le_of_ble_eq_true rfl)) (bind_cg fun b8 => ?_)
  refine Eq.trans (cI_bind (Or.inr rfl)) (bind_cg fun p8 => ?_)
  show RS (ZZ L xs) (d + 1) mX13_fact 11 [some (.ref o)] [.int p8.2] p8.1 = _
  refine Eq.trans (q_if_eq (t := 32) dX13_fact_11 (mk0 rfl) rfl) (ite_cg ?_ ?_)
  · refine Eq.trans (q_aload_n dX13_fact_32 (mk0 rfl) rfl rfl) ?_
    refine Eq.trans (q_callV (as := []) dX13_fact_33 (mk0 rfl) rfl rfl rfl (Nat.le_of_ble_eq_true rfl) (Nat.le_of_ble_eq_true rfl)) (bind_cg fun b33 => ?_)
    refine Eq.trans (cI_bind (Or.inl rfl)) (bind_cg fun p33 => ?_)
    show RS (ZZ L xs) (d + 1) mX13_fact 36 [some (.ref o)] [.int p33.2] p33.1 = _
    refine Eq.trans (q_bipush (v := 91) dX13_fact_36 (mk0 rfl) rfl) ?_
    refine Eq.trans (q_icmp_ne (t := 59) dX13_fact_38 (mk0 rfl) rfl) (ite_cg ?_ ?_)
    · refine Eq.trans (q_aload_n dX13_fact_59 (mk0 rfl) rfl rfl) ?_
      refine Eq.trans (q_callV (as := []) dX13_fact_60 (mk0 rfl) rfl rfl rfl (Nat.le_of_ble_eq_true rfl) (Nat.le_of_ble_eq_true rfl)) (bind_cg fun b60 => ?_)
      refine Eq.trans (cV_bind rfl) (bind_cg fun p60 => ?_)
      show RS (ZZ L xs) (d + 1) mX13_fact 63 [some (.ref o)] [] p60 = _
      refine Eq.trans (q_iconst (v := 1) dX13_fact_63 (mk0 rfl) rfl) ?_
      exact q_zreturn dX13_fact_64 (mk0 rfl) rfl
    · refine Eq.trans (q_aload_n dX13_fact_41 (mk0 rfl) rfl rfl) ?_
      refine Eq.trans (q_bipush (v := 12) dX13_fact_42 (mk0 rfl) rfl) ?_
      refine Eq.trans (q_callV (as := [.int 12]) dX13_fact_44 (mk0 rfl) rfl rfl rfl (Nat.le_of_ble_eq_true rfl) (Nat.le_of_ble_eq_true rfl)) (bind_cg fun b44 => ?_)
      refine Eq.trans (cV_bind rfl) (bind_cg fun p44 => ?_)
      show RS (ZZ L xs) (d + 1) mX13_fact 47 [some (.ref o)] [] p44 = _
      refine Eq.trans (q_aload_n dX13_fact_47 (mk0 rfl) rfl rfl) ?_
      refine Eq.trans (q_dup dX13_fact_48 (mk0 rfl) rfl) ?_
      refine Eq.trans (q_getI (ci := 13) (k := 29) dX13_fact_49 (mk0 rfl) rfl) (bind_cg fun x49 => ?_)
      refine Eq.trans (q_iconst (v := 1) dX13_fact_52 (mk0 rfl) rfl) ?_
      refine Eq.trans (q_iadd dX13_fact_53 (mk0 rfl)) ?_
      refine Eq.trans (q_put (ci := 13) (k := 29) (kd := 0) dX13_fact_54 (mk0 rfl) rfl rfl (fun h => by cases h)) (bind_cg fun h54 => ?_)
      refine Eq.trans (q_iconst (v := 0) dX13_fact_57 (mk0 rfl) rfl) ?_
      exact q_zreturn dX13_fact_58 (mk0 rfl) rfl
  · refine Eq.trans (q_aload_n dX13_fact_14 (mk0 rfl) rfl rfl) ?_
    refine Eq.trans (q_bipush (v := 9) dX13_fact_15 (mk0 rfl) rfl) ?_
    refine Eq.trans (q_callV (as := [.int 9]) dX13_fact_17 (mk0 rfl) rfl rfl rfl (Nat.le_of_ble_eq_true rfl) (Nat.le_of_ble_eq_true rfl)) (bind_cg fun b17 => ?_)
    refine Eq.trans (cV_bind rfl) (bind_cg fun p17 => ?_)
    show RS (ZZ L xs) (d + 1) mX13_fact 20 [some (.ref o)] [] p17 = _
    refine Eq.trans (q_aload_n dX13_fact_20 (mk0 rfl) rfl rfl) ?_
    refine Eq.trans (q_dup dX13_fact_21 (mk0 rfl) rfl) ?_
    refine Eq.trans (q_getI (ci := 13) (k := 29) dX13_fact_22 (mk0 rfl) rfl) (bind_cg fun x22 => ?_)
    refine Eq.trans (q_iconst (v := 3) dX13_fact_25 (mk0 rfl) rfl) ?_
    refine Eq.trans (q_iadd dX13_fact_26 (mk0 rfl)) ?_
    refine Eq.trans (q_put (ci := 13) (k := 29) (kd := 0) dX13_fact_27 (mk0 rfl) rfl rfl (fun h => by cases h)) (bind_cg fun h27 => ?_)
    refine Eq.trans (q_iconst (v := 0) dX13_fact_30 (mk0 rfl) rfl) ?_
    exact q_zreturn dX13_fact_31 (mk0 rfl) rfl
set_option maxRecDepth 20000 in
theorem bX13_test_0 {L : Nat} {xs : Nat → Int32} (d : Nat) (o : Nat) (ph : PH) : RS (ZZ L xs) (d + 1) mX13_test 0 [some (.ref o), none, none, none, none] [] ph = (fP ph (.ref o) 13 36 (.int 0)).bind fun h2 => RS (ZZ L xs) (d + 1) mX13_test 9 [some (.ref o), some (.int 1), some (.int 1), none, none] [] h2 := by
  refine Eq.trans (q_aload_n dX13_test_0 (mk0 rfl) rfl rfl) ?_
  refine Eq.trans (q_iconst (v := 0) dX13_test_1 (mk0 rfl) rfl) ?_
  refine Eq.trans (q_put (ci := 13) (k := 36) (kd := 0) dX13_test_2 (mk0 rfl) rfl rfl (fun h => by cases h)) (bind_cg fun h2 => ?_)
  refine Eq.trans (q_iconst (v := 1) dX13_test_5 (mk0 rfl) rfl) ?_
  refine Eq.trans (q_istore_n (lv2 := [some (.ref o), some (.int 1), none, none, none]) dX13_test_6 (mk0 rfl) (Nat.le_of_ble_eq_true rfl) rfl) ?_
  refine Eq.trans (q_iconst (v := 1) dX13_test_7 (mk0 rfl) rfl) ?_
  refine Eq.trans (q_istore_n (lv2 := [some (.ref o), some (.int 1), some (.int 1), none, none]) dX13_test_8 (mk0 rfl) (Nat.le_of_ble_eq_true rfl) rfl) ?_
  rfl
set_option maxRecDepth 20000 in
theorem bX13_test_9 {L : Nat} {xs : Nat → Int32} (d : Nat) (o : Nat) (i1 : Int32) (i2 : Int32) (u3 : Option Value) (u4 : Option Value) (ph : PH) : RS (ZZ L xs) (d + 1) mX13_test 9 [some (.ref o), some (.int i1), some (.int i2), u3, u4] [] ph = if (i2 : Int32) = 0 then RS (ZZ L xs) (d + 1) mX13_test 202 [some (.ref o), some (.int i1), some (.int i2), none, none] [] ph else (fI ph (.ref o) 13 30).bind fun x14 => if ¬ (x14 : Int32) = 0 then RS (ZZ L xs) (d + 1) mX13_test 202 [some (.ref o), some (.int i1), some (.int i2), none, none] [] ph else if (i1 : Int32) = 0 then (iO ph (.ref o) 13).bind fun b43 => (cV (ZZ L xs) d mX13_answers [.ref b43, .int 9] ph).bind fun p43 => (iO p43 (.ref o) 13).bind fun b47 => (cV (ZZ L xs) d mX13_blanks [.ref b47] p43).bind fun p47 => (iO p47 (.ref o) 13).bind fun b54 => (cI (ZZ L xs) d mX13_stood [.ref b54, .retAddr 29] p47).bind fun p54 => (iO p54.1 (.ref o) 13).bind fun b62 => (cI (ZZ L xs) d mX13_stood [.ref b62, .retAddr 30] p54.1).bind fun p62 => (iO p62.1 (.ref o) 13).bind fun b70 => (cV (ZZ L xs) d mX13_answers [.ref b70, .int 10] p62.1).bind fun p70 => if ¬ (p54.2 : Int32) = 0 then RS (ZZ L xs) (d + 1) mX13_test 82 [some (.ref o), some (.int i1), some (.int i2), some (.int p54.2), some (.int p62.2)] [] p70 else if (p62.2 : Int32) = 0 then (iO p70 (.ref o) 13).bind fun b134 => (cV (ZZ L xs) d mX13_answers [.ref b134, .int 11] p70).bind fun p134 => (iO p134 (.ref o) 13).bind fun b138 => (cI (ZZ L xs) d mX13_top [.ref b138] p134).bind fun p138 => if ¬ (p138.2 : Int32) = 12 then RS (ZZ L xs) (d + 1) mX13_test 199 [some (.ref o), some (.int i1), some (.int 0), some (.int p54.2), some (.int p62.2)] [] p138.1 else (iO p138.1 (.ref o) 13).bind fun b147 => (cI (ZZ L xs) d mX13_sign [.ref b147] p138.1).bind fun p147 => if (p147.2 : Int32) = 93 then RS (ZZ L xs) (d + 1) mX13_test 164 [some (.ref o), some (.int i1), some (.int i2), some (.int p54.2), some (.int p62.2)] [] p147.1 else (fI p147.1 (.ref o) 13 29).bind fun x158 => (iO p147.1 (.ref o) 13).bind fun b161 => (cV (ZZ L xs) d mX13_fails [.ref b161, .int 0, .int x158] p147.1).bind fun p161 => RS (ZZ L xs) (d + 1) mX13_test 164 [some (.ref o), some (.int i1), some (.int i2), some (.int p54.2), some (.int p62.2)] [] p161 else RS (ZZ L xs) (d + 1) mX13_test 82 [some (.ref o), some (.int i1), some (.int i2), some (.int p54.2), some (.int p62.2)] [] p70 else (iO ph (.ref o) 13).bind fun b25 => (cI (ZZ L xs) d mX13_fact [.ref b25] ph).bind fun p25 => if ¬ (p25.2 : Int32) = 0 then RS (ZZ L xs) (d + 1) mX13_test 36 [some (.ref o), some (.int i1), some (.int i2), none, none] [.int 0] p25.1 else RS (ZZ L xs) (d + 1) mX13_test 36 [some (.ref o), some (.int i1), some (.int i2), none, none] [.int 1] p25.1 := by
  refine Eq.trans (q_iload_n dX13_test_9 (show mK mX13_test 9 [some (.ref o), some (.int i1), some (.int i2), u3, u4] = [some (.ref o), some (.int i1), some (.int i2), none, none] from rfl) rfl) ?_
  refine Eq.trans (q_if_eq (t := 202) dX13_test_10 (mk0 rfl) rfl) (ite_cg ?_ ?_)
  · rfl
  · refine Eq.trans (q_aload_n dX13_test_13 (mk0 rfl) rfl rfl) ?_
    refine Eq.trans (q_getI (ci := 13) (k := 30) dX13_test_14 (mk0 rfl) rfl) (bind_cg fun x14 => ?_)
    refine Eq.trans (q_if_ne (t := 202) dX13_test_17 (mk0 rfl) rfl) (ite_cg ?_ ?_)
    · rfl
    · refine Eq.trans (q_iload_n dX13_test_20 (mk0 rfl) rfl) ?_
      refine Eq.trans (q_if_eq (t := 40) dX13_test_21 (mk0 rfl) rfl) (ite_cg ?_ ?_)
      · refine Eq.trans (q_aload_n dX13_test_40 (mk0 rfl) rfl rfl) ?_
        refine Eq.trans (q_bipush (v := 9) dX13_test_41 (mk0 rfl) rfl) ?_
        refine Eq.trans (q_callV (as := [.int 9]) dX13_test_43 (mk0 rfl) rfl rfl rfl (Nat.le_of_ble_eq_true rfl) (Nat.le_of_ble_eq_true rfl)) (bind_cg fun b43 => ?_)
        refine Eq.trans (cV_bind rfl) (bind_cg fun p43 => ?_)
        show RS (ZZ L xs) (d + 1) mX13_test 46 [some (.ref o), some (.int i1), some (.int i2), none, none] [] p43 = _
        refine Eq.trans (q_aload_n dX13_test_46 (mk0 rfl) rfl rfl) ?_
        refine Eq.trans (q_callV (as := []) dX13_test_47 (mk0 rfl) rfl rfl rfl (Nat.le_of_ble_eq_true rfl) (Nat.le_of_ble_eq_true rfl)) (bind_cg fun b47 => ?_)
        refine Eq.trans (cV_bind rfl) (bind_cg fun p47 => ?_)
        show RS (ZZ L xs) (d + 1) mX13_test 50 [some (.ref o), some (.int i1), some (.int i2), none, none] [] p47 = _
        refine Eq.trans (q_aload_n dX13_test_50 (mk0 rfl) rfl rfl) ?_
        refine Eq.trans (q_ldcwS (k := 29) dX13_test_51 (mk0 rfl) rfl) ?_
        refine Eq.trans (q_callV (as := [.retAddr 29]) dX13_test_54 (mk0 rfl) rfl rfl rfl (Nat.le_of_ble_eq_true rfl) (Nat.le_of_ble_eq_true rfl)) (bind_cg fun b54 => ?_)
        refine Eq.trans (cI_bind (Or.inr rfl)) (bind_cg fun p54 => ?_)
        show RS (ZZ L xs) (d + 1) mX13_test 57 [some (.ref o), some (.int i1), some (.int i2), none, none] [.int p54.2] p54.1 = _
        refine Eq.trans (q_istore_n (lv2 := [some (.ref o), some (.int i1), some (.int i2), some (.int p54.2), none]) dX13_test_57 (mk0 rfl) (Nat.le_of_ble_eq_true rfl) rfl) ?_
        refine Eq.trans (q_aload_n dX13_test_58 (mk0 rfl) rfl rfl) ?_
        refine Eq.trans (q_ldcwS (k := 30) dX13_test_59 (mk0 rfl) rfl) ?_
        refine Eq.trans (q_callV (as := [.retAddr 30]) dX13_test_62 (mk0 rfl) rfl rfl rfl (Nat.le_of_ble_eq_true rfl) (Nat.le_of_ble_eq_true rfl)) (bind_cg fun b62 => ?_)
        refine Eq.trans (cI_bind (Or.inr rfl)) (bind_cg fun p62 => ?_)
        show RS (ZZ L xs) (d + 1) mX13_test 65 [some (.ref o), some (.int i1), some (.int i2), some (.int p54.2), none] [.int p62.2] p62.1 = _
        refine Eq.trans (q_istore (lv2 := [some (.ref o), some (.int i1), some (.int i2), some (.int p54.2), some (.int p62.2)]) dX13_test_65 (mk0 rfl) (Nat.le_of_ble_eq_true rfl) rfl) ?_
        refine Eq.trans (q_aload_n dX13_test_67 (mk0 rfl) rfl rfl) ?_
        refine Eq.trans (q_bipush (v := 10) dX13_test_68 (mk0 rfl) rfl) ?_
        refine Eq.trans (q_callV (as := [.int 10]) dX13_test_70 (mk0 rfl) rfl rfl rfl (Nat.le_of_ble_eq_true rfl) (Nat.le_of_ble_eq_true rfl)) (bind_cg fun b70 => ?_)
        refine Eq.trans (cV_bind rfl) (bind_cg fun p70 => ?_)
        show RS (ZZ L xs) (d + 1) mX13_test 73 [some (.ref o), some (.int i1), some (.int i2), some (.int p54.2), some (.int p62.2)] [] p70 = _
        refine Eq.trans (q_iload_n dX13_test_73 (mk0 rfl) rfl) ?_
        refine Eq.trans (q_if_ne (t := 82) dX13_test_74 (mk0 rfl) rfl) (ite_cg ?_ ?_)
        · rfl
        · refine Eq.trans (q_iload dX13_test_77 (mk0 rfl) rfl) ?_
          refine Eq.trans (q_if_eq (t := 131) dX13_test_79 (mk0 rfl) rfl) (ite_cg ?_ ?_)
          · refine Eq.trans (q_aload_n dX13_test_131 (mk0 rfl) rfl rfl) ?_
            refine Eq.trans (q_bipush (v := 11) dX13_test_132 (mk0 rfl) rfl) ?_
            refine Eq.trans (q_callV (as := [.int 11]) dX13_test_134 (mk0 rfl) rfl rfl rfl (Nat.le_of_ble_eq_true rfl) (Nat.le_of_ble_eq_true rfl)) (bind_cg fun b134 => ?_)
            refine Eq.trans (cV_bind rfl) (bind_cg fun p134 => ?_)
            show RS (ZZ L xs) (d + 1) mX13_test 137 [some (.ref o), some (.int i1), some (.int i2), some (.int p54.2), some (.int p62.2)] [] p134 = _
            refine Eq.trans (q_aload_n dX13_test_137 (mk0 rfl) rfl rfl) ?_
            refine Eq.trans (q_callV (as := []) dX13_test_138 (mk0 rfl) rfl rfl rfl (Nat.le_of_ble_eq_true rfl) (Nat.le_of_ble_eq_true rfl)) (bind_cg fun b138 => ?_)
            refine Eq.trans (cI_bind (Or.inl rfl)) (bind_cg fun p138 => ?_)
            show RS (ZZ L xs) (d + 1) mX13_test 141 [some (.ref o), some (.int i1), some (.int i2), some (.int p54.2), some (.int p62.2)] [.int p138.2] p138.1 = _
            refine Eq.trans (q_bipush (v := 12) dX13_test_141 (mk0 rfl) rfl) ?_
            refine Eq.trans (q_icmp_ne (t := 197) dX13_test_143 (mk0 rfl) rfl) (ite_cg ?_ ?_)
            · refine Eq.trans (q_iconst (v := 0) dX13_test_197 (mk0 rfl) rfl) ?_
              refine Eq.trans (q_istore_n (lv2 := [some (.ref o), some (.int i1), some (.int 0), some (.int p54.2), some (.int p62.2)]) dX13_test_198 (mk0 rfl) (Nat.le_of_ble_eq_true rfl) rfl) ?_
              rfl
            · refine Eq.trans (q_aload_n dX13_test_146 (mk0 rfl) rfl rfl) ?_
              refine Eq.trans (q_callV (as := []) dX13_test_147 (mk0 rfl) rfl rfl rfl (Nat.le_of_ble_eq_true rfl) (Nat.le_of_ble_eq_true rfl)) (bind_cg fun b147 => ?_)
              refine Eq.trans (cI_bind (Or.inl rfl)) (bind_cg fun p147 => ?_)
              show RS (ZZ L xs) (d + 1) mX13_test 150 [some (.ref o), some (.int i1), some (.int i2), some (.int p54.2), some (.int p62.2)] [.int p147.2] p147.1 = _
              refine Eq.trans (q_bipush (v := 93) dX13_test_150 (mk0 rfl) rfl) ?_
              refine Eq.trans (q_icmp_eq (t := 164) dX13_test_152 (mk0 rfl) rfl) (ite_cg ?_ ?_)
              · rfl
              · refine Eq.trans (q_aload_n dX13_test_155 (mk0 rfl) rfl rfl) ?_
                refine Eq.trans (q_iconst (v := 0) dX13_test_156 (mk0 rfl) rfl) ?_
                refine Eq.trans (q_aload_n dX13_test_157 (mk0 rfl) rfl rfl) ?_
                refine Eq.trans (q_getI (ci := 13) (k := 29) dX13_test_158 (mk0 rfl) rfl) (bind_cg fun x158 => ?_)
                refine Eq.trans (q_callV (as := [.int 0, .int x158]) dX13_test_161 (mk0 rfl) rfl rfl rfl (Nat.le_of_ble_eq_true rfl) (Nat.le_of_ble_eq_true rfl)) (bind_cg fun b161 => ?_)
                refine Eq.trans (cV_bind rfl) (bind_cg fun p161 => ?_)
                show RS (ZZ L xs) (d + 1) mX13_test 164 [some (.ref o), some (.int i1), some (.int i2), some (.int p54.2), some (.int p62.2)] [] p161 = _
                rfl
          · rfl
      · refine Eq.trans (q_aload_n dX13_test_24 (mk0 rfl) rfl rfl) ?_
        refine Eq.trans (q_callV (as := []) dX13_test_25 (mk0 rfl) rfl rfl rfl (Nat.le_of_ble_eq_true rfl) (Nat.le_of_ble_eq_true rfl)) (bind_cg fun b25 => ?_)
        refine Eq.trans (cI_bind (Or.inr rfl)) (bind_cg fun p25 => ?_)
        show RS (ZZ L xs) (d + 1) mX13_test 28 [some (.ref o), some (.int i1), some (.int i2), none, none] [.int p25.2] p25.1 = _
        refine Eq.trans (q_if_ne (t := 35) dX13_test_28 (mk0 rfl) rfl) (ite_cg ?_ ?_)
        · refine Eq.trans (q_iconst (v := 0) dX13_test_35 (mk0 rfl) rfl) ?_
          rfl
        · refine Eq.trans (q_iconst (v := 1) dX13_test_31 (mk0 rfl) rfl) ?_
          refine Eq.trans (q_goto (t := 36) dX13_test_32 (mk0 rfl) rfl) ?_
          rfl
set_option maxRecDepth 20000 in
theorem bX13_test_36 {L : Nat} {xs : Nat → Int32} (d : Nat) (o : Nat) (u1 : Option Value) (i2 : Int32) (u3 : Option Value) (u4 : Option Value) (t0 : Int32) (ph : PH) : RS (ZZ L xs) (d + 1) mX13_test 36 [some (.ref o), u1, some (.int i2), u3, u4] [.int t0] ph = RS (ZZ L xs) (d + 1) mX13_test 9 [some (.ref o), some (.int t0), some (.int i2), none, none] [] ph := by
  refine Eq.trans (q_istore_n (lv2 := [some (.ref o), some (.int t0), some (.int i2), none, none]) dX13_test_36 (show mK mX13_test 36 [some (.ref o), u1, some (.int i2), u3, u4] = [some (.ref o), none, some (.int i2), none, none] from rfl) (Nat.le_of_ble_eq_true rfl) rfl) ?_
  refine Eq.trans (q_goto (t := 9) dX13_test_37 (mk0 rfl) rfl) ?_
  rfl
set_option maxRecDepth 20000 in
theorem bX13_test_82 {L : Nat} {xs : Nat → Int32} (d : Nat) (o : Nat) (u1 : Option Value) (i2 : Int32) (i3 : Int32) (i4 : Int32) (ph : PH) : RS (ZZ L xs) (d + 1) mX13_test 82 [some (.ref o), u1, some (.int i2), some (.int i3), some (.int i4)] [] ph = if (i4 : Int32) = 0 then RS (ZZ L xs) (d + 1) mX13_test 93 [some (.ref o), none, some (.int i2), some (.int i3), some (.int i4)] [] ph else (iO ph (.ref o) 13).bind fun b90 => (cV (ZZ L xs) d mX13_answers [.ref b90, .int 11] ph).bind fun p90 => RS (ZZ L xs) (d + 1) mX13_test 93 [some (.ref o), none, some (.int i2), some (.int i3), some (.int i4)] [] p90 := by
  refine Eq.trans (q_iload dX13_test_82 (show mK mX13_test 82 [some (.ref o), u1, some (.int i2), some (.int i3), some (.int i4)] = [some (.ref o), none, some (.int i2), some (.int i3), some (.int i4)] from rfl) rfl) ?_
  refine Eq.trans (q_if_eq (t := 93) dX13_test_84 (mk0 rfl) rfl) (ite_cg ?_ ?_)
  · rfl
  · refine Eq.trans (q_aload_n dX13_test_87 (mk0 rfl) rfl rfl) ?_
    refine Eq.trans (q_bipush (v := 11) dX13_test_88 (mk0 rfl) rfl) ?_
    refine Eq.trans (q_callV (as := [.int 11]) dX13_test_90 (mk0 rfl) rfl rfl rfl (Nat.le_of_ble_eq_true rfl) (Nat.le_of_ble_eq_true rfl)) (bind_cg fun b90 => ?_)
    refine Eq.trans (cV_bind rfl) (bind_cg fun p90 => ?_)
    show RS (ZZ L xs) (d + 1) mX13_test 93 [some (.ref o), none, some (.int i2), some (.int i3), some (.int i4)] [] p90 = _
    rfl
set_option maxRecDepth 20000 in
theorem bX13_test_93 {L : Nat} {xs : Nat → Int32} (d : Nat) (o : Nat) (u1 : Option Value) (i2 : Int32) (i3 : Int32) (u4 : Option Value) (ph : PH) : RS (ZZ L xs) (d + 1) mX13_test 93 [some (.ref o), u1, some (.int i2), some (.int i3), u4] [] ph = if (i3 : Int32) = 0 then RS (ZZ L xs) (d + 1) mX13_test 105 [some (.ref o), none, some (.int i2), some (.int i3), none] [.int 11, .ref o] ph else RS (ZZ L xs) (d + 1) mX13_test 105 [some (.ref o), none, some (.int i2), some (.int i3), none] [.int 10, .ref o] ph := by
  refine Eq.trans (q_aload_n dX13_test_93 (show mK mX13_test 93 [some (.ref o), u1, some (.int i2), some (.int i3), u4] = [some (.ref o), none, some (.int i2), some (.int i3), none] from rfl) rfl rfl) ?_
  refine Eq.trans (q_iload_n dX13_test_94 (mk0 rfl) rfl) ?_
  refine Eq.trans (q_if_eq (t := 103) dX13_test_95 (mk0 rfl) rfl) (ite_cg ?_ ?_)
  · refine Eq.trans (q_bipush (v := 11) dX13_test_103 (mk0 rfl) rfl) ?_
    rfl
  · refine Eq.trans (q_bipush (v := 10) dX13_test_98 (mk0 rfl) rfl) ?_
    refine Eq.trans (q_goto (t := 105) dX13_test_100 (mk0 rfl) rfl) ?_
    rfl
set_option maxRecDepth 20000 in
theorem bX13_test_105 {L : Nat} {xs : Nat → Int32} (d : Nat) (o : Nat) (u1 : Option Value) (i2 : Int32) (i3 : Int32) (u4 : Option Value) (t0 : Int32) (w1 : Value) (hw1 : isR w1 = true) (ph : PH) : RS (ZZ L xs) (d + 1) mX13_test 105 [some (.ref o), u1, some (.int i2), some (.int i3), u4] [.int t0, w1] ph = (iO ph w1 13).bind fun b105 => (cV (ZZ L xs) d mX13_opens [.ref b105, .int t0] ph).bind fun p105 => (fI p105 (.ref o) 13 29).bind fun x110 => if (i3 : Int32) = 0 then RS (ZZ L xs) (d + 1) mX13_test 122 [some (.ref o), none, some (.int i2), some (.int i3), none] [.int 2, .int x110, .ref o] p105 else RS (ZZ L xs) (d + 1) mX13_test 122 [some (.ref o), none, some (.int i2), some (.int i3), none] [.int 3, .int x110, .ref o] p105 := by
  refine Eq.trans (q_callV (as := [.int t0]) dX13_test_105 (show mK mX13_test 105 [some (.ref o), u1, some (.int i2), some (.int i3), u4] = [some (.ref o), none, some (.int i2), some (.int i3), none] from rfl) rfl rfl rfl (Nat.le_of_ble_eq_true rfl) (Nat.le_of_ble_eq_true rfl)) (bind_cg fun b105 => ?_)
  refine Eq.trans (cV_bind rfl) (bind_cg fun p105 => ?_)
  show RS (ZZ L xs) (d + 1) mX13_test 108 [some (.ref o), none, some (.int i2), some (.int i3), none] [] p105 = _
  refine Eq.trans (q_aload_n dX13_test_108 (mk0 rfl) rfl rfl) ?_
  refine Eq.trans (q_dup dX13_test_109 (mk0 rfl) rfl) ?_
  refine Eq.trans (q_getI (ci := 13) (k := 29) dX13_test_110 (mk0 rfl) rfl) (bind_cg fun x110 => ?_)
  refine Eq.trans (q_iload_n dX13_test_113 (mk0 rfl) rfl) ?_
  refine Eq.trans (q_if_eq (t := 121) dX13_test_114 (mk0 rfl) rfl) (ite_cg ?_ ?_)
  · refine Eq.trans (q_iconst (v := 2) dX13_test_121 (mk0 rfl) rfl) ?_
    rfl
  · refine Eq.trans (q_iconst (v := 3) dX13_test_117 (mk0 rfl) rfl) ?_
    refine Eq.trans (q_goto (t := 122) dX13_test_118 (mk0 rfl) rfl) ?_
    rfl
set_option maxRecDepth 20000 in
theorem bX13_test_122 {L : Nat} {xs : Nat → Int32} (d : Nat) (o : Nat) (u1 : Option Value) (i2 : Int32) (u3 : Option Value) (u4 : Option Value) (t0 : Int32) (t1 : Int32) (w2 : Value) (hw2 : isR w2 = true) (ph : PH) : RS (ZZ L xs) (d + 1) mX13_test 122 [some (.ref o), u1, some (.int i2), u3, u4] [.int t0, .int t1, w2] ph = (fP ph w2 13 29 (.int (t1 + t0))).bind fun h123 => RS (ZZ L xs) (d + 1) mX13_test 199 [some (.ref o), some (.int 1), some (.int i2), none, none] [] h123 := by
  refine Eq.trans (q_iadd dX13_test_122 (show mK mX13_test 122 [some (.ref o), u1, some (.int i2), u3, u4] = [some (.ref o), none, some (.int i2), none, none] from rfl)) ?_
  refine Eq.trans (q_put (ci := 13) (k := 29) (kd := 0) dX13_test_123 (mk0 rfl) rfl rfl (fun h => by cases h)) (bind_cg fun h123 => ?_)
  refine Eq.trans (q_iconst (v := 1) dX13_test_126 (mk0 rfl) rfl) ?_
  refine Eq.trans (q_istore_n (lv2 := [some (.ref o), some (.int 1), some (.int i2), none, none]) dX13_test_127 (mk0 rfl) (Nat.le_of_ble_eq_true rfl) rfl) ?_
  refine Eq.trans (q_goto (t := 199) dX13_test_128 (mk0 rfl) rfl) ?_
  rfl
set_option maxRecDepth 20000 in
theorem bX13_test_164 {L : Nat} {xs : Nat → Int32} (d : Nat) (o : Nat) (i1 : Int32) (i2 : Int32) (u3 : Option Value) (u4 : Option Value) (ph : PH) : RS (ZZ L xs) (d + 1) mX13_test 164 [some (.ref o), some (.int i1), some (.int i2), u3, u4] [] ph = (fI ph (.ref o) 13 29).bind fun x166 => (fP ph (.ref o) 13 29 (.int (x166 + 1))).bind fun h171 => (fI h171 (.ref o) 13 36).bind fun x176 => (fP h171 (.ref o) 13 36 (.int (x176 - 1))).bind fun h181 => (fI h181 (.ref o) 13 34).bind fun x186 => (fP h181 (.ref o) 13 34 (.int (x186 - 1))).bind fun h191 => RS (ZZ L xs) (d + 1) mX13_test 199 [some (.ref o), some (.int i1), some (.int i2), none, none] [] h191 := by
  refine Eq.trans (q_aload_n dX13_test_164 (show mK mX13_test 164 [some (.ref o), some (.int i1), some (.int i2), u3, u4] = [some (.ref o), some (.int i1), some (.int i2), none, none] from rfl) rfl rfl) ?_
  refine Eq.trans (q_dup dX13_test_165 (mk0 rfl) rfl) ?_
  refine Eq.trans (q_getI (ci := 13) (k := 29) dX13_test_166 (mk0 rfl) rfl) (bind_cg fun x166 => ?_)
  refine Eq.trans (q_iconst (v := 1) dX13_test_169 (mk0 rfl) rfl) ?_
  refine Eq.trans (q_iadd dX13_test_170 (mk0 rfl)) ?_
  refine Eq.trans (q_put (ci := 13) (k := 29) (kd := 0) dX13_test_171 (mk0 rfl) rfl rfl (fun h => by cases h)) (bind_cg fun h171 => ?_)
  refine Eq.trans (q_aload_n dX13_test_174 (mk0 rfl) rfl rfl) ?_
  refine Eq.trans (q_dup dX13_test_175 (mk0 rfl) rfl) ?_
  refine Eq.trans (q_getI (ci := 13) (k := 36) dX13_test_176 (mk0 rfl) rfl) (bind_cg fun x176 => ?_)
  refine Eq.trans (q_iconst (v := 1) dX13_test_179 (mk0 rfl) rfl) ?_
  refine Eq.trans (q_isub dX13_test_180 (mk0 rfl)) ?_
  refine Eq.trans (q_put (ci := 13) (k := 36) (kd := 0) dX13_test_181 (mk0 rfl) rfl rfl (fun h => by cases h)) (bind_cg fun h181 => ?_)
  refine Eq.trans (q_aload_n dX13_test_184 (mk0 rfl) rfl rfl) ?_
  refine Eq.trans (q_dup dX13_test_185 (mk0 rfl) rfl) ?_
  refine Eq.trans (q_getI (ci := 13) (k := 34) dX13_test_186 (mk0 rfl) rfl) (bind_cg fun x186 => ?_)
  refine Eq.trans (q_iconst (v := 1) dX13_test_189 (mk0 rfl) rfl) ?_
  refine Eq.trans (q_isub dX13_test_190 (mk0 rfl)) ?_
  refine Eq.trans (q_put (ci := 13) (k := 34) (kd := 0) dX13_test_191 (mk0 rfl) rfl rfl (fun h => by cases h)) (bind_cg fun h191 => ?_)
  refine Eq.trans (q_goto (t := 199) dX13_test_194 (mk0 rfl) rfl) ?_
  rfl
set_option maxRecDepth 20000 in
theorem bX13_test_199 {L : Nat} {xs : Nat → Int32} (d : Nat) (o : Nat) (i1 : Int32) (i2 : Int32) (u3 : Option Value) (u4 : Option Value) (ph : PH) : RS (ZZ L xs) (d + 1) mX13_test 199 [some (.ref o), some (.int i1), some (.int i2), u3, u4] [] ph = RS (ZZ L xs) (d + 1) mX13_test 9 [some (.ref o), some (.int i1), some (.int i2), none, none] [] ph := by
  refine Eq.trans (q_goto (t := 9) dX13_test_199 (show mK mX13_test 199 [some (.ref o), some (.int i1), some (.int i2), u3, u4] = [some (.ref o), some (.int i1), some (.int i2), none, none] from rfl) rfl) ?_
  rfl
set_option maxRecDepth 20000 in
theorem bX13_test_202 {L : Nat} {xs : Nat → Int32} (d : Nat) (u0 : Option Value) (u1 : Option Value) (u2 : Option Value) (u3 : Option Value) (u4 : Option Value) (ph : PH) : RS (ZZ L xs) (d + 1) mX13_test 202 [u0, u1, u2, u3, u4] [] ph = some (ph, none) := by
  exact q_return dX13_test_202 (show mK mX13_test 202 [u0, u1, u2, u3, u4] = [none, none, none, none, none] from rfl) rfl
set_option maxRecDepth 20000 in
theorem bX13_amount_0 {L : Nat} {xs : Nat → Int32} (d : Nat) (o : Nat) (i1 : Int32) (i2 : Int32) (ph : PH) : RS (ZZ L xs) (d + 1) mX13_amount 0 [some (.ref o), some (.int i1), some (.int i2), none, none] [] ph = (iO ph (.ref o) 13).bind fun b1 => (cV (ZZ L xs) d mX13_blanks [.ref b1] ph).bind fun p1 => (fI p1 (.ref o) 13 29).bind fun x5 => (fI p1 (.ref o) 13 30).bind fun x10 => if ¬ (x10 : Int32) = 0 then RS (ZZ L xs) (d + 1) mX13_amount 26 [some (.ref o), some (.int i1), some (.int i2), some (.int x5), none] [.int 0] p1 else (iO p1 (.ref o) 13).bind fun b19 => (cI (ZZ L xs) d mX13_digits [.ref b19, .int 99999] p1).bind fun p19 => RS (ZZ L xs) (d + 1) mX13_amount 26 [some (.ref o), some (.int i1), some (.int i2), some (.int x5), none] [.int p19.2] p19.1 := by
  refine Eq.trans (q_aload_n dX13_amount_0 (mk0 rfl) rfl rfl) ?_
  refine Eq.trans (q_callV (as := []) dX13_amount_1 (mk0 rfl) rfl rfl rfl (Nat.le_of_ble_eq_true rfl) (Nat.le_of_ble_eq_true rfl)) (bind_cg fun b1 => ?_)
  refine Eq.trans (cV_bind rfl) (bind_cg fun p1 => ?_)
  show RS (ZZ L xs) (d + 1) mX13_amount 4 [some (.ref o), some (.int i1), some (.int i2), none, none] [] p1 = _
  refine Eq.trans (q_aload_n dX13_amount_4 (mk0 rfl) rfl rfl) ?_
  refine Eq.trans (q_getI (ci := 13) (k := 29) dX13_amount_5 (mk0 rfl) rfl) (bind_cg fun x5 => ?_)
  refine Eq.trans (q_istore_n (lv2 := [some (.ref o), some (.int i1), some (.int i2), some (.int x5), none]) dX13_amount_8 (mk0 rfl) (Nat.le_of_ble_eq_true rfl) rfl) ?_
  refine Eq.trans (q_aload_n dX13_amount_9 (mk0 rfl) rfl rfl) ?_
  refine Eq.trans (q_getI (ci := 13) (k := 30) dX13_amount_10 (mk0 rfl) rfl) (bind_cg fun x10 => ?_)
  refine Eq.trans (q_if_ne (t := 25) dX13_amount_13 (mk0 rfl) rfl) (ite_cg ?_ ?_)
  · refine Eq.trans (q_iconst (v := 0) dX13_amount_25 (mk0 rfl) rfl) ?_
    rfl
  · refine Eq.trans (q_aload_n dX13_amount_16 (mk0 rfl) rfl rfl) ?_
    refine Eq.trans (q_ldcI (v := 99999) dX13_amount_17 (mk0 rfl) rfl) ?_
    refine Eq.trans (q_callV (as := [.int 99999]) dX13_amount_19 (mk0 rfl) rfl rfl rfl (Nat.le_of_ble_eq_true rfl) (Nat.le_of_ble_eq_true rfl)) (bind_cg fun b19 => ?_)
    refine Eq.trans (cI_bind (Or.inl rfl)) (bind_cg fun p19 => ?_)
    show RS (ZZ L xs) (d + 1) mX13_amount 22 [some (.ref o), some (.int i1), some (.int i2), some (.int x5), none] [.int p19.2] p19.1 = _
    refine Eq.trans (q_goto (t := 26) dX13_amount_22 (mk0 rfl) rfl) ?_
    rfl
set_option maxRecDepth 20000 in
theorem bX13_amount_26 {L : Nat} {xs : Nat → Int32} (d : Nat) (o : Nat) (i1 : Int32) (i2 : Int32) (i3 : Int32) (u4 : Option Value) (t0 : Int32) (ph : PH) : RS (ZZ L xs) (d + 1) mX13_amount 26 [some (.ref o), some (.int i1), some (.int i2), some (.int i3), u4] [.int t0] ph = (fI ph (.ref o) 13 30).bind fun x29 => if ¬ (x29 : Int32) = 0 then RS (ZZ L xs) (d + 1) mX13_amount 54 [some (.ref o), some (.int i1), some (.int i2), some (.int i3), some (.int t0)] [] ph else (cI (ZZ L xs) d mX13_in [.long ((t0 : Int32).toInt64), .long ((i1 : Int32).toInt64), .long ((i2 : Int32).toInt64)] ph).bind fun p42 => if ¬ (p42.2 : Int32) = 0 then RS (ZZ L xs) (d + 1) mX13_amount 54 [some (.ref o), some (.int i1), some (.int i2), some (.int i3), some (.int t0)] [] p42.1 else (iO p42.1 (.ref o) 13).bind fun b51 => (cV (ZZ L xs) d mX13_fails [.ref b51, .int 1, .int i3] p42.1).bind fun p51 => RS (ZZ L xs) (d + 1) mX13_amount 54 [some (.ref o), some (.int i1), some (.int i2), some (.int i3), some (.int t0)] [] p51 := by
  refine Eq.trans (q_istore (lv2 := [some (.ref o), some (.int i1), some (.int i2), some (.int i3), some (.int t0)]) dX13_amount_26 (show mK mX13_amount 26 [some (.ref o), some (.int i1), some (.int i2), some (.int i3), u4] = [some (.ref o), some (.int i1), some (.int i2), some (.int i3), none] from rfl) (Nat.le_of_ble_eq_true rfl) rfl) ?_
  refine Eq.trans (q_aload_n dX13_amount_28 (mk0 rfl) rfl rfl) ?_
  refine Eq.trans (q_getI (ci := 13) (k := 30) dX13_amount_29 (mk0 rfl) rfl) (bind_cg fun x29 => ?_)
  refine Eq.trans (q_if_ne (t := 54) dX13_amount_32 (mk0 rfl) rfl) (ite_cg ?_ ?_)
  · rfl
  · refine Eq.trans (q_iload dX13_amount_35 (mk0 rfl) rfl) ?_
    refine Eq.trans (q_i2l dX13_amount_37 (mk0 rfl)) ?_
    refine Eq.trans (q_iload_n dX13_amount_38 (mk0 rfl) rfl) ?_
    refine Eq.trans (q_i2l dX13_amount_39 (mk0 rfl)) ?_
    refine Eq.trans (q_iload_n dX13_amount_40 (mk0 rfl) rfl) ?_
    refine Eq.trans (q_i2l dX13_amount_41 (mk0 rfl)) ?_
    refine Eq.trans (q_callS (as := [.long ((t0 : Int32).toInt64), .long ((i1 : Int32).toInt64), .long ((i2 : Int32).toInt64)]) dX13_amount_42 (mk0 rfl) rfl (Or.inl rfl) rfl rfl (Nat.le_of_ble_eq_true rfl) (Nat.le_of_ble_eq_true rfl)) ?_
    refine Eq.trans (cI_bind (Or.inr rfl)) (bind_cg fun p42 => ?_)
    show RS (ZZ L xs) (d + 1) mX13_amount 45 [some (.ref o), some (.int i1), some (.int i2), some (.int i3), some (.int t0)] [.int p42.2] p42.1 = _
    refine Eq.trans (q_if_ne (t := 54) dX13_amount_45 (mk0 rfl) rfl) (ite_cg ?_ ?_)
    · rfl
    · refine Eq.trans (q_aload_n dX13_amount_48 (mk0 rfl) rfl rfl) ?_
      refine Eq.trans (q_iconst (v := 1) dX13_amount_49 (mk0 rfl) rfl) ?_
      refine Eq.trans (q_iload_n dX13_amount_50 (mk0 rfl) rfl) ?_
      refine Eq.trans (q_callV (as := [.int 1, .int i3]) dX13_amount_51 (mk0 rfl) rfl rfl rfl (Nat.le_of_ble_eq_true rfl) (Nat.le_of_ble_eq_true rfl)) (bind_cg fun b51 => ?_)
      refine Eq.trans (cV_bind rfl) (bind_cg fun p51 => ?_)
      show RS (ZZ L xs) (d + 1) mX13_amount 54 [some (.ref o), some (.int i1), some (.int i2), some (.int i3), some (.int t0)] [] p51 = _
      rfl
set_option maxRecDepth 20000 in
theorem bX13_amount_54 {L : Nat} {xs : Nat → Int32} (d : Nat) (u0 : Option Value) (u1 : Option Value) (u2 : Option Value) (u3 : Option Value) (i4 : Int32) (ph : PH) : RS (ZZ L xs) (d + 1) mX13_amount 54 [u0, u1, u2, u3, some (.int i4)] [] ph = some (ph, some (.int i4)) := by
  refine Eq.trans (q_iload dX13_amount_54 (show mK mX13_amount 54 [u0, u1, u2, u3, some (.int i4)] = [none, none, none, none, some (.int i4)] from rfl) rfl) ?_
  exact q_ireturn dX13_amount_56 (mk0 rfl) rfl
set_option maxRecDepth 20000 in
theorem bX13_unlikePlace_0 {L : Nat} {xs : Nat → Int32} (d : Nat) (o : Nat) (i1 : Int32) (ph : PH) : RS (ZZ L xs) (d + 1) mX13_unlikePlace 0 [some (.ref o), some (.int i1), none, none] [] ph = (iO ph (.ref o) 13).bind fun b1 => (cV (ZZ L xs) d mX13_blanks [.ref b1] ph).bind fun p1 => (fI p1 (.ref o) 13 29).bind fun x5 => (fR p1 (.ref o) 13 20).bind fun x12 => (eI p1 x12 0).bind fun x16 => (iO p1 (.ref o) 13).bind fun b19 => (cI (ZZ L xs) d mX13_amount [.ref b19, .int 0, .int (x16 - 1)] p1).bind fun p19 => (fI p19.1 (.ref o) 13 30).bind fun x24 => if ¬ (x24 : Int32) = 0 then RS (ZZ L xs) (d + 1) mX13_unlikePlace 41 [some (.ref o), some (.int i1), some (.int x5), some (.int p19.2)] [] p19.1 else if ¬ (p19.2 : Int32) = i1 then RS (ZZ L xs) (d + 1) mX13_unlikePlace 41 [some (.ref o), some (.int i1), some (.int x5), some (.int p19.2)] [] p19.1 else (iO p19.1 (.ref o) 13).bind fun b38 => (cV (ZZ L xs) d mX13_fails [.ref b38, .int 1, .int x5] p19.1).bind fun p38 => RS (ZZ L xs) (d + 1) mX13_unlikePlace 41 [some (.ref o), some (.int i1), some (.int x5), some (.int p19.2)] [] p38 := by
  refine Eq.trans (q_aload_n dX13_unlikePlace_0 (mk0 rfl) rfl rfl) ?_
  refine Eq.trans (q_callV (as := []) dX13_unlikePlace_1 (mk0 rfl) rfl rfl rfl (Nat.le_of_ble_eq_true rfl) (Nat.le_of_ble_eq_true rfl)) (bind_cg fun b1 => ?_)
  refine Eq.trans (cV_bind rfl) (bind_cg fun p1 => ?_)
  show RS (ZZ L xs) (d + 1) mX13_unlikePlace 4 [some (.ref o), some (.int i1), none, none] [] p1 = _
  refine Eq.trans (q_aload_n dX13_unlikePlace_4 (mk0 rfl) rfl rfl) ?_
  refine Eq.trans (q_getI (ci := 13) (k := 29) dX13_unlikePlace_5 (mk0 rfl) rfl) (bind_cg fun x5 => ?_)
  refine Eq.trans (q_istore_n (lv2 := [some (.ref o), some (.int i1), some (.int x5), none]) dX13_unlikePlace_8 (mk0 rfl) (Nat.le_of_ble_eq_true rfl) rfl) ?_
  refine Eq.trans (q_aload_n dX13_unlikePlace_9 (mk0 rfl) rfl rfl) ?_
  refine Eq.trans (q_iconst (v := 0) dX13_unlikePlace_10 (mk0 rfl) rfl) ?_
  refine Eq.trans (q_aload_n dX13_unlikePlace_11 (mk0 rfl) rfl rfl) ?_
  refine Eq.trans (q_getR (ci := 13) (k := 20) dX13_unlikePlace_12 (mk0 rfl) rfl) (bind_cg2 fun x12 hx12 => ?_)
  have hx12 := fR_isR hx12
  refine Eq.trans (q_iconst (v := 0) dX13_unlikePlace_15 (mk0 rfl) rfl) ?_
  refine Eq.trans (q_iaload dX13_unlikePlace_16 (mk0 rfl) (no_ext hx12)) (bind_cg fun x16 => ?_)
  refine Eq.trans (q_iconst (v := 1) dX13_unlikePlace_17 (mk0 rfl) rfl) ?_
  refine Eq.trans (q_isub dX13_unlikePlace_18 (mk0 rfl)) ?_
  refine Eq.trans (q_callV (as := [.int 0, .int (x16 - 1)]) dX13_unlikePlace_19 (mk0 rfl) rfl rfl rfl (Nat.le_of_ble_eq_true rfl) (Nat.le_of_ble_eq_true rfl)) (bind_cg fun b19 => ?_)
  refine Eq.trans (cI_bind (Or.inl rfl)) (bind_cg fun p19 => ?_)
  show RS (ZZ L xs) (d + 1) mX13_unlikePlace 22 [some (.ref o), some (.int i1), some (.int x5), none] [.int p19.2] p19.1 = _
  refine Eq.trans (q_istore_n (lv2 := [some (.ref o), some (.int i1), some (.int x5), some (.int p19.2)]) dX13_unlikePlace_22 (mk0 rfl) (Nat.le_of_ble_eq_true rfl) rfl) ?_
  refine Eq.trans (q_aload_n dX13_unlikePlace_23 (mk0 rfl) rfl rfl) ?_
  refine Eq.trans (q_getI (ci := 13) (k := 30) dX13_unlikePlace_24 (mk0 rfl) rfl) (bind_cg fun x24 => ?_)
  refine Eq.trans (q_if_ne (t := 41) dX13_unlikePlace_27 (mk0 rfl) rfl) (ite_cg ?_ ?_)
  · rfl
  · refine Eq.trans (q_iload_n dX13_unlikePlace_30 (mk0 rfl) rfl) ?_
    refine Eq.trans (q_iload_n dX13_unlikePlace_31 (mk0 rfl) rfl) ?_
    refine Eq.trans (q_icmp_ne (t := 41) dX13_unlikePlace_32 (mk0 rfl) rfl) (ite_cg ?_ ?_)
    · rfl
    · refine Eq.trans (q_aload_n dX13_unlikePlace_35 (mk0 rfl) rfl rfl) ?_
      refine Eq.trans (q_iconst (v := 1) dX13_unlikePlace_36 (mk0 rfl) rfl) ?_
      refine Eq.trans (q_iload_n dX13_unlikePlace_37 (mk0 rfl) rfl) ?_
      refine Eq.trans (q_callV (as := [.int 1, .int x5]) dX13_unlikePlace_38 (mk0 rfl) rfl rfl rfl (Nat.le_of_ble_eq_true rfl) (Nat.le_of_ble_eq_true rfl)) (bind_cg fun b38 => ?_)
      refine Eq.trans (cV_bind rfl) (bind_cg fun p38 => ?_)
      show RS (ZZ L xs) (d + 1) mX13_unlikePlace 41 [some (.ref o), some (.int i1), some (.int x5), some (.int p19.2)] [] p38 = _
      rfl
set_option maxRecDepth 20000 in
theorem bX13_unlikePlace_41 {L : Nat} {xs : Nat → Int32} (d : Nat) (u0 : Option Value) (u1 : Option Value) (u2 : Option Value) (i3 : Int32) (ph : PH) : RS (ZZ L xs) (d + 1) mX13_unlikePlace 41 [u0, u1, u2, some (.int i3)] [] ph = some (ph, some (.int i3)) := by
  refine Eq.trans (q_iload_n dX13_unlikePlace_41 (show mK mX13_unlikePlace 41 [u0, u1, u2, some (.int i3)] = [none, none, none, some (.int i3)] from rfl) rfl) ?_
  exact q_ireturn dX13_unlikePlace_42 (mk0 rfl) rfl
set_option maxRecDepth 20000 in
theorem bX13_townWord_0 {L : Nat} {xs : Nat → Int32} (d : Nat) (i0 : Int32) (ph : PH) : RS (ZZ L xs) (d + 1) mX13_townWord 0 [some (.int i0)] [] ph = if (i0 : Int32) = 0 then RS (ZZ L xs) (d + 1) mX13_townWord 28 [some (.int i0)] [] ph else if (i0 : Int32) = 1 then RS (ZZ L xs) (d + 1) mX13_townWord 32 [some (.int i0)] [] ph else if (i0 : Int32) = 2 then RS (ZZ L xs) (d + 1) mX13_townWord 36 [some (.int i0)] [] ph else RS (ZZ L xs) (d + 1) mX13_townWord 39 [some (.int i0)] [] ph := by
  refine Eq.trans (q_iload_n dX13_townWord_0 (mk0 rfl) rfl) ?_
  refine Eq.trans (q_tableswitch dX13_townWord_1 (mk0 rfl)) ?_
  generalize (i0 : Int32) = y1
  by_cases hy0 : y1 = 0
  · rw [if_pos hy0, hy0]; rfl
  rw [if_neg hy0]
  by_cases hy1 : y1 = 1
  · rw [if_pos hy1, hy1]; rfl
  rw [if_neg hy1]
  by_cases hy2 : y1 = 2
  · rw [if_pos hy2, hy2]; rfl
  rw [if_neg hy2]
  have ny0 := i32_ne hy0 (n := 0) rfl
  have ny1 := i32_ne hy1 (n := 1) rfl
  have ny2 := i32_ne hy2 (n := 2) rfl
  rw [sw_out (t := 39) (by omega) rfl]
  rfl
set_option maxRecDepth 20000 in
theorem bX13_townWord_28 {L : Nat} {xs : Nat → Int32} (d : Nat) (u0 : Option Value) (ph : PH) : RS (ZZ L xs) (d + 1) mX13_townWord 28 [u0] [] ph = some (ph, some (.retAddr 12)) := by
  refine Eq.trans (q_ldcwS (k := 12) dX13_townWord_28 (show mK mX13_townWord 28 [u0] = [none] from rfl) rfl) ?_
  exact q_areturn dX13_townWord_31 (mk0 rfl) rfl rfl
set_option maxRecDepth 20000 in
theorem bX13_townWord_32 {L : Nat} {xs : Nat → Int32} (d : Nat) (u0 : Option Value) (ph : PH) : RS (ZZ L xs) (d + 1) mX13_townWord 32 [u0] [] ph = some (ph, some (.retAddr 13)) := by
  refine Eq.trans (q_ldcwS (k := 13) dX13_townWord_32 (show mK mX13_townWord 32 [u0] = [none] from rfl) rfl) ?_
  exact q_areturn dX13_townWord_35 (mk0 rfl) rfl rfl
set_option maxRecDepth 20000 in
theorem bX13_townWord_36 {L : Nat} {xs : Nat → Int32} (d : Nat) (u0 : Option Value) (ph : PH) : RS (ZZ L xs) (d + 1) mX13_townWord 36 [u0] [] ph = some (ph, some (.retAddr 14)) := by
  refine Eq.trans (q_ldcS (k := 14) dX13_townWord_36 (show mK mX13_townWord 36 [u0] = [none] from rfl) rfl) ?_
  exact q_areturn dX13_townWord_38 (mk0 rfl) rfl rfl
set_option maxRecDepth 20000 in
theorem bX13_townWord_39 {L : Nat} {xs : Nat → Int32} (d : Nat) (u0 : Option Value) (ph : PH) : RS (ZZ L xs) (d + 1) mX13_townWord 39 [u0] [] ph = some (ph, some (.retAddr 15)) := by
  refine Eq.trans (q_ldcS (k := 15) dX13_townWord_39 (show mK mX13_townWord 39 [u0] = [none] from rfl) rfl) ?_
  exact q_areturn dX13_townWord_41 (mk0 rfl) rfl rfl
set_option maxRecDepth 20000 in
theorem bX13_townPart_0 {L : Nat} {xs : Nat → Int32} (d : Nat) (o : Nat) (i1 : Int32) (ph : PH) : RS (ZZ L xs) (d + 1) mX13_townPart 0 [some (.ref o), some (.int i1), none, none, none] [] ph = (fR ph (.ref o) 13 20).bind fun x1 => (eI ph x1 0).bind fun x5 => if (i1 : Int32) = 0 then RS (ZZ L xs) (d + 1) mX13_townPart 36 [some (.ref o), some (.int i1), some (.int (x5 - 1)), none, none] [] ph else if (i1 : Int32) = 1 then RS (ZZ L xs) (d + 1) mX13_townPart 67 [some (.ref o), some (.int i1), some (.int (x5 - 1)), none, none] [] ph else if (i1 : Int32) = 2 then RS (ZZ L xs) (d + 1) mX13_townPart 117 [some (.ref o), some (.int i1), some (.int (x5 - 1)), none, none] [] ph else RS (ZZ L xs) (d + 1) mX13_townPart 174 [some (.ref o), some (.int i1), some (.int (x5 - 1)), none, none] [] ph := by
  refine Eq.trans (q_aload_n dX13_townPart_0 (mk0 rfl) rfl rfl) ?_
  refine Eq.trans (q_getR (ci := 13) (k := 20) dX13_townPart_1 (mk0 rfl) rfl) (bind_cg2 fun x1 hx1 => ?_)
  have hx1 := fR_isR hx1
  refine Eq.trans (q_iconst (v := 0) dX13_townPart_4 (mk0 rfl) rfl) ?_
  refine Eq.trans (q_iaload dX13_townPart_5 (mk0 rfl) (no_ext hx1)) (bind_cg fun x5 => ?_)
  refine Eq.trans (q_iconst (v := 1) dX13_townPart_6 (mk0 rfl) rfl) ?_
  refine Eq.trans (q_isub dX13_townPart_7 (mk0 rfl)) ?_
  refine Eq.trans (q_istore_n (lv2 := [some (.ref o), some (.int i1), some (.int (x5 - 1)), none, none]) dX13_townPart_8 (mk0 rfl) (Nat.le_of_ble_eq_true rfl) rfl) ?_
  refine Eq.trans (q_iload_n dX13_townPart_9 (mk0 rfl) rfl) ?_
  refine Eq.trans (q_tableswitch dX13_townPart_10 (mk0 rfl)) ?_
  generalize (i1 : Int32) = y10
  by_cases hy0 : y10 = 0
  · rw [if_pos hy0, hy0]; rfl
  rw [if_neg hy0]
  by_cases hy1 : y10 = 1
  · rw [if_pos hy1, hy1]; rfl
  rw [if_neg hy1]
  by_cases hy2 : y10 = 2
  · rw [if_pos hy2, hy2]; rfl
  rw [if_neg hy2]
  have ny0 := i32_ne hy0 (n := 0) rfl
  have ny1 := i32_ne hy1 (n := 1) rfl
  have ny2 := i32_ne hy2 (n := 2) rfl
  rw [sw_out (t := 174) (by omega) rfl]
  rfl
set_option maxRecDepth 20000 in
theorem bX13_townPart_36 {L : Nat} {xs : Nat → Int32} (d : Nat) (o : Nat) (u1 : Option Value) (u2 : Option Value) (u3 : Option Value) (u4 : Option Value) (ph : PH) : RS (ZZ L xs) (d + 1) mX13_townPart 36 [some (.ref o), u1, u2, u3, u4] [] ph = (iO ph (.ref o) 13).bind fun b40 => (cI (ZZ L xs) d mX13_amount [.ref b40, .int 2, .int 8] ph).bind fun p40 => (fR p40.1 (.ref o) 13 20).bind fun x45 => (iO p40.1 (.ref o) 13).bind fun b53 => (cI (ZZ L xs) d mX13_amount [.ref b53, .int 1, .int 30] p40.1).bind fun p53 => (wI p53.1 x45 1 p53.2).bind fun h56 => (fR h56 (.ref o) 13 20).bind fun x58 => (wI h56 x58 0 p40.2).bind fun h63 => RS (ZZ L xs) (d + 1) mX13_townPart 232 [some (.ref o), none, none, some (.int p40.2), none] [] h63 := by
  refine Eq.trans (q_aload_n dX13_townPart_36 (show mK mX13_townPart 36 [some (.ref o), u1, u2, u3, u4] = [some (.ref o), none, none, none, none] from rfl) rfl rfl) ?_
  refine Eq.trans (q_iconst (v := 2) dX13_townPart_37 (mk0 rfl) rfl) ?_
  refine Eq.trans (q_bipush (v := 8) dX13_townPart_38 (mk0 rfl) rfl) ?_
  refine Eq.trans (q_callV (as := [.int 2, .int 8]) dX13_townPart_40 (mk0 rfl) rfl rfl rfl (Nat.le_of_ble_eq_true rfl) (Nat.le_of_ble_eq_true rfl)) (bind_cg fun b40 => ?_)
  refine Eq.trans (cI_bind (Or.inl rfl)) (bind_cg fun p40 => ?_)
  show RS (ZZ L xs) (d + 1) mX13_townPart 43 [some (.ref o), none, none, none, none] [.int p40.2] p40.1 = _
  refine Eq.trans (q_istore_n (lv2 := [some (.ref o), none, none, some (.int p40.2), none]) dX13_townPart_43 (mk0 rfl) (Nat.le_of_ble_eq_true rfl) rfl) ?_
  refine Eq.trans (q_aload_n dX13_townPart_44 (mk0 rfl) rfl rfl) ?_
  refine Eq.trans (q_getR (ci := 13) (k := 20) dX13_townPart_45 (mk0 rfl) rfl) (bind_cg2 fun x45 hx45 => ?_)
  have hx45 := fR_isR hx45
  refine Eq.trans (q_iconst (v := 1) dX13_townPart_48 (mk0 rfl) rfl) ?_
  refine Eq.trans (q_aload_n dX13_townPart_49 (mk0 rfl) rfl rfl) ?_
  refine Eq.trans (q_iconst (v := 1) dX13_townPart_50 (mk0 rfl) rfl) ?_
  refine Eq.trans (q_bipush (v := 30) dX13_townPart_51 (mk0 rfl) rfl) ?_
  refine Eq.trans (q_callV (as := [.int 1, .int 30]) dX13_townPart_53 (mk0 rfl) rfl rfl rfl (by simp [catS, ct_i, ct_l, ct_r, ct_n, ct_x, (cat_R hx45)]) (Nat.le_of_ble_eq_true rfl)) (bind_cg fun b53 => ?_)
  refine Eq.trans (cI_bind (Or.inl rfl)) (bind_cg fun p53 => ?_)
  show RS (ZZ L xs) (d + 1) mX13_townPart 56 [some (.ref o), none, none, some (.int p40.2), none] [.int p53.2, .int 1, x45] p53.1 = _
  refine Eq.trans (q_iastore dX13_townPart_56 (mk0 rfl)) (bind_cg fun h56 => ?_)
  refine Eq.trans (q_aload_n dX13_townPart_57 (mk0 rfl) rfl rfl) ?_
  refine Eq.trans (q_getR (ci := 13) (k := 20) dX13_townPart_58 (mk0 rfl) rfl) (bind_cg2 fun x58 hx58 => ?_)
  have hx58 := fR_isR hx58
  refine Eq.trans (q_iconst (v := 0) dX13_townPart_61 (mk0 rfl) rfl) ?_
  refine Eq.trans (q_iload_n dX13_townPart_62 (mk0 rfl) rfl) ?_
  refine Eq.trans (q_iastore dX13_townPart_63 (mk0 rfl)) (bind_cg fun h63 => ?_)
  refine Eq.trans (q_goto (t := 232) dX13_townPart_64 (mk0 rfl) rfl) ?_
  rfl
set_option maxRecDepth 20000 in
theorem bX13_townPart_67 {L : Nat} {xs : Nat → Int32} (d : Nat) (o : Nat) (u1 : Option Value) (i2 : Int32) (u3 : Option Value) (u4 : Option Value) (ph : PH) : RS (ZZ L xs) (d + 1) mX13_townPart 67 [some (.ref o), u1, some (.int i2), u3, u4] [] ph = (iO ph (.ref o) 13).bind fun b70 => (cI (ZZ L xs) d mX13_amount [.ref b70, .int 0, .int i2] ph).bind fun p70 => (iO p70.1 (.ref o) 13).bind fun b76 => (cI (ZZ L xs) d mX13_unlikePlace [.ref b76, .int p70.2] p70.1).bind fun p76 => (fI p76.1 (.ref o) 13 30).bind fun x82 => if ¬ (x82 : Int32) = 0 then RS (ZZ L xs) (d + 1) mX13_townPart 232 [some (.ref o), none, some (.int i2), some (.int p70.2), some (.int p76.2)] [] p76.1 else (fR p76.1 (.ref o) 13 27).bind fun x89 => (eI p76.1 x89 p70.2).bind fun x94 => (wI p76.1 x89 p70.2 (x94 ||| (iShl 1 p76.2))).bind fun h100 => (fR h100 (.ref o) 13 27).bind fun x102 => (eI h100 x102 p76.2).bind fun x108 => (wI h100 x102 p76.2 (x108 ||| (iShl 1 p70.2))).bind fun h113 => RS (ZZ L xs) (d + 1) mX13_townPart 232 [some (.ref o), none, some (.int i2), some (.int p70.2), some (.int p76.2)] [] h113 := by
  refine Eq.trans (q_aload_n dX13_townPart_67 (show mK mX13_townPart 67 [some (.ref o), u1, some (.int i2), u3, u4] = [some (.ref o), none, some (.int i2), none, none] from rfl) rfl rfl) ?_
  refine Eq.trans (q_iconst (v := 0) dX13_townPart_68 (mk0 rfl) rfl) ?_
  refine Eq.trans (q_iload_n dX13_townPart_69 (mk0 rfl) rfl) ?_
  refine Eq.trans (q_callV (as := [.int 0, .int i2]) dX13_townPart_70 (mk0 rfl) rfl rfl rfl (Nat.le_of_ble_eq_true rfl) (Nat.le_of_ble_eq_true rfl)) (bind_cg fun b70 => ?_)
  refine Eq.trans (cI_bind (Or.inl rfl)) (bind_cg fun p70 => ?_)
  show RS (ZZ L xs) (d + 1) mX13_townPart 73 [some (.ref o), none, some (.int i2), none, none] [.int p70.2] p70.1 = _
  refine Eq.trans (q_istore_n (lv2 := [some (.ref o), none, some (.int i2), some (.int p70.2), none]) dX13_townPart_73 (mk0 rfl) (Nat.le_of_ble_eq_true rfl) rfl) ?_
  refine Eq.trans (q_aload_n dX13_townPart_74 (mk0 rfl) rfl rfl) ?_
  refine Eq.trans (q_iload_n dX13_townPart_75 (mk0 rfl) rfl) ?_
  refine Eq.trans (q_callV (as := [.int p70.2]) dX13_townPart_76 (mk0 rfl) rfl rfl rfl (Nat.le_of_ble_eq_true rfl) (Nat.le_of_ble_eq_true rfl)) (bind_cg fun b76 => ?_)
  refine Eq.trans (cI_bind (Or.inl rfl)) (bind_cg fun p76 => ?_)
  show RS (ZZ L xs) (d + 1) mX13_townPart 79 [some (.ref o), none, some (.int i2), some (.int p70.2), none] [.int p76.2] p76.1 = _
  refine Eq.trans (q_istore (lv2 := [some (.ref o), none, some (.int i2), some (.int p70.2), some (.int p76.2)]) dX13_townPart_79 (mk0 rfl) (Nat.le_of_ble_eq_true rfl) rfl) ?_
  refine Eq.trans (q_aload_n dX13_townPart_81 (mk0 rfl) rfl rfl) ?_
  refine Eq.trans (q_getI (ci := 13) (k := 30) dX13_townPart_82 (mk0 rfl) rfl) (bind_cg fun x82 => ?_)
  refine Eq.trans (q_if_ne (t := 232) dX13_townPart_85 (mk0 rfl) rfl) (ite_cg ?_ ?_)
  · rfl
  · refine Eq.trans (q_aload_n dX13_townPart_88 (mk0 rfl) rfl rfl) ?_
    refine Eq.trans (q_getR (ci := 13) (k := 27) dX13_townPart_89 (mk0 rfl) rfl) (bind_cg2 fun x89 hx89 => ?_)
    have hx89 := fR_isR hx89
    refine Eq.trans (q_iload_n dX13_townPart_92 (mk0 rfl) rfl) ?_
    refine Eq.trans (q_dup2 dX13_townPart_93 (mk0 rfl) rfl (cat_R hx89)) ?_
    refine Eq.trans (q_iaload dX13_townPart_94 (mk0 rfl) (no_ext hx89)) (bind_cg fun x94 => ?_)
    refine Eq.trans (q_iconst (v := 1) dX13_townPart_95 (mk0 rfl) rfl) ?_
    refine Eq.trans (q_iload dX13_townPart_96 (mk0 rfl) rfl) ?_
    refine Eq.trans (q_ishl dX13_townPart_98 (mk0 rfl)) ?_
    refine Eq.trans (q_ior dX13_townPart_99 (mk0 rfl)) ?_
    refine Eq.trans (q_iastore dX13_townPart_100 (mk0 rfl)) (bind_cg fun h100 => ?_)
    refine Eq.trans (q_aload_n dX13_townPart_101 (mk0 rfl) rfl rfl) ?_
    refine Eq.trans (q_getR (ci := 13) (k := 27) dX13_townPart_102 (mk0 rfl) rfl) (bind_cg2 fun x102 hx102 => ?_)
    have hx102 := fR_isR hx102
    refine Eq.trans (q_iload dX13_townPart_105 (mk0 rfl) rfl) ?_
    refine Eq.trans (q_dup2 dX13_townPart_107 (mk0 rfl) rfl (cat_R hx102)) ?_
    refine Eq.trans (q_iaload dX13_townPart_108 (mk0 rfl) (no_ext hx102)) (bind_cg fun x108 => ?_)
    refine Eq.trans (q_iconst (v := 1) dX13_townPart_109 (mk0 rfl) rfl) ?_
    refine Eq.trans (q_iload_n dX13_townPart_110 (mk0 rfl) rfl) ?_
    refine Eq.trans (q_ishl dX13_townPart_111 (mk0 rfl)) ?_
    refine Eq.trans (q_ior dX13_townPart_112 (mk0 rfl)) ?_
    refine Eq.trans (q_iastore dX13_townPart_113 (mk0 rfl)) (bind_cg fun h113 => ?_)
    refine Eq.trans (q_goto (t := 232) dX13_townPart_114 (mk0 rfl) rfl) ?_
    rfl
set_option maxRecDepth 20000 in
theorem bX13_townPart_117 {L : Nat} {xs : Nat → Int32} (d : Nat) (o : Nat) (u1 : Option Value) (i2 : Int32) (u3 : Option Value) (u4 : Option Value) (ph : PH) : RS (ZZ L xs) (d + 1) mX13_townPart 117 [some (.ref o), u1, some (.int i2), u3, u4] [] ph = (fR ph (.ref o) 13 20).bind fun x118 => (eI ph x118 2).bind fun x122 => (fR ph (.ref o) 13 21).bind fun x125 => (iO ph (.ref o) 13).bind fun b132 => (cI (ZZ L xs) d mX13_amount [.ref b132, .int 0, .int i2] ph).bind fun p132 => (wI p132.1 x125 x122 p132.2).bind fun h135 => (fR h135 (.ref o) 13 22).bind fun x137 => (iO h135 (.ref o) 13).bind fun b145 => (cI (ZZ L xs) d mX13_amount [.ref b145, .int 0, .int 9] h135).bind fun p145 => (wI p145.1 x137 x122 p145.2).bind fun h148 => (fR h148 (.ref o) 13 23).bind fun x150 => (iO h148 (.ref o) 13).bind fun b157 => (cI (ZZ L xs) d mX13_amount [.ref b157, .int 0, .int 1] h148).bind fun p157 => (wI p157.1 x150 x122 p157.2).bind fun h160 => (fR h160 (.ref o) 13 20).bind fun x162 => (eI h160 x162 2).bind fun x167 => (wI h160 x162 2 (x167 + 1)).bind fun h170 => RS (ZZ L xs) (d + 1) mX13_townPart 232 [some (.ref o), none, some (.int i2), some (.int x122), none] [] h170 := by
  refine Eq.trans (q_aload_n dX13_townPart_117 (show mK mX13_townPart 117 [some (.ref o), u1, some (.int i2), u3, u4] = [some (.ref o), none, some (.int i2), none, none] from rfl) rfl rfl) ?_
  refine Eq.trans (q_getR (ci := 13) (k := 20) dX13_townPart_118 (mk0 rfl) rfl) (bind_cg2 fun x118 hx118 => ?_)
  have hx118 := fR_isR hx118
  refine Eq.trans (q_iconst (v := 2) dX13_townPart_121 (mk0 rfl) rfl) ?_
  refine Eq.trans (q_iaload dX13_townPart_122 (mk0 rfl) (no_ext hx118)) (bind_cg fun x122 => ?_)
  refine Eq.trans (q_istore_n (lv2 := [some (.ref o), none, some (.int i2), some (.int x122), none]) dX13_townPart_123 (mk0 rfl) (Nat.le_of_ble_eq_true rfl) rfl) ?_
  refine Eq.trans (q_aload_n dX13_townPart_124 (mk0 rfl) rfl rfl) ?_
  refine Eq.trans (q_getR (ci := 13) (k := 21) dX13_townPart_125 (mk0 rfl) rfl) (bind_cg2 fun x125 hx125 => ?_)
  have hx125 := fR_isR hx125
  refine Eq.trans (q_iload_n dX13_townPart_128 (mk0 rfl) rfl) ?_
  refine Eq.trans (q_aload_n dX13_townPart_129 (mk0 rfl) rfl rfl) ?_
  refine Eq.trans (q_iconst (v := 0) dX13_townPart_130 (mk0 rfl) rfl) ?_
  refine Eq.trans (q_iload_n dX13_townPart_131 (mk0 rfl) rfl) ?_
  refine Eq.trans (q_callV (as := [.int 0, .int i2]) dX13_townPart_132 (mk0 rfl) rfl rfl rfl (by simp [catS, ct_i, ct_l, ct_r, ct_n, ct_x, (cat_R hx125)]) (Nat.le_of_ble_eq_true rfl)) (bind_cg fun b132 => ?_)
  refine Eq.trans (cI_bind (Or.inl rfl)) (bind_cg fun p132 => ?_)
  show RS (ZZ L xs) (d + 1) mX13_townPart 135 [some (.ref o), none, some (.int i2), some (.int x122), none] [.int p132.2, .int x122, x125] p132.1 = _
  refine Eq.trans (q_iastore dX13_townPart_135 (mk0 rfl)) (bind_cg fun h135 => ?_)
  refine Eq.trans (q_aload_n dX13_townPart_136 (mk0 rfl) rfl rfl) ?_
  refine Eq.trans (q_getR (ci := 13) (k := 22) dX13_townPart_137 (mk0 rfl) rfl) (bind_cg2 fun x137 hx137 => ?_)
  have hx137 := fR_isR hx137
  refine Eq.trans (q_iload_n dX13_townPart_140 (mk0 rfl) rfl) ?_
  refine Eq.trans (q_aload_n dX13_townPart_141 (mk0 rfl) rfl rfl) ?_
  refine Eq.trans (q_iconst (v := 0) dX13_townPart_142 (mk0 rfl) rfl) ?_
  refine Eq.trans (q_bipush (v := 9) dX13_townPart_143 (mk0 rfl) rfl) ?_
  refine Eq.trans (q_callV (as := [.int 0, .int 9]) dX13_townPart_145 (mk0 rfl) rfl rfl rfl (by simp [catS, ct_i, ct_l, ct_r, ct_n, ct_x, (cat_R hx137)]) (Nat.le_of_ble_eq_true rfl)) (bind_cg fun b145 => ?_)
  refine Eq.trans (cI_bind (Or.inl rfl)) (bind_cg fun p145 => ?_)
  show RS (ZZ L xs) (d + 1) mX13_townPart 148 [some (.ref o), none, some (.int i2), some (.int x122), none] [.int p145.2, .int x122, x137] p145.1 = _
  refine Eq.trans (q_iastore dX13_townPart_148 (mk0 rfl)) (bind_cg fun h148 => ?_)
  refine Eq.trans (q_aload_n dX13_townPart_149 (mk0 rfl) rfl rfl) ?_
  refine Eq.trans (q_getR (ci := 13) (k := 23) dX13_townPart_150 (mk0 rfl) rfl) (bind_cg2 fun x150 hx150 => ?_)
  have hx150 := fR_isR hx150
  refine Eq.trans (q_iload_n dX13_townPart_153 (mk0 rfl) rfl) ?_
  refine Eq.trans (q_aload_n dX13_townPart_154 (mk0 rfl) rfl rfl) ?_
  refine Eq.trans (q_iconst (v := 0) dX13_townPart_155 (mk0 rfl) rfl) ?_
  refine Eq.trans (q_iconst (v := 1) dX13_townPart_156 (mk0 rfl) rfl) ?_
  refine Eq.trans (q_callV (as := [.int 0, .int 1]) dX13_townPart_157 (mk0 rfl) rfl rfl rfl (by simp [catS, ct_i, ct_l, ct_r, ct_n, ct_x, (cat_R hx150)]) (Nat.le_of_ble_eq_true rfl)) (bind_cg fun b157 => ?_)
  refine Eq.trans (cI_bind (Or.inl rfl)) (bind_cg fun p157 => ?_)
  show RS (ZZ L xs) (d + 1) mX13_townPart 160 [some (.ref o), none, some (.int i2), some (.int x122), none] [.int p157.2, .int x122, x150] p157.1 = _
  refine Eq.trans (q_iastore dX13_townPart_160 (mk0 rfl)) (bind_cg fun h160 => ?_)
  refine Eq.trans (q_aload_n dX13_townPart_161 (mk0 rfl) rfl rfl) ?_
  refine Eq.trans (q_getR (ci := 13) (k := 20) dX13_townPart_162 (mk0 rfl) rfl) (bind_cg2 fun x162 hx162 => ?_)
  have hx162 := fR_isR hx162
  refine Eq.trans (q_iconst (v := 2) dX13_townPart_165 (mk0 rfl) rfl) ?_
  refine Eq.trans (q_dup2 dX13_townPart_166 (mk0 rfl) rfl (cat_R hx162)) ?_
  refine Eq.trans (q_iaload dX13_townPart_167 (mk0 rfl) (no_ext hx162)) (bind_cg fun x167 => ?_)
  refine Eq.trans (q_iconst (v := 1) dX13_townPart_168 (mk0 rfl) rfl) ?_
  refine Eq.trans (q_iadd dX13_townPart_169 (mk0 rfl)) ?_
  refine Eq.trans (q_iastore dX13_townPart_170 (mk0 rfl)) (bind_cg fun h170 => ?_)
  refine Eq.trans (q_goto (t := 232) dX13_townPart_171 (mk0 rfl) rfl) ?_
  rfl
set_option maxRecDepth 20000 in
theorem bX13_townPart_174 {L : Nat} {xs : Nat → Int32} (d : Nat) (o : Nat) (u1 : Option Value) (i2 : Int32) (u3 : Option Value) (u4 : Option Value) (ph : PH) : RS (ZZ L xs) (d + 1) mX13_townPart 174 [some (.ref o), u1, some (.int i2), u3, u4] [] ph = (fR ph (.ref o) 13 20).bind fun x175 => (eI ph x175 3).bind fun x179 => (fR ph (.ref o) 13 24).bind fun x182 => (iO ph (.ref o) 13).bind fun b189 => (cI (ZZ L xs) d mX13_amount [.ref b189, .int 0, .int i2] ph).bind fun p189 => (wI p189.1 x182 x179 p189.2).bind fun h192 => (fR h192 (.ref o) 13 25).bind fun x194 => (fR h192 (.ref o) 13 24).bind fun x200 => (eI h192 x200 x179).bind fun x204 => (iO h192 (.ref o) 13).bind fun b205 => (cI (ZZ L xs) d mX13_unlikePlace [.ref b205, .int x204] h192).bind fun p205 => (wI p205.1 x194 x179 p205.2).bind fun h208 => (fR h208 (.ref o) 13 26).bind fun x210 => (iO h208 (.ref o) 13).bind fun b218 => (cI (ZZ L xs) d mX13_amount [.ref b218, .int 1, .int 20] h208).bind fun p218 => (wI p218.1 x210 x179 p218.2).bind fun h221 => (fR h221 (.ref o) 13 20).bind fun x223 => (eI h221 x223 3).bind fun x228 => (wI h221 x223 3 (x228 + 1)).bind fun h231 => RS (ZZ L xs) (d + 1) mX13_townPart 232 [some (.ref o), none, some (.int i2), some (.int x179), none] [] h231 := by
  refine Eq.trans (q_aload_n dX13_townPart_174 (show mK mX13_townPart 174 [some (.ref o), u1, some (.int i2), u3, u4] = [some (.ref o), none, some (.int i2), none, none] from rfl) rfl rfl) ?_
  refine Eq.trans (q_getR (ci := 13) (k := 20) dX13_townPart_175 (mk0 rfl) rfl) (bind_cg2 fun x175 hx175 => ?_)
  have hx175 := fR_isR hx175
  refine Eq.trans (q_iconst (v := 3) dX13_townPart_178 (mk0 rfl) rfl) ?_
  refine Eq.trans (q_iaload dX13_townPart_179 (mk0 rfl) (no_ext hx175)) (bind_cg fun x179 => ?_)
  refine Eq.trans (q_istore_n (lv2 := [some (.ref o), none, some (.int i2), some (.int x179), none]) dX13_townPart_180 (mk0 rfl) (Nat.le_of_ble_eq_true rfl) rfl) ?_
  refine Eq.trans (q_aload_n dX13_townPart_181 (mk0 rfl) rfl rfl) ?_
  refine Eq.trans (q_getR (ci := 13) (k := 24) dX13_townPart_182 (mk0 rfl) rfl) (bind_cg2 fun x182 hx182 => ?_)
  have hx182 := fR_isR hx182
  refine Eq.trans (q_iload_n dX13_townPart_185 (mk0 rfl) rfl) ?_
  refine Eq.trans (q_aload_n dX13_townPart_186 (mk0 rfl) rfl rfl) ?_
  refine Eq.trans (q_iconst (v := 0) dX13_townPart_187 (mk0 rfl) rfl) ?_
  refine Eq.trans (q_iload_n dX13_townPart_188 (mk0 rfl) rfl) ?_
  refine Eq.trans (q_callV (as := [.int 0, .int i2]) dX13_townPart_189 (mk0 rfl) rfl rfl rfl (by simp [catS, ct_i, ct_l, ct_r, ct_n, ct_x, (cat_R hx182)]) (Nat.le_of_ble_eq_true rfl)) (bind_cg fun b189 => ?_)
  refine Eq.trans (cI_bind (Or.inl rfl)) (bind_cg fun p189 => ?_)
  show RS (ZZ L xs) (d + 1) mX13_townPart 192 [some (.ref o), none, some (.int i2), some (.int x179), none] [.int p189.2, .int x179, x182] p189.1 = _
  refine Eq.trans (q_iastore dX13_townPart_192 (mk0 rfl)) (bind_cg fun h192 => ?_)
  refine Eq.trans (q_aload_n dX13_townPart_193 (mk0 rfl) rfl rfl) ?_
  refine Eq.trans (q_getR (ci := 13) (k := 25) dX13_townPart_194 (mk0 rfl) rfl) (bind_cg2 fun x194 hx194 => ?_)
  have hx194 := fR_isR hx194
  refine Eq.trans (q_iload_n dX13_townPart_197 (mk0 rfl) rfl) ?_
  refine Eq.trans (q_aload_n dX13_townPart_198 (mk0 rfl) rfl rfl) ?_
  refine Eq.trans (q_aload_n dX13_townPart_199 (mk0 rfl) rfl rfl) ?_
  refine Eq.trans (q_getR (ci := 13) (k := 24) dX13_townPart_200 (mk0 rfl) rfl) (bind_cg2 fun x200 hx200 => ?_)
  have hx200 := fR_isR hx200
  refine Eq.trans (q_iload_n dX13_townPart_203 (mk0 rfl) rfl) ?_
  refine Eq.trans (q_iaload dX13_townPart_204 (mk0 rfl) (no_ext hx200)) (bind_cg fun x204 => ?_)
  refine Eq.trans (q_callV (as := [.int x204]) dX13_townPart_205 (mk0 rfl) rfl rfl rfl (by simp [catS, ct_i, ct_l, ct_r, ct_n, ct_x, (cat_R hx194)]) (Nat.le_of_ble_eq_true rfl)) (bind_cg fun b205 => ?_)
  refine Eq.trans (cI_bind (Or.inl rfl)) (bind_cg fun p205 => ?_)
  show RS (ZZ L xs) (d + 1) mX13_townPart 208 [some (.ref o), none, some (.int i2), some (.int x179), none] [.int p205.2, .int x179, x194] p205.1 = _
  refine Eq.trans (q_iastore dX13_townPart_208 (mk0 rfl)) (bind_cg fun h208 => ?_)
  refine Eq.trans (q_aload_n dX13_townPart_209 (mk0 rfl) rfl rfl) ?_
  refine Eq.trans (q_getR (ci := 13) (k := 26) dX13_townPart_210 (mk0 rfl) rfl) (bind_cg2 fun x210 hx210 => ?_)
  have hx210 := fR_isR hx210
  refine Eq.trans (q_iload_n dX13_townPart_213 (mk0 rfl) rfl) ?_
  refine Eq.trans (q_aload_n dX13_townPart_214 (mk0 rfl) rfl rfl) ?_
  refine Eq.trans (q_iconst (v := 1) dX13_townPart_215 (mk0 rfl) rfl) ?_
  refine Eq.trans (q_bipush (v := 20) dX13_townPart_216 (mk0 rfl) rfl) ?_
  refine Eq.trans (q_callV (as := [.int 1, .int 20]) dX13_townPart_218 (mk0 rfl) rfl rfl rfl (by simp [catS, ct_i, ct_l, ct_r, ct_n, ct_x, (cat_R hx210)]) (Nat.le_of_ble_eq_true rfl)) (bind_cg fun b218 => ?_)
  refine Eq.trans (cI_bind (Or.inl rfl)) (bind_cg fun p218 => ?_)
  show RS (ZZ L xs) (d + 1) mX13_townPart 221 [some (.ref o), none, some (.int i2), some (.int x179), none] [.int p218.2, .int x179, x210] p218.1 = _
  refine Eq.trans (q_iastore dX13_townPart_221 (mk0 rfl)) (bind_cg fun h221 => ?_)
  refine Eq.trans (q_aload_n dX13_townPart_222 (mk0 rfl) rfl rfl) ?_
  refine Eq.trans (q_getR (ci := 13) (k := 20) dX13_townPart_223 (mk0 rfl) rfl) (bind_cg2 fun x223 hx223 => ?_)
  have hx223 := fR_isR hx223
  refine Eq.trans (q_iconst (v := 3) dX13_townPart_226 (mk0 rfl) rfl) ?_
  refine Eq.trans (q_dup2 dX13_townPart_227 (mk0 rfl) rfl (cat_R hx223)) ?_
  refine Eq.trans (q_iaload dX13_townPart_228 (mk0 rfl) (no_ext hx223)) (bind_cg fun x228 => ?_)
  refine Eq.trans (q_iconst (v := 1) dX13_townPart_229 (mk0 rfl) rfl) ?_
  refine Eq.trans (q_iadd dX13_townPart_230 (mk0 rfl)) ?_
  refine Eq.trans (q_iastore dX13_townPart_231 (mk0 rfl)) (bind_cg fun h231 => ?_)
  rfl
set_option maxRecDepth 20000 in
theorem bX13_townPart_232 {L : Nat} {xs : Nat → Int32} (d : Nat) (u0 : Option Value) (u1 : Option Value) (u2 : Option Value) (u3 : Option Value) (u4 : Option Value) (ph : PH) : RS (ZZ L xs) (d + 1) mX13_townPart 232 [u0, u1, u2, u3, u4] [] ph = some (ph, none) := by
  exact q_return dX13_townPart_232 (show mK mX13_townPart 232 [u0, u1, u2, u3, u4] = [none, none, none, none, none] from rfl) rfl
set_option maxRecDepth 20000 in
theorem bX13_isFull_0 {L : Nat} {xs : Nat → Int32} (d : Nat) (o : Nat) (i1 : Int32) (i2 : Int32) (ph : PH) : RS (ZZ L xs) (d + 1) mX13_isFull 0 [some (.ref o), some (.int i1), some (.int i2)] [] ph = if (i2 : Int32) = 40 then RS (ZZ L xs) (d + 1) mX13_isFull 27 [some (.ref o), some (.int i1), some (.int i2)] [] ph else if ¬ (i1 : Int32) = 0 then RS (ZZ L xs) (d + 1) mX13_isFull 15 [some (.ref o), some (.int i1), some (.int i2)] [.int 0] ph else RS (ZZ L xs) (d + 1) mX13_isFull 15 [some (.ref o), some (.int i1), some (.int i2)] [.int 1] ph := by
  refine Eq.trans (q_iload_n dX13_isFull_0 (mk0 rfl) rfl) ?_
  refine Eq.trans (q_bipush (v := 40) dX13_isFull_1 (mk0 rfl) rfl) ?_
  refine Eq.trans (q_icmp_eq (t := 27) dX13_isFull_3 (mk0 rfl) rfl) (ite_cg ?_ ?_)
  · rfl
  · refine Eq.trans (q_iload_n dX13_isFull_6 (mk0 rfl) rfl) ?_
    refine Eq.trans (q_if_ne (t := 14) dX13_isFull_7 (mk0 rfl) rfl) (ite_cg ?_ ?_)
    · refine Eq.trans (q_iconst (v := 0) dX13_isFull_14 (mk0 rfl) rfl) ?_
      rfl
    · refine Eq.trans (q_iconst (v := 1) dX13_isFull_10 (mk0 rfl) rfl) ?_
      refine Eq.trans (q_goto (t := 15) dX13_isFull_11 (mk0 rfl) rfl) ?_
      rfl
set_option maxRecDepth 20000 in
theorem bX13_isFull_15 {L : Nat} {xs : Nat → Int32} (d : Nat) (o : Nat) (i1 : Int32) (i2 : Int32) (t0 : Int32) (ph : PH) : RS (ZZ L xs) (d + 1) mX13_isFull 15 [some (.ref o), some (.int i1), some (.int i2)] [.int t0] ph = if ¬ (i2 : Int32) = 0 then RS (ZZ L xs) (d + 1) mX13_isFull 24 [some (.ref o), some (.int i1), some (.int i2)] [.int 0, .int t0] ph else RS (ZZ L xs) (d + 1) mX13_isFull 24 [some (.ref o), some (.int i1), some (.int i2)] [.int 1, .int t0] ph := by
  refine Eq.trans (q_iload_n dX13_isFull_15 (mk0 rfl) rfl) ?_
  refine Eq.trans (q_if_ne (t := 23) dX13_isFull_16 (mk0 rfl) rfl) (ite_cg ?_ ?_)
  · refine Eq.trans (q_iconst (v := 0) dX13_isFull_23 (mk0 rfl) rfl) ?_
    rfl
  · refine Eq.trans (q_iconst (v := 1) dX13_isFull_19 (mk0 rfl) rfl) ?_
    refine Eq.trans (q_goto (t := 24) dX13_isFull_20 (mk0 rfl) rfl) ?_
    rfl
set_option maxRecDepth 20000 in
theorem bX13_isFull_24 {L : Nat} {xs : Nat → Int32} (d : Nat) (o : Nat) (i1 : Int32) (u2 : Option Value) (t0 : Int32) (t1 : Int32) (ph : PH) : RS (ZZ L xs) (d + 1) mX13_isFull 24 [some (.ref o), some (.int i1), u2] [.int t0, .int t1] ph = if (t1 : Int32) = t0 then if ¬ (i1 : Int32) = 2 then RS (ZZ L xs) (d + 1) mX13_isFull 45 [some (.ref o), some (.int i1), none] [] ph else (fR ph (.ref o) 13 20).bind fun x35 => (eI ph x35 2).bind fun x39 => if (x39 : Int32) = 6 then RS (ZZ L xs) (d + 1) mX13_isFull 60 [some (.ref o), some (.int i1), none] [] ph else RS (ZZ L xs) (d + 1) mX13_isFull 45 [some (.ref o), some (.int i1), none] [] ph else RS (ZZ L xs) (d + 1) mX13_isFull 27 [some (.ref o), some (.int i1), none] [] ph := by
  refine Eq.trans (q_icmp_eq (t := 29) dX13_isFull_24 (show mK mX13_isFull 24 [some (.ref o), some (.int i1), u2] = [some (.ref o), some (.int i1), none] from rfl) rfl) (ite_cg ?_ ?_)
  · refine Eq.trans (q_iload_n dX13_isFull_29 (mk0 rfl) rfl) ?_
    refine Eq.trans (q_iconst (v := 2) dX13_isFull_30 (mk0 rfl) rfl) ?_
    refine Eq.trans (q_icmp_ne (t := 45) dX13_isFull_31 (mk0 rfl) rfl) (ite_cg ?_ ?_)
    · rfl
    · refine Eq.trans (q_aload_n dX13_isFull_34 (mk0 rfl) rfl rfl) ?_
      refine Eq.trans (q_getR (ci := 13) (k := 20) dX13_isFull_35 (mk0 rfl) rfl) (bind_cg2 fun x35 hx35 => ?_)
      have hx35 := fR_isR hx35
      refine Eq.trans (q_iconst (v := 2) dX13_isFull_38 (mk0 rfl) rfl) ?_
      refine Eq.trans (q_iaload dX13_isFull_39 (mk0 rfl) (no_ext hx35)) (bind_cg fun x39 => ?_)
      refine Eq.trans (q_bipush (v := 6) dX13_isFull_40 (mk0 rfl) rfl) ?_
      refine Eq.trans (q_icmp_eq (t := 60) dX13_isFull_42 (mk0 rfl) rfl) (ite_cg ?_ ?_)
      · rfl
      · rfl
  · rfl
set_option maxRecDepth 20000 in
theorem bX13_isFull_27 {L : Nat} {xs : Nat → Int32} (d : Nat) (u0 : Option Value) (u1 : Option Value) (u2 : Option Value) (ph : PH) : RS (ZZ L xs) (d + 1) mX13_isFull 27 [u0, u1, u2] [] ph = if (1 : Int32) = 0 ∨ (1 : Int32) = 1 then some (ph, some (.int 1)) else none := by
  refine Eq.trans (q_iconst (v := 1) dX13_isFull_27 (show mK mX13_isFull 27 [u0, u1, u2] = [none, none, none] from rfl) rfl) ?_
  exact q_zreturn dX13_isFull_28 (mk0 rfl) rfl
set_option maxRecDepth 20000 in
theorem bX13_isFull_45 {L : Nat} {xs : Nat → Int32} (d : Nat) (o : Nat) (i1 : Int32) (u2 : Option Value) (ph : PH) : RS (ZZ L xs) (d + 1) mX13_isFull 45 [some (.ref o), some (.int i1), u2] [] ph = if ¬ (i1 : Int32) = 3 then RS (ZZ L xs) (d + 1) mX13_isFull 64 [some (.ref o), some (.int i1), none] [] ph else (fR ph (.ref o) 13 20).bind fun x51 => (eI ph x51 3).bind fun x55 => if ¬ (x55 : Int32) = 5 then RS (ZZ L xs) (d + 1) mX13_isFull 64 [some (.ref o), some (.int i1), none] [] ph else RS (ZZ L xs) (d + 1) mX13_isFull 60 [some (.ref o), some (.int i1), none] [] ph := by
  refine Eq.trans (q_iload_n dX13_isFull_45 (show mK mX13_isFull 45 [some (.ref o), some (.int i1), u2] = [some (.ref o), some (.int i1), none] from rfl) rfl) ?_
  refine Eq.trans (q_iconst (v := 3) dX13_isFull_46 (mk0 rfl) rfl) ?_
  refine Eq.trans (q_icmp_ne (t := 64) dX13_isFull_47 (mk0 rfl) rfl) (ite_cg ?_ ?_)
  · rfl
  · refine Eq.trans (q_aload_n dX13_isFull_50 (mk0 rfl) rfl rfl) ?_
    refine Eq.trans (q_getR (ci := 13) (k := 20) dX13_isFull_51 (mk0 rfl) rfl) (bind_cg2 fun x51 hx51 => ?_)
    have hx51 := fR_isR hx51
    refine Eq.trans (q_iconst (v := 3) dX13_isFull_54 (mk0 rfl) rfl) ?_
    refine Eq.trans (q_iaload dX13_isFull_55 (mk0 rfl) (no_ext hx51)) (bind_cg fun x55 => ?_)
    refine Eq.trans (q_iconst (v := 5) dX13_isFull_56 (mk0 rfl) rfl) ?_
    refine Eq.trans (q_icmp_ne (t := 64) dX13_isFull_57 (mk0 rfl) rfl) (ite_cg ?_ ?_)
    · rfl
    · rfl
set_option maxRecDepth 20000 in
theorem bX13_isFull_60 {L : Nat} {xs : Nat → Int32} (d : Nat) (u0 : Option Value) (u1 : Option Value) (u2 : Option Value) (ph : PH) : RS (ZZ L xs) (d + 1) mX13_isFull 60 [u0, u1, u2] [] ph = RS (ZZ L xs) (d + 1) mX13_isFull 65 [none, none, none] [.int 1] ph := by
  refine Eq.trans (q_iconst (v := 1) dX13_isFull_60 (show mK mX13_isFull 60 [u0, u1, u2] = [none, none, none] from rfl) rfl) ?_
  refine Eq.trans (q_goto (t := 65) dX13_isFull_61 (mk0 rfl) rfl) ?_
  rfl
set_option maxRecDepth 20000 in
theorem bX13_isFull_64 {L : Nat} {xs : Nat → Int32} (d : Nat) (u0 : Option Value) (u1 : Option Value) (u2 : Option Value) (ph : PH) : RS (ZZ L xs) (d + 1) mX13_isFull 64 [u0, u1, u2] [] ph = RS (ZZ L xs) (d + 1) mX13_isFull 65 [none, none, none] [.int 0] ph := by
  refine Eq.trans (q_iconst (v := 0) dX13_isFull_64 (show mK mX13_isFull 64 [u0, u1, u2] = [none, none, none] from rfl) rfl) ?_
  rfl
set_option maxRecDepth 20000 in
theorem bX13_isFull_65 {L : Nat} {xs : Nat → Int32} (d : Nat) (u0 : Option Value) (u1 : Option Value) (u2 : Option Value) (t0 : Int32) (ph : PH) : RS (ZZ L xs) (d + 1) mX13_isFull 65 [u0, u1, u2] [.int t0] ph = if (t0 : Int32) = 0 ∨ (t0 : Int32) = 1 then some (ph, some (.int t0)) else none := by
  exact q_zreturn dX13_isFull_65 (show mK mX13_isFull 65 [u0, u1, u2] = [none, none, none] from rfl) rfl
set_option maxRecDepth 20000 in
theorem bX13_townClause_0 {L : Nat} {xs : Nat → Int32} (d : Nat) (o : Nat) (i1 : Int32) (ph : PH) : RS (ZZ L xs) (d + 1) mX13_townClause 0 [some (.ref o), some (.int i1), none, none] [] ph = (iO ph (.ref o) 13).bind fun b1 => (cV (ZZ L xs) d mX13_blanks [.ref b1] ph).bind fun p1 => (fI p1 (.ref o) 13 29).bind fun x5 => RS (ZZ L xs) (d + 1) mX13_townClause 11 [some (.ref o), some (.int i1), some (.int x5), some (.int 0)] [] p1 := by
  refine Eq.trans (q_aload_n dX13_townClause_0 (mk0 rfl) rfl rfl) ?_
  refine Eq.trans (q_callV (as := []) dX13_townClause_1 (mk0 rfl) rfl rfl rfl (Nat.le_of_ble_eq_true rfl) (Nat.le_of_ble_eq_true rfl)) (bind_cg fun b1 => ?_)
  refine Eq.trans (cV_bind rfl) (bind_cg fun p1 => ?_)
  show RS (ZZ L xs) (d + 1) mX13_townClause 4 [some (.ref o), some (.int i1), none, none] [] p1 = _
  refine Eq.trans (q_aload_n dX13_townClause_4 (mk0 rfl) rfl rfl) ?_
  refine Eq.trans (q_getI (ci := 13) (k := 29) dX13_townClause_5 (mk0 rfl) rfl) (bind_cg fun x5 => ?_)
  refine Eq.trans (q_istore_n (lv2 := [some (.ref o), some (.int i1), some (.int x5), none]) dX13_townClause_8 (mk0 rfl) (Nat.le_of_ble_eq_true rfl) rfl) ?_
  refine Eq.trans (q_iconst (v := 0) dX13_townClause_9 (mk0 rfl) rfl) ?_
  refine Eq.trans (q_istore_n (lv2 := [some (.ref o), some (.int i1), some (.int x5), some (.int 0)]) dX13_townClause_10 (mk0 rfl) (Nat.le_of_ble_eq_true rfl) rfl) ?_
  rfl
set_option maxRecDepth 20000 in
theorem bX13_townClause_11 {L : Nat} {xs : Nat → Int32} (d : Nat) (o : Nat) (i1 : Int32) (i2 : Int32) (i3 : Int32) (ph : PH) : RS (ZZ L xs) (d + 1) mX13_townClause 11 [some (.ref o), some (.int i1), some (.int i2), some (.int i3)] [] ph = if (4 : Int32) ≤ i3 then RS (ZZ L xs) (d + 1) mX13_townClause 33 [some (.ref o), some (.int i1), some (.int i2), some (.int i3)] [] ph else (cR (ZZ L xs) d mX13_townWord [.int i3] ph).bind fun p18 => (iO p18.1 (.ref o) 13).bind fun b21 => (cI (ZZ L xs) d mX13_stood [.ref b21, p18.2] p18.1).bind fun p21 => if ¬ (p21.2 : Int32) = 0 then RS (ZZ L xs) (d + 1) mX13_townClause 33 [some (.ref o), some (.int i1), some (.int i2), some (.int i3)] [] p21.1 else RS (ZZ L xs) (d + 1) mX13_townClause 11 [some (.ref o), some (.int i1), some (.int i2), some (.int (i3 + 1))] [] p21.1 := by
  refine Eq.trans (q_iload_n dX13_townClause_11 (mk0 rfl) rfl) ?_
  refine Eq.trans (q_iconst (v := 4) dX13_townClause_12 (mk0 rfl) rfl) ?_
  refine Eq.trans (q_icmp_ge (t := 33) dX13_townClause_13 (mk0 rfl) rfl) (ite_cg ?_ ?_)
  · rfl
  · refine Eq.trans (q_aload_n dX13_townClause_16 (mk0 rfl) rfl rfl) ?_
    refine Eq.trans (q_iload_n dX13_townClause_17 (mk0 rfl) rfl) ?_
    refine Eq.trans (q_callS (as := [.int i3]) dX13_townClause_18 (mk0 rfl) rfl (Or.inl rfl) rfl rfl (Nat.le_of_ble_eq_true rfl) (Nat.le_of_ble_eq_true rfl)) ?_
    refine Eq.trans (cR_bind rfl) (bind_cg2 fun p18 hp18 => ?_)
    have hp18 := cR_isA hp18
    show RS (ZZ L xs) (d + 1) mX13_townClause 21 [some (.ref o), some (.int i1), some (.int i2), some (.int i3)] [p18.2, .ref o] p18.1 = _
    refine Eq.trans (q_callV (as := [p18.2]) dX13_townClause_21 (mk0 rfl) rfl rfl rfl (Nat.le_of_ble_eq_true rfl) (by simp [eA, ct_i, ct_l, ct_r, ct_n, ct_x, mX13_stood, (cat_A hp18)])) (bind_cg fun b21 => ?_)
    refine Eq.trans (cI_bind (Or.inr rfl)) (bind_cg fun p21 => ?_)
    show RS (ZZ L xs) (d + 1) mX13_townClause 24 [some (.ref o), some (.int i1), some (.int i2), some (.int i3)] [.int p21.2] p21.1 = _
    refine Eq.trans (q_if_ne (t := 33) dX13_townClause_24 (mk0 rfl) rfl) (ite_cg ?_ ?_)
    · rfl
    · refine Eq.trans (q_iinc (v := 1) (lv2 := [some (.ref o), some (.int i1), some (.int i2), some (.int (i3 + 1))]) dX13_townClause_27 (mk0 rfl) rfl rfl rfl) ?_
      refine Eq.trans (q_goto (t := 11) dX13_townClause_30 (mk0 rfl) rfl) ?_
      rfl
set_option maxRecDepth 20000 in
theorem bX13_townClause_33 {L : Nat} {xs : Nat → Int32} (d : Nat) (o : Nat) (i1 : Int32) (i2 : Int32) (i3 : Int32) (ph : PH) : RS (ZZ L xs) (d + 1) mX13_townClause 33 [some (.ref o), some (.int i1), some (.int i2), some (.int i3)] [] ph = if ¬ (i3 : Int32) = 4 then (iO ph (.ref o) 13).bind fun b48 => (cI (ZZ L xs) d mX13_isFull [.ref b48, .int i3, .int i1] ph).bind fun p48 => if (p48.2 : Int32) = 0 then (fI p48.1 (.ref o) 13 29).bind fun x63 => (cR (ZZ L xs) d mX13_townWord [.int i3] p48.1).bind fun p67 => (sN (ZZ L xs) p67.2).bind fun p70 => (fP p67.1 (.ref o) 13 29 (.int (x63 + p70))).bind fun h74 => (iO h74 (.ref o) 13).bind fun b79 => (cV (ZZ L xs) d mX13_townPart [.ref b79, .int i3] h74).bind fun p79 => some (p79, none) else (iO p48.1 (.ref o) 13).bind fun b57 => (cV (ZZ L xs) d mX13_fails [.ref b57, .int 4, .int i2] p48.1).bind fun p57 => some (p57, none) else (iO ph (.ref o) 13).bind fun b41 => (cV (ZZ L xs) d mX13_fails [.ref b41, .int 0, .int i2] ph).bind fun p41 => some (p41, none) := by
  refine Eq.trans (q_iload_n dX13_townClause_33 (mk0 rfl) rfl) ?_
  refine Eq.trans (q_iconst (v := 4) dX13_townClause_34 (mk0 rfl) rfl) ?_
  refine Eq.trans (q_icmp_ne (t := 45) dX13_townClause_35 (mk0 rfl) rfl) (ite_cg ?_ ?_)
  · refine Eq.trans (q_aload_n dX13_townClause_45 (mk0 rfl) rfl rfl) ?_
    refine Eq.trans (q_iload_n dX13_townClause_46 (mk0 rfl) rfl) ?_
    refine Eq.trans (q_iload_n dX13_townClause_47 (mk0 rfl) rfl) ?_
    refine Eq.trans (q_callV (as := [.int i3, .int i1]) dX13_townClause_48 (mk0 rfl) rfl rfl rfl (Nat.le_of_ble_eq_true rfl) (Nat.le_of_ble_eq_true rfl)) (bind_cg fun b48 => ?_)
    refine Eq.trans (cI_bind (Or.inr rfl)) (bind_cg fun p48 => ?_)
    show RS (ZZ L xs) (d + 1) mX13_townClause 51 [some (.ref o), some (.int i1), some (.int i2), some (.int i3)] [.int p48.2] p48.1 = _
    refine Eq.trans (q_if_eq (t := 61) dX13_townClause_51 (mk0 rfl) rfl) (ite_cg ?_ ?_)
    · refine Eq.trans (q_aload_n dX13_townClause_61 (mk0 rfl) rfl rfl) ?_
      refine Eq.trans (q_dup dX13_townClause_62 (mk0 rfl) rfl) ?_
      refine Eq.trans (q_getI (ci := 13) (k := 29) dX13_townClause_63 (mk0 rfl) rfl) (bind_cg fun x63 => ?_)
      refine Eq.trans (q_iload_n dX13_townClause_66 (mk0 rfl) rfl) ?_
      refine Eq.trans (q_callS (as := [.int i3]) dX13_townClause_67 (mk0 rfl) rfl (Or.inl rfl) rfl rfl (Nat.le_of_ble_eq_true rfl) (Nat.le_of_ble_eq_true rfl)) ?_
      refine Eq.trans (cR_bind rfl) (bind_cg2 fun p67 hp67 => ?_)
      have hp67 := cR_isA hp67
      show RS (ZZ L xs) (d + 1) mX13_townClause 70 [some (.ref o), some (.int i1), some (.int i2), some (.int i3)] [p67.2, .int x63, .ref o] p67.1 = _
      refine Eq.trans (q_slen dX13_townClause_70 (mk0 rfl) rfl (Nat.le_of_ble_eq_true rfl)) (bind_cg fun p70 => ?_)
      refine Eq.trans (q_iadd dX13_townClause_73 (mk0 rfl)) ?_
      refine Eq.trans (q_put (ci := 13) (k := 29) (kd := 0) dX13_townClause_74 (mk0 rfl) rfl rfl (fun h => by cases h)) (bind_cg fun h74 => ?_)
      refine Eq.trans (q_aload_n dX13_townClause_77 (mk0 rfl) rfl rfl) ?_
      refine Eq.trans (q_iload_n dX13_townClause_78 (mk0 rfl) rfl) ?_
      refine Eq.trans (q_callV (as := [.int i3]) dX13_townClause_79 (mk0 rfl) rfl rfl rfl (Nat.le_of_ble_eq_true rfl) (Nat.le_of_ble_eq_true rfl)) (bind_cg fun b79 => ?_)
      refine Eq.trans (cV_bind rfl) (bind_cg fun p79 => ?_)
      show RS (ZZ L xs) (d + 1) mX13_townClause 82 [some (.ref o), some (.int i1), some (.int i2), some (.int i3)] [] p79 = _
      exact q_return dX13_townClause_82 (mk0 rfl) rfl
    · refine Eq.trans (q_aload_n dX13_townClause_54 (mk0 rfl) rfl rfl) ?_
      refine Eq.trans (q_iconst (v := 4) dX13_townClause_55 (mk0 rfl) rfl) ?_
      refine Eq.trans (q_iload_n dX13_townClause_56 (mk0 rfl) rfl) ?_
      refine Eq.trans (q_callV (as := [.int 4, .int i2]) dX13_townClause_57 (mk0 rfl) rfl rfl rfl (Nat.le_of_ble_eq_true rfl) (Nat.le_of_ble_eq_true rfl)) (bind_cg fun b57 => ?_)
      refine Eq.trans (cV_bind rfl) (bind_cg fun p57 => ?_)
      show RS (ZZ L xs) (d + 1) mX13_townClause 60 [some (.ref o), some (.int i1), some (.int i2), some (.int i3)] [] p57 = _
      exact q_return dX13_townClause_60 (mk0 rfl) rfl
  · refine Eq.trans (q_aload_n dX13_townClause_38 (mk0 rfl) rfl rfl) ?_
    refine Eq.trans (q_iconst (v := 0) dX13_townClause_39 (mk0 rfl) rfl) ?_
    refine Eq.trans (q_iload_n dX13_townClause_40 (mk0 rfl) rfl) ?_
    refine Eq.trans (q_callV (as := [.int 0, .int i2]) dX13_townClause_41 (mk0 rfl) rfl rfl rfl (Nat.le_of_ble_eq_true rfl) (Nat.le_of_ble_eq_true rfl)) (bind_cg fun b41 => ?_)
    refine Eq.trans (cV_bind rfl) (bind_cg fun p41 => ?_)
    show RS (ZZ L xs) (d + 1) mX13_townClause 44 [some (.ref o), some (.int i1), some (.int i2), some (.int i3)] [] p41 = _
    exact q_return dX13_townClause_44 (mk0 rfl) rfl
set_option maxRecDepth 20000 in
theorem bX13_copies_0 {L : Nat} {xs : Nat → Int32} (d : Nat) (v0 : Value) (v1 : Value) (hv0 : isR v0 = true) (hv1 : isR v1 = true) (ph : PH) : RS (ZZ L xs) (d + 1) mX13_copies 0 [some (v0), some (v1), none] [] ph = RS (ZZ L xs) (d + 1) mX13_copies 2 [some (v0), some (v1), some (.int 0)] [] ph := by
  refine Eq.trans (q_iconst (v := 0) dX13_copies_0 (mk0 rfl) rfl) ?_
  refine Eq.trans (q_istore_n (lv2 := [some (v0), some (v1), some (.int 0)]) dX13_copies_1 (mk0 rfl) (Nat.le_of_ble_eq_true rfl) (by simp [s1, s2, s0, (cat_R hv1)] <;> rfl)) ?_
  rfl
set_option maxRecDepth 20000 in
theorem bX13_copies_2 {L : Nat} {xs : Nat → Int32} (d : Nat) (v0 : Value) (v1 : Value) (i2 : Int32) (hv0 : isR v0 = true) (hv1 : isR v1 = true) (ph : PH) : RS (ZZ L xs) (d + 1) mX13_copies 2 [some (v0), some (v1), some (.int i2)] [] ph = (nA ph v0).bind fun x4 => if (x4 : Int32) ≤ i2 then some (ph, none) else (eI ph v0 i2).bind fun x12 => (wI ph v1 i2 x12).bind fun h13 => RS (ZZ L xs) (d + 1) mX13_copies 2 [some (v0), some (v1), some (.int (i2 + 1))] [] h13 := by
  refine Eq.trans (q_iload_n dX13_copies_2 (mk0 rfl) rfl) ?_
  refine Eq.trans (q_aload_n dX13_copies_3 (mk0 rfl) rfl (isA_R hv0)) ?_
  refine Eq.trans (q_alen dX13_copies_4 (mk0 rfl) (no_ext hv0)) (bind_cg fun x4 => ?_)
  refine Eq.trans (q_icmp_ge (t := 20) dX13_copies_5 (mk0 rfl) rfl) (ite_cg ?_ ?_)
  · exact q_return dX13_copies_20 (mk0 rfl) rfl
  · refine Eq.trans (q_aload_n dX13_copies_8 (mk0 rfl) rfl (isA_R hv1)) ?_
    refine Eq.trans (q_iload_n dX13_copies_9 (mk0 rfl) rfl) ?_
    refine Eq.trans (q_aload_n dX13_copies_10 (mk0 rfl) rfl (isA_R hv0)) ?_
    refine Eq.trans (q_iload_n dX13_copies_11 (mk0 rfl) rfl) ?_
    refine Eq.trans (q_iaload dX13_copies_12 (mk0 rfl) (no_ext hv0)) (bind_cg fun x12 => ?_)
    refine Eq.trans (q_iastore dX13_copies_13 (mk0 rfl)) (bind_cg fun h13 => ?_)
    refine Eq.trans (q_iinc (v := 1) (lv2 := [some (v0), some (v1), some (.int (i2 + 1))]) dX13_copies_14 (mk0 rfl) rfl rfl (by simp [s1, s2, s0, (cat_R hv1)] <;> rfl)) ?_
    refine Eq.trans (q_goto (t := 2) dX13_copies_17 (mk0 rfl) rfl) ?_
    rfl
set_option maxRecDepth 20000 in
theorem bX13_goesOn_0 {L : Nat} {xs : Nat → Int32} (d : Nat) (o : Nat) (ph : PH) : RS (ZZ L xs) (d + 1) mX13_goesOn 0 [some (.ref o), none] [] ph = (iO ph (.ref o) 13).bind fun b1 => (cV (ZZ L xs) d mX13_blanks [.ref b1] ph).bind fun p1 => (fI p1 (.ref o) 13 30).bind fun x5 => if ¬ (x5 : Int32) = 0 then RS (ZZ L xs) (d + 1) mX13_goesOn 40 [some (.ref o), none] [] p1 else (fI p1 (.ref o) 13 29).bind fun x12 => (fI p1 (.ref o) 13 28).bind fun x16 => if (x16 : Int32) ≤ x12 then RS (ZZ L xs) (d + 1) mX13_goesOn 40 [some (.ref o), none] [] p1 else (iO p1 (.ref o) 13).bind fun b23 => (cI (ZZ L xs) d mX13_sign [.ref b23] p1).bind fun p23 => if (p23.2 : Int32) = 59 then RS (ZZ L xs) (d + 1) mX13_goesOn 40 [some (.ref o), none] [] p23.1 else (fI p23.1 (.ref o) 13 29).bind fun x34 => (iO p23.1 (.ref o) 13).bind fun b37 => (cV (ZZ L xs) d mX13_fails [.ref b37, .int 0, .int x34] p23.1).bind fun p37 => RS (ZZ L xs) (d + 1) mX13_goesOn 40 [some (.ref o), none] [] p37 := by
  refine Eq.trans (q_aload_n dX13_goesOn_0 (mk0 rfl) rfl rfl) ?_
  refine Eq.trans (q_callV (as := []) dX13_goesOn_1 (mk0 rfl) rfl rfl rfl (Nat.le_of_ble_eq_true rfl) (Nat.le_of_ble_eq_true rfl)) (bind_cg fun b1 => ?_)
  refine Eq.trans (cV_bind rfl) (bind_cg fun p1 => ?_)
  show RS (ZZ L xs) (d + 1) mX13_goesOn 4 [some (.ref o), none] [] p1 = _
  refine Eq.trans (q_aload_n dX13_goesOn_4 (mk0 rfl) rfl rfl) ?_
  refine Eq.trans (q_getI (ci := 13) (k := 30) dX13_goesOn_5 (mk0 rfl) rfl) (bind_cg fun x5 => ?_)
  refine Eq.trans (q_if_ne (t := 40) dX13_goesOn_8 (mk0 rfl) rfl) (ite_cg ?_ ?_)
  · rfl
  · refine Eq.trans (q_aload_n dX13_goesOn_11 (mk0 rfl) rfl rfl) ?_
    refine Eq.trans (q_getI (ci := 13) (k := 29) dX13_goesOn_12 (mk0 rfl) rfl) (bind_cg fun x12 => ?_)
    refine Eq.trans (q_aload_n dX13_goesOn_15 (mk0 rfl) rfl rfl) ?_
    refine Eq.trans (q_getI (ci := 13) (k := 28) dX13_goesOn_16 (mk0 rfl) rfl) (bind_cg fun x16 => ?_)
    refine Eq.trans (q_icmp_ge (t := 40) dX13_goesOn_19 (mk0 rfl) rfl) (ite_cg ?_ ?_)
    · rfl
    · refine Eq.trans (q_aload_n dX13_goesOn_22 (mk0 rfl) rfl rfl) ?_
      refine Eq.trans (q_callV (as := []) dX13_goesOn_23 (mk0 rfl) rfl rfl rfl (Nat.le_of_ble_eq_true rfl) (Nat.le_of_ble_eq_true rfl)) (bind_cg fun b23 => ?_)
      refine Eq.trans (cI_bind (Or.inl rfl)) (bind_cg fun p23 => ?_)
      show RS (ZZ L xs) (d + 1) mX13_goesOn 26 [some (.ref o), none] [.int p23.2] p23.1 = _
      refine Eq.trans (q_bipush (v := 59) dX13_goesOn_26 (mk0 rfl) rfl) ?_
      refine Eq.trans (q_icmp_eq (t := 40) dX13_goesOn_28 (mk0 rfl) rfl) (ite_cg ?_ ?_)
      · rfl
      · refine Eq.trans (q_aload_n dX13_goesOn_31 (mk0 rfl) rfl rfl) ?_
        refine Eq.trans (q_iconst (v := 0) dX13_goesOn_32 (mk0 rfl) rfl) ?_
        refine Eq.trans (q_aload_n dX13_goesOn_33 (mk0 rfl) rfl rfl) ?_
        refine Eq.trans (q_getI (ci := 13) (k := 29) dX13_goesOn_34 (mk0 rfl) rfl) (bind_cg fun x34 => ?_)
        refine Eq.trans (q_callV (as := [.int 0, .int x34]) dX13_goesOn_37 (mk0 rfl) rfl rfl rfl (Nat.le_of_ble_eq_true rfl) (Nat.le_of_ble_eq_true rfl)) (bind_cg fun b37 => ?_)
        refine Eq.trans (cV_bind rfl) (bind_cg fun p37 => ?_)
        show RS (ZZ L xs) (d + 1) mX13_goesOn 40 [some (.ref o), none] [] p37 = _
        rfl
set_option maxRecDepth 20000 in
theorem bX13_goesOn_40 {L : Nat} {xs : Nat → Int32} (d : Nat) (o : Nat) (u1 : Option Value) (ph : PH) : RS (ZZ L xs) (d + 1) mX13_goesOn 40 [some (.ref o), u1] [] ph = (fI ph (.ref o) 13 30).bind fun x41 => if ¬ (x41 : Int32) = 0 then RS (ZZ L xs) (d + 1) mX13_goesOn 62 [some (.ref o), none] [] ph else (fI ph (.ref o) 13 29).bind fun x48 => (fI ph (.ref o) 13 28).bind fun x52 => if (x52 : Int32) ≤ x48 then RS (ZZ L xs) (d + 1) mX13_goesOn 62 [some (.ref o), none] [] ph else RS (ZZ L xs) (d + 1) mX13_goesOn 63 [some (.ref o), none] [.int 1] ph := by
  refine Eq.trans (q_aload_n dX13_goesOn_40 (show mK mX13_goesOn 40 [some (.ref o), u1] = [some (.ref o), none] from rfl) rfl rfl) ?_
  refine Eq.trans (q_getI (ci := 13) (k := 30) dX13_goesOn_41 (mk0 rfl) rfl) (bind_cg fun x41 => ?_)
  refine Eq.trans (q_if_ne (t := 62) dX13_goesOn_44 (mk0 rfl) rfl) (ite_cg ?_ ?_)
  · rfl
  · refine Eq.trans (q_aload_n dX13_goesOn_47 (mk0 rfl) rfl rfl) ?_
    refine Eq.trans (q_getI (ci := 13) (k := 29) dX13_goesOn_48 (mk0 rfl) rfl) (bind_cg fun x48 => ?_)
    refine Eq.trans (q_aload_n dX13_goesOn_51 (mk0 rfl) rfl rfl) ?_
    refine Eq.trans (q_getI (ci := 13) (k := 28) dX13_goesOn_52 (mk0 rfl) rfl) (bind_cg fun x52 => ?_)
    refine Eq.trans (q_icmp_ge (t := 62) dX13_goesOn_55 (mk0 rfl) rfl) (ite_cg ?_ ?_)
    · rfl
    · refine Eq.trans (q_iconst (v := 1) dX13_goesOn_58 (mk0 rfl) rfl) ?_
      refine Eq.trans (q_goto (t := 63) dX13_goesOn_59 (mk0 rfl) rfl) ?_
      rfl
set_option maxRecDepth 20000 in
theorem bX13_goesOn_62 {L : Nat} {xs : Nat → Int32} (d : Nat) (o : Nat) (u1 : Option Value) (ph : PH) : RS (ZZ L xs) (d + 1) mX13_goesOn 62 [some (.ref o), u1] [] ph = RS (ZZ L xs) (d + 1) mX13_goesOn 63 [some (.ref o), none] [.int 0] ph := by
  refine Eq.trans (q_iconst (v := 0) dX13_goesOn_62 (show mK mX13_goesOn 62 [some (.ref o), u1] = [some (.ref o), none] from rfl) rfl) ?_
  rfl
set_option maxRecDepth 20000 in
theorem bX13_goesOn_63 {L : Nat} {xs : Nat → Int32} (d : Nat) (o : Nat) (u1 : Option Value) (t0 : Int32) (ph : PH) : RS (ZZ L xs) (d + 1) mX13_goesOn 63 [some (.ref o), u1] [.int t0] ph = (fI ph (.ref o) 13 29).bind fun x66 => (fP ph (.ref o) 13 29 (.int (x66 + 1))).bind fun h71 => if (t0 : Int32) = 0 ∨ (t0 : Int32) = 1 then some (h71, some (.int t0)) else none := by
  refine Eq.trans (q_istore_n (lv2 := [some (.ref o), some (.int t0)]) dX13_goesOn_63 (show mK mX13_goesOn 63 [some (.ref o), u1] = [some (.ref o), none] from rfl) (Nat.le_of_ble_eq_true rfl) rfl) ?_
  refine Eq.trans (q_aload_n dX13_goesOn_64 (mk0 rfl) rfl rfl) ?_
  refine Eq.trans (q_dup dX13_goesOn_65 (mk0 rfl) rfl) ?_
  refine Eq.trans (q_getI (ci := 13) (k := 29) dX13_goesOn_66 (mk0 rfl) rfl) (bind_cg fun x66 => ?_)
  refine Eq.trans (q_iconst (v := 1) dX13_goesOn_69 (mk0 rfl) rfl) ?_
  refine Eq.trans (q_iadd dX13_goesOn_70 (mk0 rfl)) ?_
  refine Eq.trans (q_put (ci := 13) (k := 29) (kd := 0) dX13_goesOn_71 (mk0 rfl) rfl rfl (fun h => by cases h)) (bind_cg fun h71 => ?_)
  refine Eq.trans (q_iload_n dX13_goesOn_74 (mk0 rfl) rfl) ?_
  exact q_zreturn dX13_goesOn_75 (mk0 rfl) rfl
set_option maxRecDepth 20000 in
theorem bX13_starts_0 {L : Nat} {xs : Nat → Int32} (d : Nat) (o : Nat) (ph : PH) : RS (ZZ L xs) (d + 1) mX13_starts 0 [some (.ref o)] [] ph = (fP ph (.ref o) 13 29 (.int 0)).bind fun h2 => (fP h2 (.ref o) 13 30 (.int 0)).bind fun h7 => (fP h7 (.ref o) 13 33 (.int 0)).bind fun h12 => (fP h12 (.ref o) 13 34 (.int 0)).bind fun h17 => (fP h17 (.ref o) 13 35 (.int 0)).bind fun h22 => some (h22, none) := by
  refine Eq.trans (q_aload_n dX13_starts_0 (mk0 rfl) rfl rfl) ?_
  refine Eq.trans (q_iconst (v := 0) dX13_starts_1 (mk0 rfl) rfl) ?_
  refine Eq.trans (q_put (ci := 13) (k := 29) (kd := 0) dX13_starts_2 (mk0 rfl) rfl rfl (fun h => by cases h)) (bind_cg fun h2 => ?_)
  refine Eq.trans (q_aload_n dX13_starts_5 (mk0 rfl) rfl rfl) ?_
  refine Eq.trans (q_iconst (v := 0) dX13_starts_6 (mk0 rfl) rfl) ?_
  refine Eq.trans (q_put (ci := 13) (k := 30) (kd := 0) dX13_starts_7 (mk0 rfl) rfl rfl (fun h => by cases h)) (bind_cg fun h7 => ?_)
  refine Eq.trans (q_aload_n dX13_starts_10 (mk0 rfl) rfl rfl) ?_
  refine Eq.trans (q_iconst (v := 0) dX13_starts_11 (mk0 rfl) rfl) ?_
  refine Eq.trans (q_put (ci := 13) (k := 33) (kd := 0) dX13_starts_12 (mk0 rfl) rfl rfl (fun h => by cases h)) (bind_cg fun h12 => ?_)
  refine Eq.trans (q_aload_n dX13_starts_15 (mk0 rfl) rfl rfl) ?_
  refine Eq.trans (q_iconst (v := 0) dX13_starts_16 (mk0 rfl) rfl) ?_
  refine Eq.trans (q_put (ci := 13) (k := 34) (kd := 0) dX13_starts_17 (mk0 rfl) rfl rfl (fun h => by cases h)) (bind_cg fun h17 => ?_)
  refine Eq.trans (q_aload_n dX13_starts_20 (mk0 rfl) rfl rfl) ?_
  refine Eq.trans (q_iconst (v := 0) dX13_starts_21 (mk0 rfl) rfl) ?_
  refine Eq.trans (q_put (ci := 13) (k := 35) (kd := 0) dX13_starts_22 (mk0 rfl) rfl rfl (fun h => by cases h)) (bind_cg fun h22 => ?_)
  exact q_return dX13_starts_25 (mk0 rfl) rfl
set_option maxRecDepth 20000 in
theorem bX13_readsAll_0 {L : Nat} {xs : Nat → Int32} (d : Nat) (o : Nat) (ph : PH) : RS (ZZ L xs) (d + 1) mX13_readsAll 0 [some (.ref o), none, none] [] ph = (iO ph (.ref o) 13).bind fun b1 => (cV (ZZ L xs) d mX13_starts [.ref b1] ph).bind fun p1 => RS (ZZ L xs) (d + 1) mX13_readsAll 6 [some (.ref o), some (.int 0), none] [] p1 := by
  refine Eq.trans (q_aload_n dX13_readsAll_0 (mk0 rfl) rfl rfl) ?_
  refine Eq.trans (q_callV (as := []) dX13_readsAll_1 (mk0 rfl) rfl rfl rfl (Nat.le_of_ble_eq_true rfl) (Nat.le_of_ble_eq_true rfl)) (bind_cg fun b1 => ?_)
  refine Eq.trans (cV_bind rfl) (bind_cg fun p1 => ?_)
  show RS (ZZ L xs) (d + 1) mX13_readsAll 4 [some (.ref o), none, none] [] p1 = _
  refine Eq.trans (q_iconst (v := 0) dX13_readsAll_4 (mk0 rfl) rfl) ?_
  refine Eq.trans (q_istore_n (lv2 := [some (.ref o), some (.int 0), none]) dX13_readsAll_5 (mk0 rfl) (Nat.le_of_ble_eq_true rfl) rfl) ?_
  rfl
set_option maxRecDepth 20000 in
theorem bX13_readsAll_6 {L : Nat} {xs : Nat → Int32} (d : Nat) (o : Nat) (i1 : Int32) (u2 : Option Value) (ph : PH) : RS (ZZ L xs) (d + 1) mX13_readsAll 6 [some (.ref o), some (.int i1), u2] [] ph = if (4 : Int32) ≤ i1 then RS (ZZ L xs) (d + 1) mX13_readsAll 26 [some (.ref o), some (.int 0), none] [] ph else (fR ph (.ref o) 13 20).bind fun x12 => (wI ph x12 i1 0).bind fun h17 => RS (ZZ L xs) (d + 1) mX13_readsAll 6 [some (.ref o), some (.int (i1 + 1)), none] [] h17 := by
  refine Eq.trans (q_iload_n dX13_readsAll_6 (show mK mX13_readsAll 6 [some (.ref o), some (.int i1), u2] = [some (.ref o), some (.int i1), none] from rfl) rfl) ?_
  refine Eq.trans (q_iconst (v := 4) dX13_readsAll_7 (mk0 rfl) rfl) ?_
  refine Eq.trans (q_icmp_ge (t := 24) dX13_readsAll_8 (mk0 rfl) rfl) (ite_cg ?_ ?_)
  · refine Eq.trans (q_iconst (v := 0) dX13_readsAll_24 (mk0 rfl) rfl) ?_
    refine Eq.trans (q_istore_n (lv2 := [some (.ref o), some (.int 0), none]) dX13_readsAll_25 (mk0 rfl) (Nat.le_of_ble_eq_true rfl) rfl) ?_
    rfl
  · refine Eq.trans (q_aload_n dX13_readsAll_11 (mk0 rfl) rfl rfl) ?_
    refine Eq.trans (q_getR (ci := 13) (k := 20) dX13_readsAll_12 (mk0 rfl) rfl) (bind_cg2 fun x12 hx12 => ?_)
    have hx12 := fR_isR hx12
    refine Eq.trans (q_iload_n dX13_readsAll_15 (mk0 rfl) rfl) ?_
    refine Eq.trans (q_iconst (v := 0) dX13_readsAll_16 (mk0 rfl) rfl) ?_
    refine Eq.trans (q_iastore dX13_readsAll_17 (mk0 rfl)) (bind_cg fun h17 => ?_)
    refine Eq.trans (q_iinc (v := 1) (lv2 := [some (.ref o), some (.int (i1 + 1)), none]) dX13_readsAll_18 (mk0 rfl) rfl rfl rfl) ?_
    refine Eq.trans (q_goto (t := 6) dX13_readsAll_21 (mk0 rfl) rfl) ?_
    rfl
set_option maxRecDepth 20000 in
theorem bX13_readsAll_26 {L : Nat} {xs : Nat → Int32} (d : Nat) (o : Nat) (i1 : Int32) (u2 : Option Value) (ph : PH) : RS (ZZ L xs) (d + 1) mX13_readsAll 26 [some (.ref o), some (.int i1), u2] [] ph = if (8 : Int32) ≤ i1 then RS (ZZ L xs) (d + 1) mX13_readsAll 49 [some (.ref o), some (.int 0), some (.int 1)] [] ph else (fR ph (.ref o) 13 27).bind fun x33 => (wI ph x33 i1 0).bind fun h38 => RS (ZZ L xs) (d + 1) mX13_readsAll 26 [some (.ref o), some (.int (i1 + 1)), none] [] h38 := by
  refine Eq.trans (q_iload_n dX13_readsAll_26 (show mK mX13_readsAll 26 [some (.ref o), some (.int i1), u2] = [some (.ref o), some (.int i1), none] from rfl) rfl) ?_
  refine Eq.trans (q_bipush (v := 8) dX13_readsAll_27 (mk0 rfl) rfl) ?_
  refine Eq.trans (q_icmp_ge (t := 45) dX13_readsAll_29 (mk0 rfl) rfl) (ite_cg ?_ ?_)
  · refine Eq.trans (q_iconst (v := 0) dX13_readsAll_45 (mk0 rfl) rfl) ?_
    refine Eq.trans (q_istore_n (lv2 := [some (.ref o), some (.int 0), none]) dX13_readsAll_46 (mk0 rfl) (Nat.le_of_ble_eq_true rfl) rfl) ?_
    refine Eq.trans (q_iconst (v := 1) dX13_readsAll_47 (mk0 rfl) rfl) ?_
    refine Eq.trans (q_istore_n (lv2 := [some (.ref o), some (.int 0), some (.int 1)]) dX13_readsAll_48 (mk0 rfl) (Nat.le_of_ble_eq_true rfl) rfl) ?_
    rfl
  · refine Eq.trans (q_aload_n dX13_readsAll_32 (mk0 rfl) rfl rfl) ?_
    refine Eq.trans (q_getR (ci := 13) (k := 27) dX13_readsAll_33 (mk0 rfl) rfl) (bind_cg2 fun x33 hx33 => ?_)
    have hx33 := fR_isR hx33
    refine Eq.trans (q_iload_n dX13_readsAll_36 (mk0 rfl) rfl) ?_
    refine Eq.trans (q_iconst (v := 0) dX13_readsAll_37 (mk0 rfl) rfl) ?_
    refine Eq.trans (q_iastore dX13_readsAll_38 (mk0 rfl)) (bind_cg fun h38 => ?_)
    refine Eq.trans (q_iinc (v := 1) (lv2 := [some (.ref o), some (.int (i1 + 1)), none]) dX13_readsAll_39 (mk0 rfl) rfl rfl rfl) ?_
    refine Eq.trans (q_goto (t := 26) dX13_readsAll_42 (mk0 rfl) rfl) ?_
    rfl
set_option maxRecDepth 20000 in
theorem bX13_readsAll_49 {L : Nat} {xs : Nat → Int32} (d : Nat) (o : Nat) (i1 : Int32) (i2 : Int32) (ph : PH) : RS (ZZ L xs) (d + 1) mX13_readsAll 49 [some (.ref o), some (.int i1), some (.int i2)] [] ph = if (i2 : Int32) = 0 then (fP ph (.ref o) 13 28 (.int 0)).bind fun h71 => some (h71, none) else (iO ph (.ref o) 13).bind fun b55 => (cV (ZZ L xs) d mX13_townClause [.ref b55, .int i1] ph).bind fun p55 => (iO p55 (.ref o) 13).bind fun b62 => (cI (ZZ L xs) d mX13_goesOn [.ref b62] p55).bind fun p62 => RS (ZZ L xs) (d + 1) mX13_readsAll 49 [some (.ref o), some (.int (i1 + 1)), some (.int p62.2)] [] p62.1 := by
  refine Eq.trans (q_iload_n dX13_readsAll_49 (mk0 rfl) rfl) ?_
  refine Eq.trans (q_if_eq (t := 69) dX13_readsAll_50 (mk0 rfl) rfl) (ite_cg ?_ ?_)
  · refine Eq.trans (q_aload_n dX13_readsAll_69 (mk0 rfl) rfl rfl) ?_
    refine Eq.trans (q_iconst (v := 0) dX13_readsAll_70 (mk0 rfl) rfl) ?_
    refine Eq.trans (q_put (ci := 13) (k := 28) (kd := 0) dX13_readsAll_71 (mk0 rfl) rfl rfl (fun h => by cases h)) (bind_cg fun h71 => ?_)
    exact q_return dX13_readsAll_74 (mk0 rfl) rfl
  · refine Eq.trans (q_aload_n dX13_readsAll_53 (mk0 rfl) rfl rfl) ?_
    refine Eq.trans (q_iload_n dX13_readsAll_54 (mk0 rfl) rfl) ?_
    refine Eq.trans (q_callV (as := [.int i1]) dX13_readsAll_55 (mk0 rfl) rfl rfl rfl (Nat.le_of_ble_eq_true rfl) (Nat.le_of_ble_eq_true rfl)) (bind_cg fun b55 => ?_)
    refine Eq.trans (cV_bind rfl) (bind_cg fun p55 => ?_)
    show RS (ZZ L xs) (d + 1) mX13_readsAll 58 [some (.ref o), some (.int i1), some (.int i2)] [] p55 = _
    refine Eq.trans (q_iinc (v := 1) (lv2 := [some (.ref o), some (.int (i1 + 1)), some (.int i2)]) dX13_readsAll_58 (mk0 rfl) rfl rfl rfl) ?_
    refine Eq.trans (q_aload_n dX13_readsAll_61 (mk0 rfl) rfl rfl) ?_
    refine Eq.trans (q_callV (as := []) dX13_readsAll_62 (mk0 rfl) rfl rfl rfl (Nat.le_of_ble_eq_true rfl) (Nat.le_of_ble_eq_true rfl)) (bind_cg fun b62 => ?_)
    refine Eq.trans (cI_bind (Or.inr rfl)) (bind_cg fun p62 => ?_)
    show RS (ZZ L xs) (d + 1) mX13_readsAll 65 [some (.ref o), some (.int (i1 + 1)), some (.int i2)] [.int p62.2] p62.1 = _
    refine Eq.trans (q_istore_n (lv2 := [some (.ref o), some (.int (i1 + 1)), some (.int p62.2)]) dX13_readsAll_65 (mk0 rfl) (Nat.le_of_ble_eq_true rfl) rfl) ?_
    refine Eq.trans (q_goto (t := 49) dX13_readsAll_66 (mk0 rfl) rfl) ?_
    rfl
set_option maxRecDepth 20000 in
theorem bX13_begins_0 {L : Nat} {xs : Nat → Int32} (d : Nat) (o : Nat) (ph : PH) : RS (ZZ L xs) (d + 1) mX13_begins 0 [some (.ref o), none] [] ph = (fR ph (.ref o) 13 17).bind fun x1 => (fR ph (.ref o) 13 2).bind fun x5 => (cV (ZZ L xs) d mX13_copies [x1, x5] ph).bind fun p8 => (fR p8 (.ref o) 13 18).bind fun x12 => (fR p8 (.ref o) 13 3).bind fun x16 => (cV (ZZ L xs) d mX13_copies [x12, x16] p8).bind fun p19 => (fR p19 (.ref o) 13 19).bind fun x23 => (fR p19 (.ref o) 13 9).bind fun x27 => (cV (ZZ L xs) d mX13_copies [x23, x27] p19).bind fun p30 => (fR p30 (.ref o) 13 1).bind fun x34 => (wI p30 x34 4 0).bind fun h39 => (fR h39 (.ref o) 13 1).bind fun x41 => (wI h39 x41 5 ((-1))).bind fun h46 => (fR h46 (.ref o) 13 1).bind fun x48 => (wI h46 x48 6 0).bind fun h54 => RS (ZZ L xs) (d + 1) mX13_begins 57 [some (.ref o), some (.int 0)] [] h54 := by
  refine Eq.trans (q_aload_n dX13_begins_0 (mk0 rfl) rfl rfl) ?_
  refine Eq.trans (q_getR (ci := 13) (k := 17) dX13_begins_1 (mk0 rfl) rfl) (bind_cg2 fun x1 hx1 => ?_)
  have hx1 := fR_isR hx1
  refine Eq.trans (q_aload_n dX13_begins_4 (mk0 rfl) rfl rfl) ?_
  refine Eq.trans (q_getR (ci := 13) (k := 2) dX13_begins_5 (mk0 rfl) rfl) (bind_cg2 fun x5 hx5 => ?_)
  have hx5 := fR_isR hx5
  refine Eq.trans (q_callS (as := [x1, x5]) dX13_begins_8 (mk0 rfl) rfl (Or.inl rfl) rfl rfl (Nat.le_of_ble_eq_true rfl) (by simp [eA, ct_i, ct_l, ct_r, ct_n, ct_x, mX13_copies, (cat_R hx1), (cat_R hx5)])) ?_
  refine Eq.trans (cV_bind rfl) (bind_cg fun p8 => ?_)
  show RS (ZZ L xs) (d + 1) mX13_begins 11 [some (.ref o), none] [] p8 = _
  refine Eq.trans (q_aload_n dX13_begins_11 (mk0 rfl) rfl rfl) ?_
  refine Eq.trans (q_getR (ci := 13) (k := 18) dX13_begins_12 (mk0 rfl) rfl) (bind_cg2 fun x12 hx12 => ?_)
  have hx12 := fR_isR hx12
  refine Eq.trans (q_aload_n dX13_begins_15 (mk0 rfl) rfl rfl) ?_
  refine Eq.trans (q_getR (ci := 13) (k := 3) dX13_begins_16 (mk0 rfl) rfl) (bind_cg2 fun x16 hx16 => ?_)
  have hx16 := fR_isR hx16
  refine Eq.trans (q_callS (as := [x12, x16]) dX13_begins_19 (mk0 rfl) rfl (Or.inl rfl) rfl rfl (Nat.le_of_ble_eq_true rfl) (by simp [eA, ct_i, ct_l, ct_r, ct_n, ct_x, mX13_copies, (cat_R hx12), (cat_R hx16)])) ?_
  refine Eq.trans (cV_bind rfl) (bind_cg fun p19 => ?_)
  show RS (ZZ L xs) (d + 1) mX13_begins 22 [some (.ref o), none] [] p19 = _
  refine Eq.trans (q_aload_n dX13_begins_22 (mk0 rfl) rfl rfl) ?_
  refine Eq.trans (q_getR (ci := 13) (k := 19) dX13_begins_23 (mk0 rfl) rfl) (bind_cg2 fun x23 hx23 => ?_)
  have hx23 := fR_isR hx23
  refine Eq.trans (q_aload_n dX13_begins_26 (mk0 rfl) rfl rfl) ?_
  refine Eq.trans (q_getR (ci := 13) (k := 9) dX13_begins_27 (mk0 rfl) rfl) (bind_cg2 fun x27 hx27 => ?_)
  have hx27 := fR_isR hx27
  refine Eq.trans (q_callS (as := [x23, x27]) dX13_begins_30 (mk0 rfl) rfl (Or.inl rfl) rfl rfl (Nat.le_of_ble_eq_true rfl) (by simp [eA, ct_i, ct_l, ct_r, ct_n, ct_x, mX13_copies, (cat_R hx23), (cat_R hx27)])) ?_
  refine Eq.trans (cV_bind rfl) (bind_cg fun p30 => ?_)
  show RS (ZZ L xs) (d + 1) mX13_begins 33 [some (.ref o), none] [] p30 = _
  refine Eq.trans (q_aload_n dX13_begins_33 (mk0 rfl) rfl rfl) ?_
  refine Eq.trans (q_getR (ci := 13) (k := 1) dX13_begins_34 (mk0 rfl) rfl) (bind_cg2 fun x34 hx34 => ?_)
  have hx34 := fR_isR hx34
  refine Eq.trans (q_iconst (v := 4) dX13_begins_37 (mk0 rfl) rfl) ?_
  refine Eq.trans (q_iconst (v := 0) dX13_begins_38 (mk0 rfl) rfl) ?_
  refine Eq.trans (q_iastore dX13_begins_39 (mk0 rfl)) (bind_cg fun h39 => ?_)
  refine Eq.trans (q_aload_n dX13_begins_40 (mk0 rfl) rfl rfl) ?_
  refine Eq.trans (q_getR (ci := 13) (k := 1) dX13_begins_41 (mk0 rfl) rfl) (bind_cg2 fun x41 hx41 => ?_)
  have hx41 := fR_isR hx41
  refine Eq.trans (q_iconst (v := 5) dX13_begins_44 (mk0 rfl) rfl) ?_
  refine Eq.trans (q_iconst (v := (-1)) dX13_begins_45 (mk0 rfl) rfl) ?_
  refine Eq.trans (q_iastore dX13_begins_46 (mk0 rfl)) (bind_cg fun h46 => ?_)
  refine Eq.trans (q_aload_n dX13_begins_47 (mk0 rfl) rfl rfl) ?_
  refine Eq.trans (q_getR (ci := 13) (k := 1) dX13_begins_48 (mk0 rfl) rfl) (bind_cg2 fun x48 hx48 => ?_)
  have hx48 := fR_isR hx48
  refine Eq.trans (q_bipush (v := 6) dX13_begins_51 (mk0 rfl) rfl) ?_
  refine Eq.trans (q_iconst (v := 0) dX13_begins_53 (mk0 rfl) rfl) ?_
  refine Eq.trans (q_iastore dX13_begins_54 (mk0 rfl)) (bind_cg fun h54 => ?_)
  refine Eq.trans (q_iconst (v := 0) dX13_begins_55 (mk0 rfl) rfl) ?_
  refine Eq.trans (q_istore_n (lv2 := [some (.ref o), some (.int 0)]) dX13_begins_56 (mk0 rfl) (Nat.le_of_ble_eq_true rfl) rfl) ?_
  rfl
set_option maxRecDepth 20000 in
theorem bX13_begins_57 {L : Nat} {xs : Nat → Int32} (d : Nat) (o : Nat) (i1 : Int32) (ph : PH) : RS (ZZ L xs) (d + 1) mX13_begins 57 [some (.ref o), some (.int i1)] [] ph = if (6 : Int32) ≤ i1 then RS (ZZ L xs) (d + 1) mX13_begins 92 [some (.ref o), some (.int 0)] [] ph else (fR ph (.ref o) 13 4).bind fun x64 => (wI ph x64 i1 0).bind fun h69 => (fR h69 (.ref o) 13 5).bind fun x71 => (wI h69 x71 i1 0).bind fun h76 => (fR h76 (.ref o) 13 6).bind fun x78 => (wI h76 x78 i1 0).bind fun h83 => RS (ZZ L xs) (d + 1) mX13_begins 57 [some (.ref o), some (.int (i1 + 1))] [] h83 := by
  refine Eq.trans (q_iload_n dX13_begins_57 (mk0 rfl) rfl) ?_
  refine Eq.trans (q_bipush (v := 6) dX13_begins_58 (mk0 rfl) rfl) ?_
  refine Eq.trans (q_icmp_ge (t := 90) dX13_begins_60 (mk0 rfl) rfl) (ite_cg ?_ ?_)
  · refine Eq.trans (q_iconst (v := 0) dX13_begins_90 (mk0 rfl) rfl) ?_
    refine Eq.trans (q_istore_n (lv2 := [some (.ref o), some (.int 0)]) dX13_begins_91 (mk0 rfl) (Nat.le_of_ble_eq_true rfl) rfl) ?_
    rfl
  · refine Eq.trans (q_aload_n dX13_begins_63 (mk0 rfl) rfl rfl) ?_
    refine Eq.trans (q_getR (ci := 13) (k := 4) dX13_begins_64 (mk0 rfl) rfl) (bind_cg2 fun x64 hx64 => ?_)
    have hx64 := fR_isR hx64
    refine Eq.trans (q_iload_n dX13_begins_67 (mk0 rfl) rfl) ?_
    refine Eq.trans (q_iconst (v := 0) dX13_begins_68 (mk0 rfl) rfl) ?_
    refine Eq.trans (q_iastore dX13_begins_69 (mk0 rfl)) (bind_cg fun h69 => ?_)
    refine Eq.trans (q_aload_n dX13_begins_70 (mk0 rfl) rfl rfl) ?_
    refine Eq.trans (q_getR (ci := 13) (k := 5) dX13_begins_71 (mk0 rfl) rfl) (bind_cg2 fun x71 hx71 => ?_)
    have hx71 := fR_isR hx71
    refine Eq.trans (q_iload_n dX13_begins_74 (mk0 rfl) rfl) ?_
    refine Eq.trans (q_iconst (v := 0) dX13_begins_75 (mk0 rfl) rfl) ?_
    refine Eq.trans (q_iastore dX13_begins_76 (mk0 rfl)) (bind_cg fun h76 => ?_)
    refine Eq.trans (q_aload_n dX13_begins_77 (mk0 rfl) rfl rfl) ?_
    refine Eq.trans (q_getR (ci := 13) (k := 6) dX13_begins_78 (mk0 rfl) rfl) (bind_cg2 fun x78 hx78 => ?_)
    have hx78 := fR_isR hx78
    refine Eq.trans (q_iload_n dX13_begins_81 (mk0 rfl) rfl) ?_
    refine Eq.trans (q_iconst (v := 0) dX13_begins_82 (mk0 rfl) rfl) ?_
    refine Eq.trans (q_iastore dX13_begins_83 (mk0 rfl)) (bind_cg fun h83 => ?_)
    refine Eq.trans (q_iinc (v := 1) (lv2 := [some (.ref o), some (.int (i1 + 1))]) dX13_begins_84 (mk0 rfl) rfl rfl rfl) ?_
    refine Eq.trans (q_goto (t := 57) dX13_begins_87 (mk0 rfl) rfl) ?_
    rfl
set_option maxRecDepth 20000 in
theorem bX13_begins_92 {L : Nat} {xs : Nat → Int32} (d : Nat) (o : Nat) (i1 : Int32) (ph : PH) : RS (ZZ L xs) (d + 1) mX13_begins 92 [some (.ref o), some (.int i1)] [] ph = if (5 : Int32) ≤ i1 then RS (ZZ L xs) (d + 1) mX13_begins 112 [some (.ref o), some (.int 0)] [] ph else (fR ph (.ref o) 13 7).bind fun x98 => (wI ph x98 i1 ((-1))).bind fun h103 => RS (ZZ L xs) (d + 1) mX13_begins 92 [some (.ref o), some (.int (i1 + 1))] [] h103 := by
  refine Eq.trans (q_iload_n dX13_begins_92 (mk0 rfl) rfl) ?_
  refine Eq.trans (q_iconst (v := 5) dX13_begins_93 (mk0 rfl) rfl) ?_
  refine Eq.trans (q_icmp_ge (t := 110) dX13_begins_94 (mk0 rfl) rfl) (ite_cg ?_ ?_)
  · refine Eq.trans (q_iconst (v := 0) dX13_begins_110 (mk0 rfl) rfl) ?_
    refine Eq.trans (q_istore_n (lv2 := [some (.ref o), some (.int 0)]) dX13_begins_111 (mk0 rfl) (Nat.le_of_ble_eq_true rfl) rfl) ?_
    rfl
  · refine Eq.trans (q_aload_n dX13_begins_97 (mk0 rfl) rfl rfl) ?_
    refine Eq.trans (q_getR (ci := 13) (k := 7) dX13_begins_98 (mk0 rfl) rfl) (bind_cg2 fun x98 hx98 => ?_)
    have hx98 := fR_isR hx98
    refine Eq.trans (q_iload_n dX13_begins_101 (mk0 rfl) rfl) ?_
    refine Eq.trans (q_iconst (v := (-1)) dX13_begins_102 (mk0 rfl) rfl) ?_
    refine Eq.trans (q_iastore dX13_begins_103 (mk0 rfl)) (bind_cg fun h103 => ?_)
    refine Eq.trans (q_iinc (v := 1) (lv2 := [some (.ref o), some (.int (i1 + 1))]) dX13_begins_104 (mk0 rfl) rfl rfl rfl) ?_
    refine Eq.trans (q_goto (t := 92) dX13_begins_107 (mk0 rfl) rfl) ?_
    rfl
set_option maxRecDepth 20000 in
theorem bX13_begins_112 {L : Nat} {xs : Nat → Int32} (d : Nat) (o : Nat) (i1 : Int32) (ph : PH) : RS (ZZ L xs) (d + 1) mX13_begins 112 [some (.ref o), some (.int i1)] [] ph = (fR ph (.ref o) 13 8).bind fun x114 => (nA ph x114).bind fun x117 => if (x117 : Int32) ≤ i1 then some (ph, none) else (fR ph (.ref o) 13 8).bind fun x122 => (wI ph x122 i1 0).bind fun h127 => RS (ZZ L xs) (d + 1) mX13_begins 112 [some (.ref o), some (.int (i1 + 1))] [] h127 := by
  refine Eq.trans (q_iload_n dX13_begins_112 (mk0 rfl) rfl) ?_
  refine Eq.trans (q_aload_n dX13_begins_113 (mk0 rfl) rfl rfl) ?_
  refine Eq.trans (q_getR (ci := 13) (k := 8) dX13_begins_114 (mk0 rfl) rfl) (bind_cg2 fun x114 hx114 => ?_)
  have hx114 := fR_isR hx114
  refine Eq.trans (q_alen dX13_begins_117 (mk0 rfl) (no_ext hx114)) (bind_cg fun x117 => ?_)
  refine Eq.trans (q_icmp_ge (t := 134) dX13_begins_118 (mk0 rfl) rfl) (ite_cg ?_ ?_)
  · exact q_return dX13_begins_134 (mk0 rfl) rfl
  · refine Eq.trans (q_aload_n dX13_begins_121 (mk0 rfl) rfl rfl) ?_
    refine Eq.trans (q_getR (ci := 13) (k := 8) dX13_begins_122 (mk0 rfl) rfl) (bind_cg2 fun x122 hx122 => ?_)
    have hx122 := fR_isR hx122
    refine Eq.trans (q_iload_n dX13_begins_125 (mk0 rfl) rfl) ?_
    refine Eq.trans (q_iconst (v := 0) dX13_begins_126 (mk0 rfl) rfl) ?_
    refine Eq.trans (q_iastore dX13_begins_127 (mk0 rfl)) (bind_cg fun h127 => ?_)
    refine Eq.trans (q_iinc (v := 1) (lv2 := [some (.ref o), some (.int (i1 + 1))]) dX13_begins_128 (mk0 rfl) rfl rfl rfl) ?_
    refine Eq.trans (q_goto (t := 112) dX13_begins_131 (mk0 rfl) rfl) ?_
    rfl
set_option maxRecDepth 20000 in
theorem bX13_town_0 {L : Nat} {xs : Nat → Int32} (d : Nat) (o : Nat) (ph : PH) : RS (ZZ L xs) (d + 1) mX13_town 0 [some (.ref o), none] [] ph = (iO ph (.ref o) 13).bind fun b1 => (cV (ZZ L xs) d mX13_readsAll [.ref b1] ph).bind fun p1 => (fI p1 (.ref o) 13 30).bind fun x5 => if (x5 : Int32) ≤ 0 then RS (ZZ L xs) (d + 1) mX13_town 21 [some (.ref o), some (.int 0)] [] p1 else (fI p1 (.ref o) 13 30).bind fun x14 => some (p1, some (.int (((-2)) - x14))) := by
  refine Eq.trans (q_aload_n dX13_town_0 (mk0 rfl) rfl rfl) ?_
  refine Eq.trans (q_callV (as := []) dX13_town_1 (mk0 rfl) rfl rfl rfl (Nat.le_of_ble_eq_true rfl) (Nat.le_of_ble_eq_true rfl)) (bind_cg fun b1 => ?_)
  refine Eq.trans (cV_bind rfl) (bind_cg fun p1 => ?_)
  show RS (ZZ L xs) (d + 1) mX13_town 4 [some (.ref o), none] [] p1 = _
  refine Eq.trans (q_aload_n dX13_town_4 (mk0 rfl) rfl rfl) ?_
  refine Eq.trans (q_getI (ci := 13) (k := 30) dX13_town_5 (mk0 rfl) rfl) (bind_cg fun x5 => ?_)
  refine Eq.trans (q_if_le (t := 19) dX13_town_8 (mk0 rfl) rfl) (ite_cg ?_ ?_)
  · refine Eq.trans (q_iconst (v := 0) dX13_town_19 (mk0 rfl) rfl) ?_
    refine Eq.trans (q_istore_n (lv2 := [some (.ref o), some (.int 0)]) dX13_town_20 (mk0 rfl) (Nat.le_of_ble_eq_true rfl) rfl) ?_
    rfl
  · refine Eq.trans (q_bipush (v := (-2)) dX13_town_11 (mk0 rfl) rfl) ?_
    refine Eq.trans (q_aload_n dX13_town_13 (mk0 rfl) rfl rfl) ?_
    refine Eq.trans (q_getI (ci := 13) (k := 30) dX13_town_14 (mk0 rfl) rfl) (bind_cg fun x14 => ?_)
    refine Eq.trans (q_isub dX13_town_17 (mk0 rfl)) ?_
    exact q_ireturn dX13_town_18 (mk0 rfl) rfl
set_option maxRecDepth 20000 in
theorem bX13_town_21 {L : Nat} {xs : Nat → Int32} (d : Nat) (o : Nat) (i1 : Int32) (ph : PH) : RS (ZZ L xs) (d + 1) mX13_town 21 [some (.ref o), some (.int i1)] [] ph = if (4 : Int32) ≤ i1 then (fR ph (.ref o) 13 1).bind fun x45 => (wI ph x45 7 0).bind fun h51 => (fR h51 (.ref o) 13 21).bind fun x53 => (fR h51 (.ref o) 13 17).bind fun x57 => (cV (ZZ L xs) d mX13_copies [x53, x57] h51).bind fun p60 => (fR p60 (.ref o) 13 22).bind fun x64 => (fR p60 (.ref o) 13 18).bind fun x68 => (cV (ZZ L xs) d mX13_copies [x64, x68] p60).bind fun p71 => (fR p71 (.ref o) 13 27).bind fun x75 => (fR p71 (.ref o) 13 19).bind fun x79 => (cV (ZZ L xs) d mX13_copies [x75, x79] p71).bind fun p82 => (fR p82 (.ref o) 13 23).bind fun x86 => (fR p82 (.ref o) 13 10).bind fun x90 => (cV (ZZ L xs) d mX13_copies [x86, x90] p82).bind fun p93 => (fR p93 (.ref o) 13 24).bind fun x97 => (fR p93 (.ref o) 13 11).bind fun x101 => (cV (ZZ L xs) d mX13_copies [x97, x101] p93).bind fun p104 => (fR p104 (.ref o) 13 25).bind fun x108 => (fR p104 (.ref o) 13 12).bind fun x112 => (cV (ZZ L xs) d mX13_copies [x108, x112] p104).bind fun p115 => (fR p115 (.ref o) 13 26).bind fun x119 => (fR p115 (.ref o) 13 13).bind fun x123 => (cV (ZZ L xs) d mX13_copies [x119, x123] p115).bind fun p126 => (iO p126 (.ref o) 13).bind fun b130 => (cV (ZZ L xs) d mX13_begins [.ref b130] p126).bind fun p130 => (fP p130 (.ref o) 13 51 (.int 0)).bind fun h135 => (fR h135 (.ref o) 13 1).bind fun x139 => (eI h135 x139 2).bind fun x143 => some (h135, some (.int x143)) else (fR ph (.ref o) 13 1).bind fun x27 => (fR ph (.ref o) 13 20).bind fun x32 => (eI ph x32 i1).bind fun x36 => (wI ph x27 i1 x36).bind fun h37 => RS (ZZ L xs) (d + 1) mX13_town 21 [some (.ref o), some (.int (i1 + 1))] [] h37 := by
  refine Eq.trans (q_iload_n dX13_town_21 (mk0 rfl) rfl) ?_
  refine Eq.trans (q_iconst (v := 4) dX13_town_22 (mk0 rfl) rfl) ?_
  refine Eq.trans (q_icmp_ge (t := 44) dX13_town_23 (mk0 rfl) rfl) (ite_cg ?_ ?_)
  · refine Eq.trans (q_aload_n dX13_town_44 (mk0 rfl) rfl rfl) ?_
    refine Eq.trans (q_getR (ci := 13) (k := 1) dX13_town_45 (mk0 rfl) rfl) (bind_cg2 fun x45 hx45 => ?_)
    have hx45 := fR_isR hx45
    refine Eq.trans (q_bipush (v := 7) dX13_town_48 (mk0 rfl) rfl) ?_
    refine Eq.trans (q_iconst (v := 0) dX13_town_50 (mk0 rfl) rfl) ?_
    refine Eq.trans (q_iastore dX13_town_51 (mk0 rfl)) (bind_cg fun h51 => ?_)
    refine Eq.trans (q_aload_n dX13_town_52 (mk0 rfl) rfl rfl) ?_
    refine Eq.trans (q_getR (ci := 13) (k := 21) dX13_town_53 (mk0 rfl) rfl) (bind_cg2 fun x53 hx53 => ?_)
    have hx53 := fR_isR hx53
    refine Eq.trans (q_aload_n dX13_town_56 (mk0 rfl) rfl rfl) ?_
    refine Eq.trans (q_getR (ci := 13) (k := 17) dX13_town_57 (mk0 rfl) rfl) (bind_cg2 fun x57 hx57 => ?_)
    have hx57 := fR_isR hx57
    refine Eq.trans (q_callS (as := [x53, x57]) dX13_town_60 (mk0 rfl) rfl (Or.inl rfl) rfl rfl (Nat.le_of_ble_eq_true rfl) (by simp [eA, ct_i, ct_l, ct_r, ct_n, ct_x, mX13_copies, (cat_R hx53), (cat_R hx57)])) ?_
    refine Eq.trans (cV_bind rfl) (bind_cg fun p60 => ?_)
    show RS (ZZ L xs) (d + 1) mX13_town 63 [some (.ref o), some (.int i1)] [] p60 = _
    refine Eq.trans (q_aload_n dX13_town_63 (mk0 rfl) rfl rfl) ?_
    refine Eq.trans (q_getR (ci := 13) (k := 22) dX13_town_64 (mk0 rfl) rfl) (bind_cg2 fun x64 hx64 => ?_)
    have hx64 := fR_isR hx64
    refine Eq.trans (q_aload_n dX13_town_67 (mk0 rfl) rfl rfl) ?_
    refine Eq.trans (q_getR (ci := 13) (k := 18) dX13_town_68 (mk0 rfl) rfl) (bind_cg2 fun x68 hx68 => ?_)
    have hx68 := fR_isR hx68
    refine Eq.trans (q_callS (as := [x64, x68]) dX13_town_71 (mk0 rfl) rfl (Or.inl rfl) rfl rfl (Nat.le_of_ble_eq_true rfl) (by simp [eA, ct_i, ct_l, ct_r, ct_n, ct_x, mX13_copies, (cat_R hx64), (cat_R hx68)])) ?_
    refine Eq.trans (cV_bind rfl) (bind_cg fun p71 => ?_)
    show RS (ZZ L xs) (d + 1) mX13_town 74 [some (.ref o), some (.int i1)] [] p71 = _
    refine Eq.trans (q_aload_n dX13_town_74 (mk0 rfl) rfl rfl) ?_
    refine Eq.trans (q_getR (ci := 13) (k := 27) dX13_town_75 (mk0 rfl) rfl) (bind_cg2 fun x75 hx75 => ?_)
    have hx75 := fR_isR hx75
    refine Eq.trans (q_aload_n dX13_town_78 (mk0 rfl) rfl rfl) ?_
    refine Eq.trans (q_getR (ci := 13) (k := 19) dX13_town_79 (mk0 rfl) rfl) (bind_cg2 fun x79 hx79 => ?_)
    have hx79 := fR_isR hx79
    refine Eq.trans (q_callS (as := [x75, x79]) dX13_town_82 (mk0 rfl) rfl (Or.inl rfl) rfl rfl (Nat.le_of_ble_eq_true rfl) (by simp [eA, ct_i, ct_l, ct_r, ct_n, ct_x, mX13_copies, (cat_R hx75), (cat_R hx79)])) ?_
    refine Eq.trans (cV_bind rfl) (bind_cg fun p82 => ?_)
    show RS (ZZ L xs) (d + 1) mX13_town 85 [some (.ref o), some (.int i1)] [] p82 = _
    refine Eq.trans (q_aload_n dX13_town_85 (mk0 rfl) rfl rfl) ?_
    refine Eq.trans (q_getR (ci := 13) (k := 23) dX13_town_86 (mk0 rfl) rfl) (bind_cg2 fun x86 hx86 => ?_)
    have hx86 := fR_isR hx86
    refine Eq.trans (q_aload_n dX13_town_89 (mk0 rfl) rfl rfl) ?_
    refine Eq.trans (q_getR (ci := 13) (k := 10) dX13_town_90 (mk0 rfl) rfl) (bind_cg2 fun x90 hx90 => ?_)
    have hx90 := fR_isR hx90
    refine Eq.trans (q_callS (as := [x86, x90]) dX13_town_93 (mk0 rfl) rfl (Or.inl rfl) rfl rfl (Nat.le_of_ble_eq_true rfl) (by simp [eA, ct_i, ct_l, ct_r, ct_n, ct_x, mX13_copies, (cat_R hx86), (cat_R hx90)])) ?_
    refine Eq.trans (cV_bind rfl) (bind_cg fun p93 => ?_)
    show RS (ZZ L xs) (d + 1) mX13_town 96 [some (.ref o), some (.int i1)] [] p93 = _
    refine Eq.trans (q_aload_n dX13_town_96 (mk0 rfl) rfl rfl) ?_
    refine Eq.trans (q_getR (ci := 13) (k := 24) dX13_town_97 (mk0 rfl) rfl) (bind_cg2 fun x97 hx97 => ?_)
    have hx97 := fR_isR hx97
    refine Eq.trans (q_aload_n dX13_town_100 (mk0 rfl) rfl rfl) ?_
    refine Eq.trans (q_getR (ci := 13) (k := 11) dX13_town_101 (mk0 rfl) rfl) (bind_cg2 fun x101 hx101 => ?_)
    have hx101 := fR_isR hx101
    refine Eq.trans (q_callS (as := [x97, x101]) dX13_town_104 (mk0 rfl) rfl (Or.inl rfl) rfl rfl (Nat.le_of_ble_eq_true rfl) (by simp [eA, ct_i, ct_l, ct_r, ct_n, ct_x, mX13_copies, (cat_R hx97), (cat_R hx101)])) ?_
    refine Eq.trans (cV_bind rfl) (bind_cg fun p104 => ?_)
    show RS (ZZ L xs) (d + 1) mX13_town 107 [some (.ref o), some (.int i1)] [] p104 = _
    refine Eq.trans (q_aload_n dX13_town_107 (mk0 rfl) rfl rfl) ?_
    refine Eq.trans (q_getR (ci := 13) (k := 25) dX13_town_108 (mk0 rfl) rfl) (bind_cg2 fun x108 hx108 => ?_)
    have hx108 := fR_isR hx108
    refine Eq.trans (q_aload_n dX13_town_111 (mk0 rfl) rfl rfl) ?_
    refine Eq.trans (q_getR (ci := 13) (k := 12) dX13_town_112 (mk0 rfl) rfl) (bind_cg2 fun x112 hx112 => ?_)
    have hx112 := fR_isR hx112
    refine Eq.trans (q_callS (as := [x108, x112]) dX13_town_115 (mk0 rfl) rfl (Or.inl rfl) rfl rfl (Nat.le_of_ble_eq_true rfl) (by simp [eA, ct_i, ct_l, ct_r, ct_n, ct_x, mX13_copies, (cat_R hx108), (cat_R hx112)])) ?_
    refine Eq.trans (cV_bind rfl) (bind_cg fun p115 => ?_)
    show RS (ZZ L xs) (d + 1) mX13_town 118 [some (.ref o), some (.int i1)] [] p115 = _
    refine Eq.trans (q_aload_n dX13_town_118 (mk0 rfl) rfl rfl) ?_
    refine Eq.trans (q_getR (ci := 13) (k := 26) dX13_town_119 (mk0 rfl) rfl) (bind_cg2 fun x119 hx119 => ?_)
    have hx119 := fR_isR hx119
    refine Eq.trans (q_aload_n dX13_town_122 (mk0 rfl) rfl rfl) ?_
    refine Eq.trans (q_getR (ci := 13) (k := 13) dX13_town_123 (mk0 rfl) rfl) (bind_cg2 fun x123 hx123 => ?_)
    have hx123 := fR_isR hx123
    refine Eq.trans (q_callS (as := [x119, x123]) dX13_town_126 (mk0 rfl) rfl (Or.inl rfl) rfl rfl (Nat.le_of_ble_eq_true rfl) (by simp [eA, ct_i, ct_l, ct_r, ct_n, ct_x, mX13_copies, (cat_R hx119), (cat_R hx123)])) ?_
    refine Eq.trans (cV_bind rfl) (bind_cg fun p126 => ?_)
    show RS (ZZ L xs) (d + 1) mX13_town 129 [some (.ref o), some (.int i1)] [] p126 = _
    refine Eq.trans (q_aload_n dX13_town_129 (mk0 rfl) rfl rfl) ?_
    refine Eq.trans (q_callV (as := []) dX13_town_130 (mk0 rfl) rfl rfl rfl (Nat.le_of_ble_eq_true rfl) (Nat.le_of_ble_eq_true rfl)) (bind_cg fun b130 => ?_)
    refine Eq.trans (cV_bind rfl) (bind_cg fun p130 => ?_)
    show RS (ZZ L xs) (d + 1) mX13_town 133 [some (.ref o), some (.int i1)] [] p130 = _
    refine Eq.trans (q_aload_n dX13_town_133 (mk0 rfl) rfl rfl) ?_
    refine Eq.trans (q_iconst (v := 0) dX13_town_134 (mk0 rfl) rfl) ?_
    refine Eq.trans (q_put (ci := 13) (k := 51) (kd := 0) dX13_town_135 (mk0 rfl) rfl rfl (fun h => by cases h)) (bind_cg fun h135 => ?_)
    refine Eq.trans (q_aload_n dX13_town_138 (mk0 rfl) rfl rfl) ?_
    refine Eq.trans (q_getR (ci := 13) (k := 1) dX13_town_139 (mk0 rfl) rfl) (bind_cg2 fun x139 hx139 => ?_)
    have hx139 := fR_isR hx139
    refine Eq.trans (q_iconst (v := 2) dX13_town_142 (mk0 rfl) rfl) ?_
    refine Eq.trans (q_iaload dX13_town_143 (mk0 rfl) (no_ext hx139)) (bind_cg fun x143 => ?_)
    exact q_ireturn dX13_town_144 (mk0 rfl) rfl
  · refine Eq.trans (q_aload_n dX13_town_26 (mk0 rfl) rfl rfl) ?_
    refine Eq.trans (q_getR (ci := 13) (k := 1) dX13_town_27 (mk0 rfl) rfl) (bind_cg2 fun x27 hx27 => ?_)
    have hx27 := fR_isR hx27
    refine Eq.trans (q_iload_n dX13_town_30 (mk0 rfl) rfl) ?_
    refine Eq.trans (q_aload_n dX13_town_31 (mk0 rfl) rfl rfl) ?_
    refine Eq.trans (q_getR (ci := 13) (k := 20) dX13_town_32 (mk0 rfl) rfl) (bind_cg2 fun x32 hx32 => ?_)
    have hx32 := fR_isR hx32
    refine Eq.trans (q_iload_n dX13_town_35 (mk0 rfl) rfl) ?_
    refine Eq.trans (q_iaload dX13_town_36 (mk0 rfl) (no_ext hx32)) (bind_cg fun x36 => ?_)
    refine Eq.trans (q_iastore dX13_town_37 (mk0 rfl)) (bind_cg fun h37 => ?_)
    refine Eq.trans (q_iinc (v := 1) (lv2 := [some (.ref o), some (.int (i1 + 1))]) dX13_town_38 (mk0 rfl) rfl rfl rfl) ?_
    refine Eq.trans (q_goto (t := 21) dX13_town_41 (mk0 rfl) rfl) ?_
    rfl
set_option maxRecDepth 20000 in
theorem bX13_ruleClause_0 {L : Nat} {xs : Nat → Int32} (d : Nat) (o : Nat) (i1 : Int32) (ph : PH) : RS (ZZ L xs) (d + 1) mX13_ruleClause 0 [some (.ref o), some (.int i1), none, none] [] ph = (iO ph (.ref o) 13).bind fun b1 => (cV (ZZ L xs) d mX13_blanks [.ref b1] ph).bind fun p1 => (fI p1 (.ref o) 13 29).bind fun x5 => (iO p1 (.ref o) 13).bind fun b13 => (cI (ZZ L xs) d mX13_stood [.ref b13, .retAddr 16] p1).bind fun p13 => if ¬ (p13.2 : Int32) = 0 then if ¬ (i1 : Int32) = 12 then (fI p13.1 (.ref o) 13 29).bind fun x41 => (fP p13.1 (.ref o) 13 29 (.int (x41 + 3))).bind fun h46 => (fI h46 (.ref o) 13 31).bind fun x52 => (fR h46 (.ref o) 13 42).bind fun x60 => (fI h46 (.ref o) 13 33).bind fun x65 => (wI h46 x60 ((12 * x52) + i1) x65).bind fun h68 => (iO h68 (.ref o) 13).bind fun b70 => (cV (ZZ L xs) d mX13_sum [.ref b70] h68).bind fun p70 => (fR p70 (.ref o) 13 43).bind fun x74 => (fI p70 (.ref o) 13 33).bind fun x79 => (wI p70 x74 ((12 * x52) + i1) x79).bind fun h82 => (fI h82 (.ref o) 13 30).bind fun x84 => if ¬ (x84 : Int32) = 0 then RS (ZZ L xs) (d + 1) mX13_ruleClause 104 [some (.ref o), some (.int i1), some (.int x5), some (.int ((12 * x52) + i1))] [] h82 else (iO h82 (.ref o) 13).bind fun b94 => (cI (ZZ L xs) d mX13_takes [.ref b94, .retAddr 27] h82).bind fun p94 => if (p94.2 : Int32) = 0 then RS (ZZ L xs) (d + 1) mX13_ruleClause 104 [some (.ref o), some (.int i1), some (.int x5), some (.int ((12 * x52) + i1))] [] p94.1 else (iO p94.1 (.ref o) 13).bind fun b101 => (cV (ZZ L xs) d mX13_test [.ref b101] p94.1).bind fun p101 => RS (ZZ L xs) (d + 1) mX13_ruleClause 104 [some (.ref o), some (.int i1), some (.int x5), some (.int ((12 * x52) + i1))] [] p101 else (iO p13.1 (.ref o) 13).bind fun b35 => (cV (ZZ L xs) d mX13_fails [.ref b35, .int 4, .int x5] p13.1).bind fun p35 => some (p35, none) else (iO p13.1 (.ref o) 13).bind fun b22 => (cV (ZZ L xs) d mX13_fails [.ref b22, .int 0, .int x5] p13.1).bind fun p22 => some (p22, none) := by
  refine Eq.trans (q_aload_n dX13_ruleClause_0 (mk0 rfl) rfl rfl) ?_
  refine Eq.trans (q_callV (as := []) dX13_ruleClause_1 (mk0 rfl) rfl rfl rfl (Nat.le_of_ble_eq_true rfl) (Nat.le_of_ble_eq_true rfl)) (bind_cg fun b1 => ?_)
  refine Eq.trans (cV_bind rfl) (bind_cg fun p1 => ?_)
  show RS (ZZ L xs) (d + 1) mX13_ruleClause 4 [some (.ref o), some (.int i1), none, none] [] p1 = _
  refine Eq.trans (q_aload_n dX13_ruleClause_4 (mk0 rfl) rfl rfl) ?_
  refine Eq.trans (q_getI (ci := 13) (k := 29) dX13_ruleClause_5 (mk0 rfl) rfl) (bind_cg fun x5 => ?_)
  refine Eq.trans (q_istore_n (lv2 := [some (.ref o), some (.int i1), some (.int x5), none]) dX13_ruleClause_8 (mk0 rfl) (Nat.le_of_ble_eq_true rfl) rfl) ?_
  refine Eq.trans (q_aload_n dX13_ruleClause_9 (mk0 rfl) rfl rfl) ?_
  refine Eq.trans (q_ldcwS (k := 16) dX13_ruleClause_10 (mk0 rfl) rfl) ?_
  refine Eq.trans (q_callV (as := [.retAddr 16]) dX13_ruleClause_13 (mk0 rfl) rfl rfl rfl (Nat.le_of_ble_eq_true rfl) (Nat.le_of_ble_eq_true rfl)) (bind_cg fun b13 => ?_)
  refine Eq.trans (cI_bind (Or.inr rfl)) (bind_cg fun p13 => ?_)
  show RS (ZZ L xs) (d + 1) mX13_ruleClause 16 [some (.ref o), some (.int i1), some (.int x5), none] [.int p13.2] p13.1 = _
  refine Eq.trans (q_if_ne (t := 26) dX13_ruleClause_16 (mk0 rfl) rfl) (ite_cg ?_ ?_)
  · refine Eq.trans (q_iload_n dX13_ruleClause_26 (mk0 rfl) rfl) ?_
    refine Eq.trans (q_bipush (v := 12) dX13_ruleClause_27 (mk0 rfl) rfl) ?_
    refine Eq.trans (q_icmp_ne (t := 39) dX13_ruleClause_29 (mk0 rfl) rfl) (ite_cg ?_ ?_)
    · refine Eq.trans (q_aload_n dX13_ruleClause_39 (mk0 rfl) rfl rfl) ?_
      refine Eq.trans (q_dup dX13_ruleClause_40 (mk0 rfl) rfl) ?_
      refine Eq.trans (q_getI (ci := 13) (k := 29) dX13_ruleClause_41 (mk0 rfl) rfl) (bind_cg fun x41 => ?_)
      refine Eq.trans (q_iconst (v := 3) dX13_ruleClause_44 (mk0 rfl) rfl) ?_
      refine Eq.trans (q_iadd dX13_ruleClause_45 (mk0 rfl)) ?_
      refine Eq.trans (q_put (ci := 13) (k := 29) (kd := 0) dX13_ruleClause_46 (mk0 rfl) rfl rfl (fun h => by cases h)) (bind_cg fun h46 => ?_)
      refine Eq.trans (q_bipush (v := 12) dX13_ruleClause_49 (mk0 rfl) rfl) ?_
      refine Eq.trans (q_aload_n dX13_ruleClause_51 (mk0 rfl) rfl rfl) ?_
      refine Eq.trans (q_getI (ci := 13) (k := 31) dX13_ruleClause_52 (mk0 rfl) rfl) (bind_cg fun x52 => ?_)
      refine Eq.trans (q_imul dX13_ruleClause_55 (mk0 rfl)) ?_
      refine Eq.trans (q_iload_n dX13_ruleClause_56 (mk0 rfl) rfl) ?_
      refine Eq.trans (q_iadd dX13_ruleClause_57 (mk0 rfl)) ?_
      refine Eq.trans (q_istore_n (lv2 := [some (.ref o), some (.int i1), some (.int x5), some (.int ((12 * x52) + i1))]) dX13_ruleClause_58 (mk0 rfl) (Nat.le_of_ble_eq_true rfl) rfl) ?_
      refine Eq.trans (q_aload_n dX13_ruleClause_59 (mk0 rfl) rfl rfl) ?_
      refine Eq.trans (q_getR (ci := 13) (k := 42) dX13_ruleClause_60 (mk0 rfl) rfl) (bind_cg2 fun x60 hx60 => ?_)
      have hx60 := fR_isR hx60
      refine Eq.trans (q_iload_n dX13_ruleClause_63 (mk0 rfl) rfl) ?_
      refine Eq.trans (q_aload_n dX13_ruleClause_64 (mk0 rfl) rfl rfl) ?_
      refine Eq.trans (q_getI (ci := 13) (k := 33) dX13_ruleClause_65 (mk0 rfl) rfl) (bind_cg fun x65 => ?_)
      refine Eq.trans (q_iastore dX13_ruleClause_68 (mk0 rfl)) (bind_cg fun h68 => ?_)
      refine Eq.trans (q_aload_n dX13_ruleClause_69 (mk0 rfl) rfl rfl) ?_
      refine Eq.trans (q_callV (as := []) dX13_ruleClause_70 (mk0 rfl) rfl rfl rfl (Nat.le_of_ble_eq_true rfl) (Nat.le_of_ble_eq_true rfl)) (bind_cg fun b70 => ?_)
      refine Eq.trans (cV_bind rfl) (bind_cg fun p70 => ?_)
      show RS (ZZ L xs) (d + 1) mX13_ruleClause 73 [some (.ref o), some (.int i1), some (.int x5), some (.int ((12 * x52) + i1))] [] p70 = _
      refine Eq.trans (q_aload_n dX13_ruleClause_73 (mk0 rfl) rfl rfl) ?_
      refine Eq.trans (q_getR (ci := 13) (k := 43) dX13_ruleClause_74 (mk0 rfl) rfl) (bind_cg2 fun x74 hx74 => ?_)
      have hx74 := fR_isR hx74
      refine Eq.trans (q_iload_n dX13_ruleClause_77 (mk0 rfl) rfl) ?_
      refine Eq.trans (q_aload_n dX13_ruleClause_78 (mk0 rfl) rfl rfl) ?_
      refine Eq.trans (q_getI (ci := 13) (k := 33) dX13_ruleClause_79 (mk0 rfl) rfl) (bind_cg fun x79 => ?_)
      refine Eq.trans (q_iastore dX13_ruleClause_82 (mk0 rfl)) (bind_cg fun h82 => ?_)
      refine Eq.trans (q_aload_n dX13_ruleClause_83 (mk0 rfl) rfl rfl) ?_
      refine Eq.trans (q_getI (ci := 13) (k := 30) dX13_ruleClause_84 (mk0 rfl) rfl) (bind_cg fun x84 => ?_)
      refine Eq.trans (q_if_ne (t := 104) dX13_ruleClause_87 (mk0 rfl) rfl) (ite_cg ?_ ?_)
      · rfl
      · refine Eq.trans (q_aload_n dX13_ruleClause_90 (mk0 rfl) rfl rfl) ?_
        refine Eq.trans (q_ldcwS (k := 27) dX13_ruleClause_91 (mk0 rfl) rfl) ?_
        refine Eq.trans (q_callV (as := [.retAddr 27]) dX13_ruleClause_94 (mk0 rfl) rfl rfl rfl (Nat.le_of_ble_eq_true rfl) (Nat.le_of_ble_eq_true rfl)) (bind_cg fun b94 => ?_)
        refine Eq.trans (cI_bind (Or.inr rfl)) (bind_cg fun p94 => ?_)
        show RS (ZZ L xs) (d + 1) mX13_ruleClause 97 [some (.ref o), some (.int i1), some (.int x5), some (.int ((12 * x52) + i1))] [.int p94.2] p94.1 = _
        refine Eq.trans (q_if_eq (t := 104) dX13_ruleClause_97 (mk0 rfl) rfl) (ite_cg ?_ ?_)
        · rfl
        · refine Eq.trans (q_aload_n dX13_ruleClause_100 (mk0 rfl) rfl rfl) ?_
          refine Eq.trans (q_callV (as := []) dX13_ruleClause_101 (mk0 rfl) rfl rfl rfl (Nat.le_of_ble_eq_true rfl) (Nat.le_of_ble_eq_true rfl)) (bind_cg fun b101 => ?_)
          refine Eq.trans (cV_bind rfl) (bind_cg fun p101 => ?_)
          show RS (ZZ L xs) (d + 1) mX13_ruleClause 104 [some (.ref o), some (.int i1), some (.int x5), some (.int ((12 * x52) + i1))] [] p101 = _
          rfl
    · refine Eq.trans (q_aload_n dX13_ruleClause_32 (mk0 rfl) rfl rfl) ?_
      refine Eq.trans (q_iconst (v := 4) dX13_ruleClause_33 (mk0 rfl) rfl) ?_
      refine Eq.trans (q_iload_n dX13_ruleClause_34 (mk0 rfl) rfl) ?_
      refine Eq.trans (q_callV (as := [.int 4, .int x5]) dX13_ruleClause_35 (mk0 rfl) rfl rfl rfl (Nat.le_of_ble_eq_true rfl) (Nat.le_of_ble_eq_true rfl)) (bind_cg fun b35 => ?_)
      refine Eq.trans (cV_bind rfl) (bind_cg fun p35 => ?_)
      show RS (ZZ L xs) (d + 1) mX13_ruleClause 38 [some (.ref o), some (.int i1), some (.int x5), none] [] p35 = _
      exact q_return dX13_ruleClause_38 (mk0 rfl) rfl
  · refine Eq.trans (q_aload_n dX13_ruleClause_19 (mk0 rfl) rfl rfl) ?_
    refine Eq.trans (q_iconst (v := 0) dX13_ruleClause_20 (mk0 rfl) rfl) ?_
    refine Eq.trans (q_iload_n dX13_ruleClause_21 (mk0 rfl) rfl) ?_
    refine Eq.trans (q_callV (as := [.int 0, .int x5]) dX13_ruleClause_22 (mk0 rfl) rfl rfl rfl (Nat.le_of_ble_eq_true rfl) (Nat.le_of_ble_eq_true rfl)) (bind_cg fun b22 => ?_)
    refine Eq.trans (cV_bind rfl) (bind_cg fun p22 => ?_)
    show RS (ZZ L xs) (d + 1) mX13_ruleClause 25 [some (.ref o), some (.int i1), some (.int x5), none] [] p22 = _
    exact q_return dX13_ruleClause_25 (mk0 rfl) rfl
set_option maxRecDepth 20000 in
theorem bX13_ruleClause_104 {L : Nat} {xs : Nat → Int32} (d : Nat) (o : Nat) (u1 : Option Value) (u2 : Option Value) (i3 : Int32) (ph : PH) : RS (ZZ L xs) (d + 1) mX13_ruleClause 104 [some (.ref o), u1, u2, some (.int i3)] [] ph = (fR ph (.ref o) 13 44).bind fun x105 => (fI ph (.ref o) 13 33).bind fun x110 => (wI ph x105 i3 x110).bind fun h113 => some (h113, none) := by
  refine Eq.trans (q_aload_n dX13_ruleClause_104 (show mK mX13_ruleClause 104 [some (.ref o), u1, u2, some (.int i3)] = [some (.ref o), none, none, some (.int i3)] from rfl) rfl rfl) ?_
  refine Eq.trans (q_getR (ci := 13) (k := 44) dX13_ruleClause_105 (mk0 rfl) rfl) (bind_cg2 fun x105 hx105 => ?_)
  have hx105 := fR_isR hx105
  refine Eq.trans (q_iload_n dX13_ruleClause_108 (mk0 rfl) rfl) ?_
  refine Eq.trans (q_aload_n dX13_ruleClause_109 (mk0 rfl) rfl rfl) ?_
  refine Eq.trans (q_getI (ci := 13) (k := 33) dX13_ruleClause_110 (mk0 rfl) rfl) (bind_cg fun x110 => ?_)
  refine Eq.trans (q_iastore dX13_ruleClause_113 (mk0 rfl)) (bind_cg fun h113 => ?_)
  exact q_return dX13_ruleClause_114 (mk0 rfl) rfl
set_option maxRecDepth 20000 in
theorem bX13_rule_0 {L : Nat} {xs : Nat → Int32} (d : Nat) (o : Nat) (ph : PH) : RS (ZZ L xs) (d + 1) mX13_rule 0 [some (.ref o), none, none] [] ph = (fI ph (.ref o) 13 32).bind fun x1 => if ¬ (x1 : Int32) = 6 then (fI ph (.ref o) 13 32).bind fun x13 => (fP ph (.ref o) 13 31 (.int x13)).bind fun h16 => (iO h16 (.ref o) 13).bind fun b20 => (cV (ZZ L xs) d mX13_starts [.ref b20] h16).bind fun p20 => RS (ZZ L xs) (d + 1) mX13_rule 27 [some (.ref o), some (.int 0), some (.int 1)] [] p20 else some (ph, some (.int ((-1)))) := by
  refine Eq.trans (q_aload_n dX13_rule_0 (mk0 rfl) rfl rfl) ?_
  refine Eq.trans (q_getI (ci := 13) (k := 32) dX13_rule_1 (mk0 rfl) rfl) (bind_cg fun x1 => ?_)
  refine Eq.trans (q_bipush (v := 6) dX13_rule_4 (mk0 rfl) rfl) ?_
  refine Eq.trans (q_icmp_ne (t := 11) dX13_rule_6 (mk0 rfl) rfl) (ite_cg ?_ ?_)
  · refine Eq.trans (q_aload_n dX13_rule_11 (mk0 rfl) rfl rfl) ?_
    refine Eq.trans (q_aload_n dX13_rule_12 (mk0 rfl) rfl rfl) ?_
    refine Eq.trans (q_getI (ci := 13) (k := 32) dX13_rule_13 (mk0 rfl) rfl) (bind_cg fun x13 => ?_)
    refine Eq.trans (q_put (ci := 13) (k := 31) (kd := 0) dX13_rule_16 (mk0 rfl) rfl rfl (fun h => by cases h)) (bind_cg fun h16 => ?_)
    refine Eq.trans (q_aload_n dX13_rule_19 (mk0 rfl) rfl rfl) ?_
    refine Eq.trans (q_callV (as := []) dX13_rule_20 (mk0 rfl) rfl rfl rfl (Nat.le_of_ble_eq_true rfl) (Nat.le_of_ble_eq_true rfl)) (bind_cg fun b20 => ?_)
    refine Eq.trans (cV_bind rfl) (bind_cg fun p20 => ?_)
    show RS (ZZ L xs) (d + 1) mX13_rule 23 [some (.ref o), none, none] [] p20 = _
    refine Eq.trans (q_iconst (v := 0) dX13_rule_23 (mk0 rfl) rfl) ?_
    refine Eq.trans (q_istore_n (lv2 := [some (.ref o), some (.int 0), none]) dX13_rule_24 (mk0 rfl) (Nat.le_of_ble_eq_true rfl) rfl) ?_
    refine Eq.trans (q_iconst (v := 1) dX13_rule_25 (mk0 rfl) rfl) ?_
    refine Eq.trans (q_istore_n (lv2 := [some (.ref o), some (.int 0), some (.int 1)]) dX13_rule_26 (mk0 rfl) (Nat.le_of_ble_eq_true rfl) rfl) ?_
    rfl
  · refine Eq.trans (q_iconst (v := (-1)) dX13_rule_9 (mk0 rfl) rfl) ?_
    exact q_ireturn dX13_rule_10 (mk0 rfl) rfl
set_option maxRecDepth 20000 in
theorem bX13_rule_27 {L : Nat} {xs : Nat → Int32} (d : Nat) (o : Nat) (i1 : Int32) (i2 : Int32) (ph : PH) : RS (ZZ L xs) (d + 1) mX13_rule 27 [some (.ref o), some (.int i1), some (.int i2)] [] ph = if (i2 : Int32) = 0 then (fP ph (.ref o) 13 28 (.int 0)).bind fun h49 => (fR h49 (.ref o) 13 41).bind fun x53 => (fI h49 (.ref o) 13 31).bind fun x57 => (wI h49 x53 x57 i1).bind fun h61 => (fI h61 (.ref o) 13 32).bind fun x64 => (fI h61 (.ref o) 13 30).bind fun x68 => if ¬ (x68 : Int32) = 0 then RS (ZZ L xs) (d + 1) mX13_rule 79 [some (.ref o), some (.int i1), some (.int i2)] [.int 0, .int x64, .ref o] h61 else RS (ZZ L xs) (d + 1) mX13_rule 79 [some (.ref o), some (.int i1), some (.int i2)] [.int 1, .int x64, .ref o] h61 else (iO ph (.ref o) 13).bind fun b33 => (cV (ZZ L xs) d mX13_ruleClause [.ref b33, .int i1] ph).bind fun p33 => (iO p33 (.ref o) 13).bind fun b40 => (cI (ZZ L xs) d mX13_goesOn [.ref b40] p33).bind fun p40 => RS (ZZ L xs) (d + 1) mX13_rule 27 [some (.ref o), some (.int (i1 + 1)), some (.int p40.2)] [] p40.1 := by
  refine Eq.trans (q_iload_n dX13_rule_27 (mk0 rfl) rfl) ?_
  refine Eq.trans (q_if_eq (t := 47) dX13_rule_28 (mk0 rfl) rfl) (ite_cg ?_ ?_)
  · refine Eq.trans (q_aload_n dX13_rule_47 (mk0 rfl) rfl rfl) ?_
    refine Eq.trans (q_iconst (v := 0) dX13_rule_48 (mk0 rfl) rfl) ?_
    refine Eq.trans (q_put (ci := 13) (k := 28) (kd := 0) dX13_rule_49 (mk0 rfl) rfl rfl (fun h => by cases h)) (bind_cg fun h49 => ?_)
    refine Eq.trans (q_aload_n dX13_rule_52 (mk0 rfl) rfl rfl) ?_
    refine Eq.trans (q_getR (ci := 13) (k := 41) dX13_rule_53 (mk0 rfl) rfl) (bind_cg2 fun x53 hx53 => ?_)
    have hx53 := fR_isR hx53
    refine Eq.trans (q_aload_n dX13_rule_56 (mk0 rfl) rfl rfl) ?_
    refine Eq.trans (q_getI (ci := 13) (k := 31) dX13_rule_57 (mk0 rfl) rfl) (bind_cg fun x57 => ?_)
    refine Eq.trans (q_iload_n dX13_rule_60 (mk0 rfl) rfl) ?_
    refine Eq.trans (q_iastore dX13_rule_61 (mk0 rfl)) (bind_cg fun h61 => ?_)
    refine Eq.trans (q_aload_n dX13_rule_62 (mk0 rfl) rfl rfl) ?_
    refine Eq.trans (q_dup dX13_rule_63 (mk0 rfl) rfl) ?_
    refine Eq.trans (q_getI (ci := 13) (k := 32) dX13_rule_64 (mk0 rfl) rfl) (bind_cg fun x64 => ?_)
    refine Eq.trans (q_aload_n dX13_rule_67 (mk0 rfl) rfl rfl) ?_
    refine Eq.trans (q_getI (ci := 13) (k := 30) dX13_rule_68 (mk0 rfl) rfl) (bind_cg fun x68 => ?_)
    refine Eq.trans (q_if_ne (t := 78) dX13_rule_71 (mk0 rfl) rfl) (ite_cg ?_ ?_)
    · refine Eq.trans (q_iconst (v := 0) dX13_rule_78 (mk0 rfl) rfl) ?_
      rfl
    · refine Eq.trans (q_iconst (v := 1) dX13_rule_74 (mk0 rfl) rfl) ?_
      refine Eq.trans (q_goto (t := 79) dX13_rule_75 (mk0 rfl) rfl) ?_
      rfl
  · refine Eq.trans (q_aload_n dX13_rule_31 (mk0 rfl) rfl rfl) ?_
    refine Eq.trans (q_iload_n dX13_rule_32 (mk0 rfl) rfl) ?_
    refine Eq.trans (q_callV (as := [.int i1]) dX13_rule_33 (mk0 rfl) rfl rfl rfl (Nat.le_of_ble_eq_true rfl) (Nat.le_of_ble_eq_true rfl)) (bind_cg fun b33 => ?_)
    refine Eq.trans (cV_bind rfl) (bind_cg fun p33 => ?_)
    show RS (ZZ L xs) (d + 1) mX13_rule 36 [some (.ref o), some (.int i1), some (.int i2)] [] p33 = _
    refine Eq.trans (q_iinc (v := 1) (lv2 := [some (.ref o), some (.int (i1 + 1)), some (.int i2)]) dX13_rule_36 (mk0 rfl) rfl rfl rfl) ?_
    refine Eq.trans (q_aload_n dX13_rule_39 (mk0 rfl) rfl rfl) ?_
    refine Eq.trans (q_callV (as := []) dX13_rule_40 (mk0 rfl) rfl rfl rfl (Nat.le_of_ble_eq_true rfl) (Nat.le_of_ble_eq_true rfl)) (bind_cg fun b40 => ?_)
    refine Eq.trans (cI_bind (Or.inr rfl)) (bind_cg fun p40 => ?_)
    show RS (ZZ L xs) (d + 1) mX13_rule 43 [some (.ref o), some (.int (i1 + 1)), some (.int i2)] [.int p40.2] p40.1 = _
    refine Eq.trans (q_istore_n (lv2 := [some (.ref o), some (.int (i1 + 1)), some (.int p40.2)]) dX13_rule_43 (mk0 rfl) (Nat.le_of_ble_eq_true rfl) rfl) ?_
    refine Eq.trans (q_goto (t := 27) dX13_rule_44 (mk0 rfl) rfl) ?_
    rfl
set_option maxRecDepth 20000 in
theorem bX13_rule_79 {L : Nat} {xs : Nat → Int32} (d : Nat) (o : Nat) (u1 : Option Value) (u2 : Option Value) (t0 : Int32) (t1 : Int32) (w2 : Value) (hw2 : isR w2 = true) (ph : PH) : RS (ZZ L xs) (d + 1) mX13_rule 79 [some (.ref o), u1, u2] [.int t0, .int t1, w2] ph = (fP ph w2 13 32 (.int (t1 + t0))).bind fun h80 => (fI h80 (.ref o) 13 30).bind fun x84 => if (x84 : Int32) ≤ 0 then (fI h80 (.ref o) 13 32).bind fun x101 => RS (ZZ L xs) (d + 1) mX13_rule 106 [some (.ref o), none, none] [.int (x101 - 1)] h80 else (fI h80 (.ref o) 13 30).bind fun x93 => RS (ZZ L xs) (d + 1) mX13_rule 106 [some (.ref o), none, none] [.int (((-2)) - x93)] h80 := by
  refine Eq.trans (q_iadd dX13_rule_79 (show mK mX13_rule 79 [some (.ref o), u1, u2] = [some (.ref o), none, none] from rfl)) ?_
  refine Eq.trans (q_put (ci := 13) (k := 32) (kd := 0) dX13_rule_80 (mk0 rfl) rfl rfl (fun h => by cases h)) (bind_cg fun h80 => ?_)
  refine Eq.trans (q_aload_n dX13_rule_83 (mk0 rfl) rfl rfl) ?_
  refine Eq.trans (q_getI (ci := 13) (k := 30) dX13_rule_84 (mk0 rfl) rfl) (bind_cg fun x84 => ?_)
  refine Eq.trans (q_if_le (t := 100) dX13_rule_87 (mk0 rfl) rfl) (ite_cg ?_ ?_)
  · refine Eq.trans (q_aload_n dX13_rule_100 (mk0 rfl) rfl rfl) ?_
    refine Eq.trans (q_getI (ci := 13) (k := 32) dX13_rule_101 (mk0 rfl) rfl) (bind_cg fun x101 => ?_)
    refine Eq.trans (q_iconst (v := 1) dX13_rule_104 (mk0 rfl) rfl) ?_
    refine Eq.trans (q_isub dX13_rule_105 (mk0 rfl)) ?_
    rfl
  · refine Eq.trans (q_bipush (v := (-2)) dX13_rule_90 (mk0 rfl) rfl) ?_
    refine Eq.trans (q_aload_n dX13_rule_92 (mk0 rfl) rfl rfl) ?_
    refine Eq.trans (q_getI (ci := 13) (k := 30) dX13_rule_93 (mk0 rfl) rfl) (bind_cg fun x93 => ?_)
    refine Eq.trans (q_isub dX13_rule_96 (mk0 rfl)) ?_
    refine Eq.trans (q_goto (t := 106) dX13_rule_97 (mk0 rfl) rfl) ?_
    rfl
set_option maxRecDepth 20000 in
theorem bX13_rule_106 {L : Nat} {xs : Nat → Int32} (d : Nat) (u0 : Option Value) (u1 : Option Value) (u2 : Option Value) (t0 : Int32) (ph : PH) : RS (ZZ L xs) (d + 1) mX13_rule 106 [u0, u1, u2] [.int t0] ph = some (ph, some (.int t0)) := by
  exact q_ireturn dX13_rule_106 (show mK mX13_rule 106 [u0, u1, u2] = [none, none, none] from rfl) rfl
set_option maxRecDepth 20000 in
theorem bX13_force_0 {L : Nat} {xs : Nat → Int32} (d : Nat) (o : Nat) (i1 : Int32) (ph : PH) : RS (ZZ L xs) (d + 1) mX13_force 0 [some (.ref o), some (.int i1), none] [] ph = (fI ph (.ref o) 13 32).bind fun x6 => (cI (ZZ L xs) d mX13_in [.long ((i1 : Int32).toInt64), .long ((-1)), .long ((x6 - 1 : Int32).toInt64)] ph).bind fun p12 => if ¬ (p12.2 : Int32) = 0 then (fR p12.1 (.ref o) 13 1).bind fun x22 => (eI p12.1 x22 9).bind fun x27 => (fR p12.1 (.ref o) 13 1).bind fun x30 => (wI p12.1 x30 9 i1).bind fun h36 => some (h36, some (.int x27)) else some (p12.1, some (.int ((-2)))) := by
  refine Eq.trans (q_iload_n dX13_force_0 (mk0 rfl) rfl) ?_
  refine Eq.trans (q_i2l dX13_force_1 (mk0 rfl)) ?_
  refine Eq.trans (q_ldc2 (v := (-1)) dX13_force_2 (mk0 rfl) rfl) ?_
  refine Eq.trans (q_aload_n dX13_force_5 (mk0 rfl) rfl rfl) ?_
  refine Eq.trans (q_getI (ci := 13) (k := 32) dX13_force_6 (mk0 rfl) rfl) (bind_cg fun x6 => ?_)
  refine Eq.trans (q_iconst (v := 1) dX13_force_9 (mk0 rfl) rfl) ?_
  refine Eq.trans (q_isub dX13_force_10 (mk0 rfl)) ?_
  refine Eq.trans (q_i2l dX13_force_11 (mk0 rfl)) ?_
  refine Eq.trans (q_callS (as := [.long ((i1 : Int32).toInt64), .long ((-1)), .long ((x6 - 1 : Int32).toInt64)]) dX13_force_12 (mk0 rfl) rfl (Or.inl rfl) rfl rfl (Nat.le_of_ble_eq_true rfl) (Nat.le_of_ble_eq_true rfl)) ?_
  refine Eq.trans (cI_bind (Or.inr rfl)) (bind_cg fun p12 => ?_)
  show RS (ZZ L xs) (d + 1) mX13_force 15 [some (.ref o), some (.int i1), none] [.int p12.2] p12.1 = _
  refine Eq.trans (q_if_ne (t := 21) dX13_force_15 (mk0 rfl) rfl) (ite_cg ?_ ?_)
  · refine Eq.trans (q_aload_n dX13_force_21 (mk0 rfl) rfl rfl) ?_
    refine Eq.trans (q_getR (ci := 13) (k := 1) dX13_force_22 (mk0 rfl) rfl) (bind_cg2 fun x22 hx22 => ?_)
    have hx22 := fR_isR hx22
    refine Eq.trans (q_bipush (v := 9) dX13_force_25 (mk0 rfl) rfl) ?_
    refine Eq.trans (q_iaload dX13_force_27 (mk0 rfl) (no_ext hx22)) (bind_cg fun x27 => ?_)
    refine Eq.trans (q_istore_n (lv2 := [some (.ref o), some (.int i1), some (.int x27)]) dX13_force_28 (mk0 rfl) (Nat.le_of_ble_eq_true rfl) rfl) ?_
    refine Eq.trans (q_aload_n dX13_force_29 (mk0 rfl) rfl rfl) ?_
    refine Eq.trans (q_getR (ci := 13) (k := 1) dX13_force_30 (mk0 rfl) rfl) (bind_cg2 fun x30 hx30 => ?_)
    have hx30 := fR_isR hx30
    refine Eq.trans (q_bipush (v := 9) dX13_force_33 (mk0 rfl) rfl) ?_
    refine Eq.trans (q_iload_n dX13_force_35 (mk0 rfl) rfl) ?_
    refine Eq.trans (q_iastore dX13_force_36 (mk0 rfl)) (bind_cg fun h36 => ?_)
    refine Eq.trans (q_iload_n dX13_force_37 (mk0 rfl) rfl) ?_
    exact q_ireturn dX13_force_38 (mk0 rfl) rfl
  · refine Eq.trans (q_bipush (v := (-2)) dX13_force_18 (mk0 rfl) rfl) ?_
    exact q_ireturn dX13_force_20 (mk0 rfl) rfl
set_option maxRecDepth 20000 in
theorem bX13_wanted_0 {L : Nat} {xs : Nat → Int32} (d : Nat) (o : Nat) (ph : PH) : RS (ZZ L xs) (d + 1) mX13_wanted 0 [some (.ref o), none, none] [] ph = (fR ph (.ref o) 13 1).bind fun x1 => (eI ph x1 9).bind fun x6 => RS (ZZ L xs) (d + 1) mX13_wanted 13 [some (.ref o), some (.int x6), some (.int (12 * x6))] [] ph := by
  refine Eq.trans (q_aload_n dX13_wanted_0 (mk0 rfl) rfl rfl) ?_
  refine Eq.trans (q_getR (ci := 13) (k := 1) dX13_wanted_1 (mk0 rfl) rfl) (bind_cg2 fun x1 hx1 => ?_)
  have hx1 := fR_isR hx1
  refine Eq.trans (q_bipush (v := 9) dX13_wanted_4 (mk0 rfl) rfl) ?_
  refine Eq.trans (q_iaload dX13_wanted_6 (mk0 rfl) (no_ext hx1)) (bind_cg fun x6 => ?_)
  refine Eq.trans (q_istore_n (lv2 := [some (.ref o), some (.int x6), none]) dX13_wanted_7 (mk0 rfl) (Nat.le_of_ble_eq_true rfl) rfl) ?_
  refine Eq.trans (q_bipush (v := 12) dX13_wanted_8 (mk0 rfl) rfl) ?_
  refine Eq.trans (q_iload_n dX13_wanted_10 (mk0 rfl) rfl) ?_
  refine Eq.trans (q_imul dX13_wanted_11 (mk0 rfl)) ?_
  refine Eq.trans (q_istore_n (lv2 := [some (.ref o), some (.int x6), some (.int (12 * x6))]) dX13_wanted_12 (mk0 rfl) (Nat.le_of_ble_eq_true rfl) rfl) ?_
  rfl
set_option maxRecDepth 20000 in
theorem bX13_wanted_13 {L : Nat} {xs : Nat → Int32} (d : Nat) (o : Nat) (i1 : Int32) (i2 : Int32) (ph : PH) : RS (ZZ L xs) (d + 1) mX13_wanted 13 [some (.ref o), some (.int i1), some (.int i2)] [] ph = (fR ph (.ref o) 13 41).bind fun x19 => (eI ph x19 i1).bind fun x23 => if ((12 * i1) + x23 : Int32) ≤ i2 then some (ph, some (.long 0)) else (fR ph (.ref o) 13 43).bind fun x29 => (eI ph x29 i2).bind fun x33 => (fR ph (.ref o) 13 44).bind fun x35 => (eI ph x35 i2).bind fun x39 => if (x33 : Int32) = x39 then RS (ZZ L xs) (d + 1) mX13_wanted 65 [some (.ref o), some (.int i1), some (.int i2)] [] ph else (fR ph (.ref o) 13 43).bind fun x46 => (eI ph x46 i2).bind fun x50 => (fR ph (.ref o) 13 44).bind fun x52 => (eI ph x52 i2).bind fun x56 => (iO ph (.ref o) 13).bind fun b57 => (cJ (ZZ L xs) d mX13_answer [.ref b57, .int i1, .int x50, .int x56] ph).bind fun p57 => if ¬ (lg_cmp p57.2 1 : Int32) = 0 then RS (ZZ L xs) (d + 1) mX13_wanted 13 [some (.ref o), some (.int i1), some (.int (i2 + 1))] [] p57.1 else RS (ZZ L xs) (d + 1) mX13_wanted 65 [some (.ref o), some (.int i1), some (.int i2)] [] p57.1 := by
  refine Eq.trans (q_iload_n dX13_wanted_13 (mk0 rfl) rfl) ?_
  refine Eq.trans (q_bipush (v := 12) dX13_wanted_14 (mk0 rfl) rfl) ?_
  refine Eq.trans (q_iload_n dX13_wanted_16 (mk0 rfl) rfl) ?_
  refine Eq.trans (q_imul dX13_wanted_17 (mk0 rfl)) ?_
  refine Eq.trans (q_aload_n dX13_wanted_18 (mk0 rfl) rfl rfl) ?_
  refine Eq.trans (q_getR (ci := 13) (k := 41) dX13_wanted_19 (mk0 rfl) rfl) (bind_cg2 fun x19 hx19 => ?_)
  have hx19 := fR_isR hx19
  refine Eq.trans (q_iload_n dX13_wanted_22 (mk0 rfl) rfl) ?_
  refine Eq.trans (q_iaload dX13_wanted_23 (mk0 rfl) (no_ext hx19)) (bind_cg fun x23 => ?_)
  refine Eq.trans (q_iadd dX13_wanted_24 (mk0 rfl)) ?_
  refine Eq.trans (q_icmp_ge (t := 89) dX13_wanted_25 (mk0 rfl) rfl) (ite_cg ?_ ?_)
  · refine Eq.trans (q_lconst (v := 0) dX13_wanted_89 (mk0 rfl) rfl) ?_
    exact q_lreturn dX13_wanted_90 (mk0 rfl) rfl
  · refine Eq.trans (q_aload_n dX13_wanted_28 (mk0 rfl) rfl rfl) ?_
    refine Eq.trans (q_getR (ci := 13) (k := 43) dX13_wanted_29 (mk0 rfl) rfl) (bind_cg2 fun x29 hx29 => ?_)
    have hx29 := fR_isR hx29
    refine Eq.trans (q_iload_n dX13_wanted_32 (mk0 rfl) rfl) ?_
    refine Eq.trans (q_iaload dX13_wanted_33 (mk0 rfl) (no_ext hx29)) (bind_cg fun x33 => ?_)
    refine Eq.trans (q_aload_n dX13_wanted_34 (mk0 rfl) rfl rfl) ?_
    refine Eq.trans (q_getR (ci := 13) (k := 44) dX13_wanted_35 (mk0 rfl) rfl) (bind_cg2 fun x35 hx35 => ?_)
    have hx35 := fR_isR hx35
    refine Eq.trans (q_iload_n dX13_wanted_38 (mk0 rfl) rfl) ?_
    refine Eq.trans (q_iaload dX13_wanted_39 (mk0 rfl) (no_ext hx35)) (bind_cg fun x39 => ?_)
    refine Eq.trans (q_icmp_eq (t := 65) dX13_wanted_40 (mk0 rfl) rfl) (ite_cg ?_ ?_)
    · rfl
    · refine Eq.trans (q_aload_n dX13_wanted_43 (mk0 rfl) rfl rfl) ?_
      refine Eq.trans (q_iload_n dX13_wanted_44 (mk0 rfl) rfl) ?_
      refine Eq.trans (q_aload_n dX13_wanted_45 (mk0 rfl) rfl rfl) ?_
      refine Eq.trans (q_getR (ci := 13) (k := 43) dX13_wanted_46 (mk0 rfl) rfl) (bind_cg2 fun x46 hx46 => ?_)
      have hx46 := fR_isR hx46
      refine Eq.trans (q_iload_n dX13_wanted_49 (mk0 rfl) rfl) ?_
      refine Eq.trans (q_iaload dX13_wanted_50 (mk0 rfl) (no_ext hx46)) (bind_cg fun x50 => ?_)
      refine Eq.trans (q_aload_n dX13_wanted_51 (mk0 rfl) rfl rfl) ?_
      refine Eq.trans (q_getR (ci := 13) (k := 44) dX13_wanted_52 (mk0 rfl) rfl) (bind_cg2 fun x52 hx52 => ?_)
      have hx52 := fR_isR hx52
      refine Eq.trans (q_iload_n dX13_wanted_55 (mk0 rfl) rfl) ?_
      refine Eq.trans (q_iaload dX13_wanted_56 (mk0 rfl) (no_ext hx52)) (bind_cg fun x56 => ?_)
      refine Eq.trans (q_callV (as := [.int i1, .int x50, .int x56]) dX13_wanted_57 (mk0 rfl) rfl rfl rfl (Nat.le_of_ble_eq_true rfl) (Nat.le_of_ble_eq_true rfl)) (bind_cg fun b57 => ?_)
      refine Eq.trans (cJ_bind rfl) (bind_cg fun p57 => ?_)
      show RS (ZZ L xs) (d + 1) mX13_wanted 60 [some (.ref o), some (.int i1), some (.int i2)] [.long p57.2] p57.1 = _
      refine Eq.trans (q_lconst (v := 1) dX13_wanted_60 (mk0 rfl) rfl) ?_
      refine Eq.trans (q_lcmp dX13_wanted_61 (mk0 rfl)) ?_
      refine Eq.trans (q_if_ne (t := 83) dX13_wanted_62 (mk0 rfl) rfl) (ite_cg ?_ ?_)
      · refine Eq.trans (q_iinc (v := 1) (lv2 := [some (.ref o), some (.int i1), some (.int (i2 + 1))]) dX13_wanted_83 (mk0 rfl) rfl rfl rfl) ?_
        refine Eq.trans (q_goto (t := 13) dX13_wanted_86 (mk0 rfl) rfl) ?_
        rfl
      · rfl
set_option maxRecDepth 20000 in
theorem bX13_wanted_65 {L : Nat} {xs : Nat → Int32} (d : Nat) (o : Nat) (i1 : Int32) (i2 : Int32) (ph : PH) : RS (ZZ L xs) (d + 1) mX13_wanted 65 [some (.ref o), some (.int i1), some (.int i2)] [] ph = (fR ph (.ref o) 13 42).bind fun x68 => (eI ph x68 i2).bind fun x72 => (fR ph (.ref o) 13 43).bind fun x74 => (eI ph x74 i2).bind fun x78 => (iO ph (.ref o) 13).bind fun b79 => (cJ (ZZ L xs) d mX13_answer [.ref b79, .int i1, .int x72, .int x78] ph).bind fun p79 => some (p79.1, some (.long p79.2)) := by
  refine Eq.trans (q_aload_n dX13_wanted_65 (mk0 rfl) rfl rfl) ?_
  refine Eq.trans (q_iload_n dX13_wanted_66 (mk0 rfl) rfl) ?_
  refine Eq.trans (q_aload_n dX13_wanted_67 (mk0 rfl) rfl rfl) ?_
  refine Eq.trans (q_getR (ci := 13) (k := 42) dX13_wanted_68 (mk0 rfl) rfl) (bind_cg2 fun x68 hx68 => ?_)
  have hx68 := fR_isR hx68
  refine Eq.trans (q_iload_n dX13_wanted_71 (mk0 rfl) rfl) ?_
  refine Eq.trans (q_iaload dX13_wanted_72 (mk0 rfl) (no_ext hx68)) (bind_cg fun x72 => ?_)
  refine Eq.trans (q_aload_n dX13_wanted_73 (mk0 rfl) rfl rfl) ?_
  refine Eq.trans (q_getR (ci := 13) (k := 43) dX13_wanted_74 (mk0 rfl) rfl) (bind_cg2 fun x74 hx74 => ?_)
  have hx74 := fR_isR hx74
  refine Eq.trans (q_iload_n dX13_wanted_77 (mk0 rfl) rfl) ?_
  refine Eq.trans (q_iaload dX13_wanted_78 (mk0 rfl) (no_ext hx74)) (bind_cg fun x78 => ?_)
  refine Eq.trans (q_callV (as := [.int i1, .int x72, .int x78]) dX13_wanted_79 (mk0 rfl) rfl rfl rfl (Nat.le_of_ble_eq_true rfl) (Nat.le_of_ble_eq_true rfl)) (bind_cg fun b79 => ?_)
  refine Eq.trans (cJ_bind rfl) (bind_cg fun p79 => ?_)
  show RS (ZZ L xs) (d + 1) mX13_wanted 82 [some (.ref o), some (.int i1), some (.int i2)] [.long p79.2] p79.1 = _
  exact q_lreturn dX13_wanted_82 (mk0 rfl) rfl
set_option maxRecDepth 20000 in
theorem bX13_truth_0 {L : Nat} {xs : Nat → Int32} (d : Nat) (i0 : Int32) (ph : PH) : RS (ZZ L xs) (d + 1) mX13_truth 0 [some (.int i0)] [] ph = if (i0 : Int32) = 0 then RS (ZZ L xs) (d + 1) mX13_truth 9 [some (.int i0)] [.long 0] ph else RS (ZZ L xs) (d + 1) mX13_truth 9 [some (.int i0)] [.long 1] ph := by
  refine Eq.trans (q_iload_n dX13_truth_0 (mk0 rfl) rfl) ?_
  refine Eq.trans (q_if_eq (t := 8) dX13_truth_1 (mk0 rfl) rfl) (ite_cg ?_ ?_)
  · refine Eq.trans (q_lconst (v := 0) dX13_truth_8 (mk0 rfl) rfl) ?_
    rfl
  · refine Eq.trans (q_lconst (v := 1) dX13_truth_4 (mk0 rfl) rfl) ?_
    refine Eq.trans (q_goto (t := 9) dX13_truth_5 (mk0 rfl) rfl) ?_
    rfl
set_option maxRecDepth 20000 in
theorem bX13_truth_9 {L : Nat} {xs : Nat → Int32} (d : Nat) (u0 : Option Value) (t0 : Int64) (ph : PH) : RS (ZZ L xs) (d + 1) mX13_truth 9 [u0] [.long t0] ph = some (ph, some (.long t0)) := by
  exact q_lreturn dX13_truth_9 (show mK mX13_truth 9 [u0] = [none] from rfl) rfl
set_option maxRecDepth 20000 in
theorem bX13_both_0 {L : Nat} {xs : Nat → Int32} (d : Nat) (i0 : Int32) (l1 : Int64) (l3 : Int64) (ph : PH) : RS (ZZ L xs) (d + 1) mX13_both 0 [some (.int i0), some (.long l1), none, some (.long l3), none] [] ph = if (i0 : Int32) = 2 then RS (ZZ L xs) (d + 1) mX13_both 72 [some (.int i0), some (.long l1), none, some (.long l3), none] [] ph else if (i0 : Int32) = 3 then RS (ZZ L xs) (d + 1) mX13_both 76 [some (.int i0), some (.long l1), none, some (.long l3), none] [] ph else if (i0 : Int32) = 4 then RS (ZZ L xs) (d + 1) mX13_both 112 [some (.int i0), some (.long l1), none, some (.long l3), none] [] ph else if (i0 : Int32) = 5 then RS (ZZ L xs) (d + 1) mX13_both 127 [some (.int i0), some (.long l1), none, some (.long l3), none] [] ph else if (i0 : Int32) = 6 then RS (ZZ L xs) (d + 1) mX13_both 142 [some (.int i0), some (.long l1), none, some (.long l3), none] [] ph else if (i0 : Int32) = 7 then RS (ZZ L xs) (d + 1) mX13_both 157 [some (.int i0), some (.long l1), none, some (.long l3), none] [] ph else if (i0 : Int32) = 8 then RS (ZZ L xs) (d + 1) mX13_both 172 [some (.int i0), some (.long l1), none, some (.long l3), none] [] ph else if (i0 : Int32) = 9 then RS (ZZ L xs) (d + 1) mX13_both 191 [some (.int i0), some (.long l1), none, some (.long l3), none] [] ph else if (i0 : Int32) = 10 then RS (ZZ L xs) (d + 1) mX13_both 187 [some (.int i0), some (.long l1), none, some (.long l3), none] [] ph else if (i0 : Int32) = 11 then RS (ZZ L xs) (d + 1) mX13_both 191 [some (.int i0), some (.long l1), none, some (.long l3), none] [] ph else if (i0 : Int32) = 12 then RS (ZZ L xs) (d + 1) mX13_both 191 [some (.int i0), some (.long l1), none, some (.long l3), none] [] ph else if (i0 : Int32) = 13 then RS (ZZ L xs) (d + 1) mX13_both 80 [some (.int i0), some (.long l1), none, some (.long l3), none] [] ph else if (i0 : Int32) = 14 then RS (ZZ L xs) (d + 1) mX13_both 84 [some (.int i0), some (.long l1), none, some (.long l3), none] [] ph else if (i0 : Int32) = 15 then RS (ZZ L xs) (d + 1) mX13_both 98 [some (.int i0), some (.long l1), none, some (.long l3), none] [] ph else RS (ZZ L xs) (d + 1) mX13_both 191 [some (.int i0), some (.long l1), none, some (.long l3), none] [] ph := by
  refine Eq.trans (q_iload_n dX13_both_0 (mk0 rfl) rfl) ?_
  refine Eq.trans (q_tableswitch dX13_both_1 (mk0 rfl)) ?_
  generalize (i0 : Int32) = y1
  by_cases hy2 : y1 = 2
  · rw [if_pos hy2, hy2]; rfl
  rw [if_neg hy2]
  by_cases hy3 : y1 = 3
  · rw [if_pos hy3, hy3]; rfl
  rw [if_neg hy3]
  by_cases hy4 : y1 = 4
  · rw [if_pos hy4, hy4]; rfl
  rw [if_neg hy4]
  by_cases hy5 : y1 = 5
  · rw [if_pos hy5, hy5]; rfl
  rw [if_neg hy5]
  by_cases hy6 : y1 = 6
  · rw [if_pos hy6, hy6]; rfl
  rw [if_neg hy6]
  by_cases hy7 : y1 = 7
  · rw [if_pos hy7, hy7]; rfl
  rw [if_neg hy7]
  by_cases hy8 : y1 = 8
  · rw [if_pos hy8, hy8]; rfl
  rw [if_neg hy8]
  by_cases hy9 : y1 = 9
  · rw [if_pos hy9, hy9]; rfl
  rw [if_neg hy9]
  by_cases hy10 : y1 = 10
  · rw [if_pos hy10, hy10]; rfl
  rw [if_neg hy10]
  by_cases hy11 : y1 = 11
  · rw [if_pos hy11, hy11]; rfl
  rw [if_neg hy11]
  by_cases hy12 : y1 = 12
  · rw [if_pos hy12, hy12]; rfl
  rw [if_neg hy12]
  by_cases hy13 : y1 = 13
  · rw [if_pos hy13, hy13]; rfl
  rw [if_neg hy13]
  by_cases hy14 : y1 = 14
  · rw [if_pos hy14, hy14]; rfl
  rw [if_neg hy14]
  by_cases hy15 : y1 = 15
  · rw [if_pos hy15, hy15]; rfl
  rw [if_neg hy15]
  have ny2 := i32_ne hy2 (n := 2) rfl
  have ny3 := i32_ne hy3 (n := 3) rfl
  have ny4 := i32_ne hy4 (n := 4) rfl
  have ny5 := i32_ne hy5 (n := 5) rfl
  have ny6 := i32_ne hy6 (n := 6) rfl
  have ny7 := i32_ne hy7 (n := 7) rfl
  have ny8 := i32_ne hy8 (n := 8) rfl
  have ny9 := i32_ne hy9 (n := 9) rfl
  have ny10 := i32_ne hy10 (n := 10) rfl
  have ny11 := i32_ne hy11 (n := 11) rfl
  have ny12 := i32_ne hy12 (n := 12) rfl
  have ny13 := i32_ne hy13 (n := 13) rfl
  have ny14 := i32_ne hy14 (n := 14) rfl
  have ny15 := i32_ne hy15 (n := 15) rfl
  rw [sw_out (t := 191) (by omega) rfl]
  rfl
set_option maxRecDepth 20000 in
theorem bX13_both_72 {L : Nat} {xs : Nat → Int32} (d : Nat) (u0 : Option Value) (l1 : Int64) (l3 : Int64) (ph : PH) : RS (ZZ L xs) (d + 1) mX13_both 72 [u0, some (.long l1), none, some (.long l3), none] [] ph = some (ph, some (.long (l1 + l3))) := by
  refine Eq.trans (q_lload_n dX13_both_72 (show mK mX13_both 72 [u0, some (.long l1), none, some (.long l3), none] = [none, some (.long l1), none, some (.long l3), none] from rfl) rfl) ?_
  refine Eq.trans (q_lload_n dX13_both_73 (mk0 rfl) rfl) ?_
  refine Eq.trans (q_ladd dX13_both_74 (mk0 rfl)) ?_
  exact q_lreturn dX13_both_75 (mk0 rfl) rfl
set_option maxRecDepth 20000 in
theorem bX13_both_76 {L : Nat} {xs : Nat → Int32} (d : Nat) (u0 : Option Value) (l1 : Int64) (l3 : Int64) (ph : PH) : RS (ZZ L xs) (d + 1) mX13_both 76 [u0, some (.long l1), none, some (.long l3), none] [] ph = some (ph, some (.long (l1 - l3))) := by
  refine Eq.trans (q_lload_n dX13_both_76 (show mK mX13_both 76 [u0, some (.long l1), none, some (.long l3), none] = [none, some (.long l1), none, some (.long l3), none] from rfl) rfl) ?_
  refine Eq.trans (q_lload_n dX13_both_77 (mk0 rfl) rfl) ?_
  refine Eq.trans (q_lsub dX13_both_78 (mk0 rfl)) ?_
  exact q_lreturn dX13_both_79 (mk0 rfl) rfl
set_option maxRecDepth 20000 in
theorem bX13_both_80 {L : Nat} {xs : Nat → Int32} (d : Nat) (u0 : Option Value) (l1 : Int64) (l3 : Int64) (ph : PH) : RS (ZZ L xs) (d + 1) mX13_both 80 [u0, some (.long l1), none, some (.long l3), none] [] ph = some (ph, some (.long (l1 * l3))) := by
  refine Eq.trans (q_lload_n dX13_both_80 (show mK mX13_both 80 [u0, some (.long l1), none, some (.long l3), none] = [none, some (.long l1), none, some (.long l3), none] from rfl) rfl) ?_
  refine Eq.trans (q_lload_n dX13_both_81 (mk0 rfl) rfl) ?_
  refine Eq.trans (q_lmul dX13_both_82 (mk0 rfl)) ?_
  exact q_lreturn dX13_both_83 (mk0 rfl) rfl
set_option maxRecDepth 20000 in
theorem bX13_both_84 {L : Nat} {xs : Nat → Int32} (d : Nat) (u0 : Option Value) (l1 : Int64) (l3 : Int64) (ph : PH) : RS (ZZ L xs) (d + 1) mX13_both 84 [u0, some (.long l1), none, some (.long l3), none] [] ph = if ¬ (lg_cmp l3 0 : Int32) = 0 then if (l3 : Int64) = 0 then none else RS (ZZ L xs) (d + 1) mX13_both 97 [none, some (.long l1), none, some (.long l3), none] [.long (l1 / l3)] ph else RS (ZZ L xs) (d + 1) mX13_both 97 [none, some (.long l1), none, some (.long l3), none] [.long 0] ph := by
  refine Eq.trans (q_lload_n dX13_both_84 (show mK mX13_both 84 [u0, some (.long l1), none, some (.long l3), none] = [none, some (.long l1), none, some (.long l3), none] from rfl) rfl) ?_
  refine Eq.trans (q_lconst (v := 0) dX13_both_85 (mk0 rfl) rfl) ?_
  refine Eq.trans (q_lcmp dX13_both_86 (mk0 rfl)) ?_
  refine Eq.trans (q_if_ne (t := 94) dX13_both_87 (mk0 rfl) rfl) (ite_cg ?_ ?_)
  · refine Eq.trans (q_lload_n dX13_both_94 (mk0 rfl) rfl) ?_
    refine Eq.trans (q_lload_n dX13_both_95 (mk0 rfl) rfl) ?_
    refine Eq.trans (q_ldiv dX13_both_96 (mk0 rfl)) (ite_cg rfl ?_)
    rfl
  · refine Eq.trans (q_lconst (v := 0) dX13_both_90 (mk0 rfl) rfl) ?_
    refine Eq.trans (q_goto (t := 97) dX13_both_91 (mk0 rfl) rfl) ?_
    rfl
set_option maxRecDepth 20000 in
theorem bX13_both_97 {L : Nat} {xs : Nat → Int32} (d : Nat) (u0 : Option Value) (u1 : Option Value) (u2 : Option Value) (u3 : Option Value) (u4 : Option Value) (t0 : Int64) (ph : PH) : RS (ZZ L xs) (d + 1) mX13_both 97 [u0, u1, u2, u3, u4] [.long t0] ph = some (ph, some (.long t0)) := by
  exact q_lreturn dX13_both_97 (show mK mX13_both 97 [u0, u1, u2, u3, u4] = [none, none, none, none, none] from rfl) rfl
set_option maxRecDepth 20000 in
theorem bX13_both_98 {L : Nat} {xs : Nat → Int32} (d : Nat) (u0 : Option Value) (l1 : Int64) (l3 : Int64) (ph : PH) : RS (ZZ L xs) (d + 1) mX13_both 98 [u0, some (.long l1), none, some (.long l3), none] [] ph = if ¬ (lg_cmp l3 0 : Int32) = 0 then if (l3 : Int64) = 0 then none else RS (ZZ L xs) (d + 1) mX13_both 111 [none, some (.long l1), none, some (.long l3), none] [.long (lRem l1 l3)] ph else RS (ZZ L xs) (d + 1) mX13_both 111 [none, some (.long l1), none, some (.long l3), none] [.long 0] ph := by
  refine Eq.trans (q_lload_n dX13_both_98 (show mK mX13_both 98 [u0, some (.long l1), none, some (.long l3), none] = [none, some (.long l1), none, some (.long l3), none] from rfl) rfl) ?_
  refine Eq.trans (q_lconst (v := 0) dX13_both_99 (mk0 rfl) rfl) ?_
  refine Eq.trans (q_lcmp dX13_both_100 (mk0 rfl)) ?_
  refine Eq.trans (q_if_ne (t := 108) dX13_both_101 (mk0 rfl) rfl) (ite_cg ?_ ?_)
  · refine Eq.trans (q_lload_n dX13_both_108 (mk0 rfl) rfl) ?_
    refine Eq.trans (q_lload_n dX13_both_109 (mk0 rfl) rfl) ?_
    refine Eq.trans (q_lrem dX13_both_110 (mk0 rfl)) (ite_cg rfl ?_)
    rfl
  · refine Eq.trans (q_lconst (v := 0) dX13_both_104 (mk0 rfl) rfl) ?_
    refine Eq.trans (q_goto (t := 111) dX13_both_105 (mk0 rfl) rfl) ?_
    rfl
set_option maxRecDepth 20000 in
theorem bX13_both_111 {L : Nat} {xs : Nat → Int32} (d : Nat) (u0 : Option Value) (u1 : Option Value) (u2 : Option Value) (u3 : Option Value) (u4 : Option Value) (t0 : Int64) (ph : PH) : RS (ZZ L xs) (d + 1) mX13_both 111 [u0, u1, u2, u3, u4] [.long t0] ph = some (ph, some (.long t0)) := by
  exact q_lreturn dX13_both_111 (show mK mX13_both 111 [u0, u1, u2, u3, u4] = [none, none, none, none, none] from rfl) rfl
set_option maxRecDepth 20000 in
theorem bX13_both_112 {L : Nat} {xs : Nat → Int32} (d : Nat) (u0 : Option Value) (l1 : Int64) (l3 : Int64) (ph : PH) : RS (ZZ L xs) (d + 1) mX13_both 112 [u0, some (.long l1), none, some (.long l3), none] [] ph = if (0 : Int32) ≤ lg_cmp l1 l3 then RS (ZZ L xs) (d + 1) mX13_both 123 [none, some (.long l1), none, some (.long l3), none] [.int 0] ph else RS (ZZ L xs) (d + 1) mX13_both 123 [none, some (.long l1), none, some (.long l3), none] [.int 1] ph := by
  refine Eq.trans (q_lload_n dX13_both_112 (show mK mX13_both 112 [u0, some (.long l1), none, some (.long l3), none] = [none, some (.long l1), none, some (.long l3), none] from rfl) rfl) ?_
  refine Eq.trans (q_lload_n dX13_both_113 (mk0 rfl) rfl) ?_
  refine Eq.trans (q_lcmp dX13_both_114 (mk0 rfl)) ?_
  refine Eq.trans (q_if_ge (t := 122) dX13_both_115 (mk0 rfl) rfl) (ite_cg ?_ ?_)
  · refine Eq.trans (q_iconst (v := 0) dX13_both_122 (mk0 rfl) rfl) ?_
    rfl
  · refine Eq.trans (q_iconst (v := 1) dX13_both_118 (mk0 rfl) rfl) ?_
    refine Eq.trans (q_goto (t := 123) dX13_both_119 (mk0 rfl) rfl) ?_
    rfl
set_option maxRecDepth 20000 in
theorem bX13_both_123 {L : Nat} {xs : Nat → Int32} (d : Nat) (u0 : Option Value) (u1 : Option Value) (u2 : Option Value) (u3 : Option Value) (u4 : Option Value) (t0 : Int32) (ph : PH) : RS (ZZ L xs) (d + 1) mX13_both 123 [u0, u1, u2, u3, u4] [.int t0] ph = (cJ (ZZ L xs) d mX13_truth [.int t0] ph).bind fun p123 => some (p123.1, some (.long p123.2)) := by
  refine Eq.trans (q_callS (as := [.int t0]) dX13_both_123 (show mK mX13_both 123 [u0, u1, u2, u3, u4] = [none, none, none, none, none] from rfl) rfl (Or.inl rfl) rfl rfl (Nat.le_of_ble_eq_true rfl) (Nat.le_of_ble_eq_true rfl)) ?_
  refine Eq.trans (cJ_bind rfl) (bind_cg fun p123 => ?_)
  show RS (ZZ L xs) (d + 1) mX13_both 126 [none, none, none, none, none] [.long p123.2] p123.1 = _
  exact q_lreturn dX13_both_126 (mk0 rfl) rfl
set_option maxRecDepth 20000 in
theorem bX13_both_127 {L : Nat} {xs : Nat → Int32} (d : Nat) (u0 : Option Value) (l1 : Int64) (l3 : Int64) (ph : PH) : RS (ZZ L xs) (d + 1) mX13_both 127 [u0, some (.long l1), none, some (.long l3), none] [] ph = if (0 : Int32) < lg_cmp l1 l3 then RS (ZZ L xs) (d + 1) mX13_both 138 [none, some (.long l1), none, some (.long l3), none] [.int 0] ph else RS (ZZ L xs) (d + 1) mX13_both 138 [none, some (.long l1), none, some (.long l3), none] [.int 1] ph := by
  refine Eq.trans (q_lload_n dX13_both_127 (show mK mX13_both 127 [u0, some (.long l1), none, some (.long l3), none] = [none, some (.long l1), none, some (.long l3), none] from rfl) rfl) ?_
  refine Eq.trans (q_lload_n dX13_both_128 (mk0 rfl) rfl) ?_
  refine Eq.trans (q_lcmp dX13_both_129 (mk0 rfl)) ?_
  refine Eq.trans (q_if_gt (t := 137) dX13_both_130 (mk0 rfl) rfl) (ite_cg ?_ ?_)
  · refine Eq.trans (q_iconst (v := 0) dX13_both_137 (mk0 rfl) rfl) ?_
    rfl
  · refine Eq.trans (q_iconst (v := 1) dX13_both_133 (mk0 rfl) rfl) ?_
    refine Eq.trans (q_goto (t := 138) dX13_both_134 (mk0 rfl) rfl) ?_
    rfl
set_option maxRecDepth 20000 in
theorem bX13_both_138 {L : Nat} {xs : Nat → Int32} (d : Nat) (u0 : Option Value) (u1 : Option Value) (u2 : Option Value) (u3 : Option Value) (u4 : Option Value) (t0 : Int32) (ph : PH) : RS (ZZ L xs) (d + 1) mX13_both 138 [u0, u1, u2, u3, u4] [.int t0] ph = (cJ (ZZ L xs) d mX13_truth [.int t0] ph).bind fun p138 => some (p138.1, some (.long p138.2)) := by
  refine Eq.trans (q_callS (as := [.int t0]) dX13_both_138 (show mK mX13_both 138 [u0, u1, u2, u3, u4] = [none, none, none, none, none] from rfl) rfl (Or.inl rfl) rfl rfl (Nat.le_of_ble_eq_true rfl) (Nat.le_of_ble_eq_true rfl)) ?_
  refine Eq.trans (cJ_bind rfl) (bind_cg fun p138 => ?_)
  show RS (ZZ L xs) (d + 1) mX13_both 141 [none, none, none, none, none] [.long p138.2] p138.1 = _
  exact q_lreturn dX13_both_141 (mk0 rfl) rfl
set_option maxRecDepth 20000 in
theorem bX13_both_142 {L : Nat} {xs : Nat → Int32} (d : Nat) (u0 : Option Value) (l1 : Int64) (l3 : Int64) (ph : PH) : RS (ZZ L xs) (d + 1) mX13_both 142 [u0, some (.long l1), none, some (.long l3), none] [] ph = if ¬ (lg_cmp l1 l3 : Int32) = 0 then RS (ZZ L xs) (d + 1) mX13_both 153 [none, some (.long l1), none, some (.long l3), none] [.int 0] ph else RS (ZZ L xs) (d + 1) mX13_both 153 [none, some (.long l1), none, some (.long l3), none] [.int 1] ph := by
  refine Eq.trans (q_lload_n dX13_both_142 (show mK mX13_both 142 [u0, some (.long l1), none, some (.long l3), none] = [none, some (.long l1), none, some (.long l3), none] from rfl) rfl) ?_
  refine Eq.trans (q_lload_n dX13_both_143 (mk0 rfl) rfl) ?_
  refine Eq.trans (q_lcmp dX13_both_144 (mk0 rfl)) ?_
  refine Eq.trans (q_if_ne (t := 152) dX13_both_145 (mk0 rfl) rfl) (ite_cg ?_ ?_)
  · refine Eq.trans (q_iconst (v := 0) dX13_both_152 (mk0 rfl) rfl) ?_
    rfl
  · refine Eq.trans (q_iconst (v := 1) dX13_both_148 (mk0 rfl) rfl) ?_
    refine Eq.trans (q_goto (t := 153) dX13_both_149 (mk0 rfl) rfl) ?_
    rfl
set_option maxRecDepth 20000 in
theorem bX13_both_153 {L : Nat} {xs : Nat → Int32} (d : Nat) (u0 : Option Value) (u1 : Option Value) (u2 : Option Value) (u3 : Option Value) (u4 : Option Value) (t0 : Int32) (ph : PH) : RS (ZZ L xs) (d + 1) mX13_both 153 [u0, u1, u2, u3, u4] [.int t0] ph = (cJ (ZZ L xs) d mX13_truth [.int t0] ph).bind fun p153 => some (p153.1, some (.long p153.2)) := by
  refine Eq.trans (q_callS (as := [.int t0]) dX13_both_153 (show mK mX13_both 153 [u0, u1, u2, u3, u4] = [none, none, none, none, none] from rfl) rfl (Or.inl rfl) rfl rfl (Nat.le_of_ble_eq_true rfl) (Nat.le_of_ble_eq_true rfl)) ?_
  refine Eq.trans (cJ_bind rfl) (bind_cg fun p153 => ?_)
  show RS (ZZ L xs) (d + 1) mX13_both 156 [none, none, none, none, none] [.long p153.2] p153.1 = _
  exact q_lreturn dX13_both_156 (mk0 rfl) rfl
set_option maxRecDepth 20000 in
theorem bX13_both_157 {L : Nat} {xs : Nat → Int32} (d : Nat) (u0 : Option Value) (l1 : Int64) (l3 : Int64) (ph : PH) : RS (ZZ L xs) (d + 1) mX13_both 157 [u0, some (.long l1), none, some (.long l3), none] [] ph = if (lg_cmp l1 l3 : Int32) < 0 then RS (ZZ L xs) (d + 1) mX13_both 168 [none, some (.long l1), none, some (.long l3), none] [.int 0] ph else RS (ZZ L xs) (d + 1) mX13_both 168 [none, some (.long l1), none, some (.long l3), none] [.int 1] ph := by
  refine Eq.trans (q_lload_n dX13_both_157 (show mK mX13_both 157 [u0, some (.long l1), none, some (.long l3), none] = [none, some (.long l1), none, some (.long l3), none] from rfl) rfl) ?_
  refine Eq.trans (q_lload_n dX13_both_158 (mk0 rfl) rfl) ?_
  refine Eq.trans (q_lcmp dX13_both_159 (mk0 rfl)) ?_
  refine Eq.trans (q_if_lt (t := 167) dX13_both_160 (mk0 rfl) rfl) (ite_cg ?_ ?_)
  · refine Eq.trans (q_iconst (v := 0) dX13_both_167 (mk0 rfl) rfl) ?_
    rfl
  · refine Eq.trans (q_iconst (v := 1) dX13_both_163 (mk0 rfl) rfl) ?_
    refine Eq.trans (q_goto (t := 168) dX13_both_164 (mk0 rfl) rfl) ?_
    rfl
set_option maxRecDepth 20000 in
theorem bX13_both_168 {L : Nat} {xs : Nat → Int32} (d : Nat) (u0 : Option Value) (u1 : Option Value) (u2 : Option Value) (u3 : Option Value) (u4 : Option Value) (t0 : Int32) (ph : PH) : RS (ZZ L xs) (d + 1) mX13_both 168 [u0, u1, u2, u3, u4] [.int t0] ph = (cJ (ZZ L xs) d mX13_truth [.int t0] ph).bind fun p168 => some (p168.1, some (.long p168.2)) := by
  refine Eq.trans (q_callS (as := [.int t0]) dX13_both_168 (show mK mX13_both 168 [u0, u1, u2, u3, u4] = [none, none, none, none, none] from rfl) rfl (Or.inl rfl) rfl rfl (Nat.le_of_ble_eq_true rfl) (Nat.le_of_ble_eq_true rfl)) ?_
  refine Eq.trans (cJ_bind rfl) (bind_cg fun p168 => ?_)
  show RS (ZZ L xs) (d + 1) mX13_both 171 [none, none, none, none, none] [.long p168.2] p168.1 = _
  exact q_lreturn dX13_both_171 (mk0 rfl) rfl
set_option maxRecDepth 20000 in
theorem bX13_both_172 {L : Nat} {xs : Nat → Int32} (d : Nat) (u0 : Option Value) (l1 : Int64) (l3 : Int64) (ph : PH) : RS (ZZ L xs) (d + 1) mX13_both 172 [u0, some (.long l1), none, some (.long l3), none] [] ph = if (lg_cmp l1 l3 : Int32) ≤ 0 then RS (ZZ L xs) (d + 1) mX13_both 183 [none, some (.long l1), none, some (.long l3), none] [.int 0] ph else RS (ZZ L xs) (d + 1) mX13_both 183 [none, some (.long l1), none, some (.long l3), none] [.int 1] ph := by
  refine Eq.trans (q_lload_n dX13_both_172 (show mK mX13_both 172 [u0, some (.long l1), none, some (.long l3), none] = [none, some (.long l1), none, some (.long l3), none] from rfl) rfl) ?_
  refine Eq.trans (q_lload_n dX13_both_173 (mk0 rfl) rfl) ?_
  refine Eq.trans (q_lcmp dX13_both_174 (mk0 rfl)) ?_
  refine Eq.trans (q_if_le (t := 182) dX13_both_175 (mk0 rfl) rfl) (ite_cg ?_ ?_)
  · refine Eq.trans (q_iconst (v := 0) dX13_both_182 (mk0 rfl) rfl) ?_
    rfl
  · refine Eq.trans (q_iconst (v := 1) dX13_both_178 (mk0 rfl) rfl) ?_
    refine Eq.trans (q_goto (t := 183) dX13_both_179 (mk0 rfl) rfl) ?_
    rfl
set_option maxRecDepth 20000 in
theorem bX13_both_183 {L : Nat} {xs : Nat → Int32} (d : Nat) (u0 : Option Value) (u1 : Option Value) (u2 : Option Value) (u3 : Option Value) (u4 : Option Value) (t0 : Int32) (ph : PH) : RS (ZZ L xs) (d + 1) mX13_both 183 [u0, u1, u2, u3, u4] [.int t0] ph = (cJ (ZZ L xs) d mX13_truth [.int t0] ph).bind fun p183 => some (p183.1, some (.long p183.2)) := by
  refine Eq.trans (q_callS (as := [.int t0]) dX13_both_183 (show mK mX13_both 183 [u0, u1, u2, u3, u4] = [none, none, none, none, none] from rfl) rfl (Or.inl rfl) rfl rfl (Nat.le_of_ble_eq_true rfl) (Nat.le_of_ble_eq_true rfl)) ?_
  refine Eq.trans (cJ_bind rfl) (bind_cg fun p183 => ?_)
  show RS (ZZ L xs) (d + 1) mX13_both 186 [none, none, none, none, none] [.long p183.2] p183.1 = _
  exact q_lreturn dX13_both_186 (mk0 rfl) rfl
set_option maxRecDepth 20000 in
theorem bX13_both_187 {L : Nat} {xs : Nat → Int32} (d : Nat) (u0 : Option Value) (l1 : Int64) (l3 : Int64) (ph : PH) : RS (ZZ L xs) (d + 1) mX13_both 187 [u0, some (.long l1), none, some (.long l3), none] [] ph = some (ph, some (.long (l1 &&& l3))) := by
  refine Eq.trans (q_lload_n dX13_both_187 (show mK mX13_both 187 [u0, some (.long l1), none, some (.long l3), none] = [none, some (.long l1), none, some (.long l3), none] from rfl) rfl) ?_
  refine Eq.trans (q_lload_n dX13_both_188 (mk0 rfl) rfl) ?_
  refine Eq.trans (q_land dX13_both_189 (mk0 rfl)) ?_
  exact q_lreturn dX13_both_190 (mk0 rfl) rfl
set_option maxRecDepth 20000 in
theorem bX13_both_191 {L : Nat} {xs : Nat → Int32} (d : Nat) (u0 : Option Value) (l1 : Int64) (l3 : Int64) (ph : PH) : RS (ZZ L xs) (d + 1) mX13_both 191 [u0, some (.long l1), none, some (.long l3), none] [] ph = some (ph, some (.long (l1 ||| l3))) := by
  refine Eq.trans (q_lload_n dX13_both_191 (show mK mX13_both 191 [u0, some (.long l1), none, some (.long l3), none] = [none, some (.long l1), none, some (.long l3), none] from rfl) rfl) ?_
  refine Eq.trans (q_lload_n dX13_both_192 (mk0 rfl) rfl) ?_
  refine Eq.trans (q_lor dX13_both_193 (mk0 rfl)) ?_
  exact q_lreturn dX13_both_194 (mk0 rfl) rfl
set_option maxRecDepth 20000 in
theorem bX13_answer_0 {L : Nat} {xs : Nat → Int32} (d : Nat) (o : Nat) (i1 : Int32) (i2 : Int32) (i3 : Int32) (ph : PH) : RS (ZZ L xs) (d + 1) mX13_answer 0 [some (.ref o), some (.int i1), some (.int i2), some (.int i3), none, none, none, none] [] ph = RS (ZZ L xs) (d + 1) mX13_answer 6 [some (.ref o), some (.int i1), some (.int i2), some (.int i3), some (.int 0), some (.int i2), none, none] [] ph := by
  refine Eq.trans (q_iconst (v := 0) dX13_answer_0 (mk0 rfl) rfl) ?_
  refine Eq.trans (q_istore (lv2 := [some (.ref o), some (.int i1), some (.int i2), some (.int i3), some (.int 0), none, none, none]) dX13_answer_1 (mk0 rfl) (Nat.le_of_ble_eq_true rfl) rfl) ?_
  refine Eq.trans (q_iload_n dX13_answer_3 (mk0 rfl) rfl) ?_
  refine Eq.trans (q_istore (lv2 := [some (.ref o), some (.int i1), some (.int i2), some (.int i3), some (.int 0), some (.int i2), none, none]) dX13_answer_4 (mk0 rfl) (Nat.le_of_ble_eq_true rfl) rfl) ?_
  rfl
set_option maxRecDepth 20000 in
theorem bX13_answer_6 {L : Nat} {xs : Nat → Int32} (d : Nat) (o : Nat) (i1 : Int32) (u2 : Option Value) (i3 : Int32) (i4 : Int32) (i5 : Int32) (u6 : Option Value) (u7 : Option Value) (ph : PH) : RS (ZZ L xs) (d + 1) mX13_answer 6 [some (.ref o), some (.int i1), u2, some (.int i3), some (.int i4), some (.int i5), u6, u7] [] ph = if (i3 : Int32) ≤ i5 then (fR ph (.ref o) 13 47).bind fun x154 => (eL ph x154 0).bind fun x158 => some (ph, some (.long x158)) else (fR ph (.ref o) 13 39).bind fun x13 => (eI ph x13 ((300 * i1) + i5)).bind fun x24 => (fR ph (.ref o) 13 40).bind fun x28 => (eI ph x28 ((300 * i1) + i5)).bind fun x39 => if (x24 : Int32) = 0 then RS (ZZ L xs) (d + 1) mX13_answer 53 [some (.ref o), some (.int i1), none, some (.int i3), some (.int i4), some (.int i5), some (.int x24), some (.int x39)] [] ph else if ¬ (x24 : Int32) = 1 then if ¬ (x24 : Int32) = 9 then (fR ph (.ref o) 13 47).bind fun x118 => (fR ph (.ref o) 13 47).bind fun x128 => (eL ph x128 ((i4 + (-1)) - 1)).bind fun x135 => (fR ph (.ref o) 13 47).bind fun x137 => (eL ph x137 (i4 + (-1))).bind fun x142 => (cJ (ZZ L xs) d mX13_both [.int x24, .long x135, .long x142] ph).bind fun p143 => (wL p143.1 x118 ((i4 + (-1)) - 1) p143.2).bind fun h146 => RS (ZZ L xs) (d + 1) mX13_answer 147 [some (.ref o), some (.int i1), none, some (.int i3), some (.int (i4 + (-1))), some (.int i5), some (.int x24), some (.int x39)] [] h146 else (fR ph (.ref o) 13 47).bind fun x92 => (fR ph (.ref o) 13 47).bind fun x101 => (eL ph x101 (i4 - 1)).bind fun x108 => (wL ph x92 (i4 - 1) (1 - x108)).bind fun h110 => RS (ZZ L xs) (d + 1) mX13_answer 147 [some (.ref o), some (.int i1), none, some (.int i3), some (.int i4), some (.int i5), some (.int x24), some (.int x39)] [] h110 else RS (ZZ L xs) (d + 1) mX13_answer 53 [some (.ref o), some (.int i1), none, some (.int i3), some (.int i4), some (.int i5), some (.int x24), some (.int x39)] [] ph := by
  refine Eq.trans (q_iload dX13_answer_6 (show mK mX13_answer 6 [some (.ref o), some (.int i1), u2, some (.int i3), some (.int i4), some (.int i5), u6, u7] = [some (.ref o), some (.int i1), none, some (.int i3), some (.int i4), some (.int i5), none, none] from rfl) rfl) ?_
  refine Eq.trans (q_iload_n dX13_answer_8 (mk0 rfl) rfl) ?_
  refine Eq.trans (q_icmp_ge (t := 153) dX13_answer_9 (mk0 rfl) rfl) (ite_cg ?_ ?_)
  · refine Eq.trans (q_aload_n dX13_answer_153 (mk0 rfl) rfl rfl) ?_
    refine Eq.trans (q_getR (ci := 13) (k := 47) dX13_answer_154 (mk0 rfl) rfl) (bind_cg2 fun x154 hx154 => ?_)
    have hx154 := fR_isR hx154
    refine Eq.trans (q_iconst (v := 0) dX13_answer_157 (mk0 rfl) rfl) ?_
    refine Eq.trans (q_laload dX13_answer_158 (mk0 rfl)) (bind_cg fun x158 => ?_)
    exact q_lreturn dX13_answer_159 (mk0 rfl) rfl
  · refine Eq.trans (q_aload_n dX13_answer_12 (mk0 rfl) rfl rfl) ?_
    refine Eq.trans (q_getR (ci := 13) (k := 39) dX13_answer_13 (mk0 rfl) rfl) (bind_cg2 fun x13 hx13 => ?_)
    have hx13 := fR_isR hx13
    refine Eq.trans (q_sipush (v := 300) dX13_answer_16 (mk0 rfl) rfl) ?_
    refine Eq.trans (q_iload_n dX13_answer_19 (mk0 rfl) rfl) ?_
    refine Eq.trans (q_imul dX13_answer_20 (mk0 rfl)) ?_
    refine Eq.trans (q_iload dX13_answer_21 (mk0 rfl) rfl) ?_
    refine Eq.trans (q_iadd dX13_answer_23 (mk0 rfl)) ?_
    refine Eq.trans (q_iaload dX13_answer_24 (mk0 rfl) (no_ext hx13)) (bind_cg fun x24 => ?_)
    refine Eq.trans (q_istore (lv2 := [some (.ref o), some (.int i1), none, some (.int i3), some (.int i4), some (.int i5), some (.int x24), none]) dX13_answer_25 (mk0 rfl) (Nat.le_of_ble_eq_true rfl) rfl) ?_
    refine Eq.trans (q_aload_n dX13_answer_27 (mk0 rfl) rfl rfl) ?_
    refine Eq.trans (q_getR (ci := 13) (k := 40) dX13_answer_28 (mk0 rfl) rfl) (bind_cg2 fun x28 hx28 => ?_)
    have hx28 := fR_isR hx28
    refine Eq.trans (q_sipush (v := 300) dX13_answer_31 (mk0 rfl) rfl) ?_
    refine Eq.trans (q_iload_n dX13_answer_34 (mk0 rfl) rfl) ?_
    refine Eq.trans (q_imul dX13_answer_35 (mk0 rfl)) ?_
    refine Eq.trans (q_iload dX13_answer_36 (mk0 rfl) rfl) ?_
    refine Eq.trans (q_iadd dX13_answer_38 (mk0 rfl)) ?_
    refine Eq.trans (q_iaload dX13_answer_39 (mk0 rfl) (no_ext hx28)) (bind_cg fun x39 => ?_)
    refine Eq.trans (q_istore (lv2 := [some (.ref o), some (.int i1), none, some (.int i3), some (.int i4), some (.int i5), some (.int x24), some (.int x39)]) dX13_answer_40 (mk0 rfl) (Nat.le_of_ble_eq_true rfl) rfl) ?_
    refine Eq.trans (q_iload dX13_answer_42 (mk0 rfl) rfl) ?_
    refine Eq.trans (q_if_eq (t := 53) dX13_answer_44 (mk0 rfl) rfl) (ite_cg ?_ ?_)
    · rfl
    · refine Eq.trans (q_iload dX13_answer_47 (mk0 rfl) rfl) ?_
      refine Eq.trans (q_iconst (v := 1) dX13_answer_49 (mk0 rfl) rfl) ?_
      refine Eq.trans (q_icmp_ne (t := 84) dX13_answer_50 (mk0 rfl) rfl) (ite_cg ?_ ?_)
      · refine Eq.trans (q_iload dX13_answer_84 (mk0 rfl) rfl) ?_
        refine Eq.trans (q_bipush (v := 9) dX13_answer_86 (mk0 rfl) rfl) ?_
        refine Eq.trans (q_icmp_ne (t := 114) dX13_answer_88 (mk0 rfl) rfl) (ite_cg ?_ ?_)
        · refine Eq.trans (q_iinc (v := (-1)) (lv2 := [some (.ref o), some (.int i1), none, some (.int i3), some (.int (i4 + (-1))), some (.int i5), some (.int x24), some (.int x39)]) dX13_answer_114 (mk0 rfl) rfl rfl rfl) ?_
          refine Eq.trans (q_aload_n dX13_answer_117 (mk0 rfl) rfl rfl) ?_
          refine Eq.trans (q_getR (ci := 13) (k := 47) dX13_answer_118 (mk0 rfl) rfl) (bind_cg2 fun x118 hx118 => ?_)
          have hx118 := fR_isR hx118
          refine Eq.trans (q_iload dX13_answer_121 (mk0 rfl) rfl) ?_
          refine Eq.trans (q_iconst (v := 1) dX13_answer_123 (mk0 rfl) rfl) ?_
          refine Eq.trans (q_isub dX13_answer_124 (mk0 rfl)) ?_
          refine Eq.trans (q_iload dX13_answer_125 (mk0 rfl) rfl) ?_
          refine Eq.trans (q_aload_n dX13_answer_127 (mk0 rfl) rfl rfl) ?_
          refine Eq.trans (q_getR (ci := 13) (k := 47) dX13_answer_128 (mk0 rfl) rfl) (bind_cg2 fun x128 hx128 => ?_)
          have hx128 := fR_isR hx128
          refine Eq.trans (q_iload dX13_answer_131 (mk0 rfl) rfl) ?_
          refine Eq.trans (q_iconst (v := 1) dX13_answer_133 (mk0 rfl) rfl) ?_
          refine Eq.trans (q_isub dX13_answer_134 (mk0 rfl)) ?_
          refine Eq.trans (q_laload dX13_answer_135 (mk0 rfl)) (bind_cg fun x135 => ?_)
          refine Eq.trans (q_aload_n dX13_answer_136 (mk0 rfl) rfl rfl) ?_
          refine Eq.trans (q_getR (ci := 13) (k := 47) dX13_answer_137 (mk0 rfl) rfl) (bind_cg2 fun x137 hx137 => ?_)
          have hx137 := fR_isR hx137
          refine Eq.trans (q_iload dX13_answer_140 (mk0 rfl) rfl) ?_
          refine Eq.trans (q_laload dX13_answer_142 (mk0 rfl)) (bind_cg fun x142 => ?_)
          refine Eq.trans (q_callS (as := [.int x24, .long x135, .long x142]) dX13_answer_143 (mk0 rfl) rfl (Or.inl rfl) rfl rfl (by simp [catS, ct_i, ct_l, ct_r, ct_n, ct_x, (cat_R hx118)]) (Nat.le_of_ble_eq_true rfl)) ?_
          refine Eq.trans (cJ_bind rfl) (bind_cg fun p143 => ?_)
          show RS (ZZ L xs) (d + 1) mX13_answer 146 [some (.ref o), some (.int i1), none, some (.int i3), some (.int (i4 + (-1))), some (.int i5), some (.int x24), some (.int x39)] [.long p143.2, .int ((i4 + (-1)) - 1), x118] p143.1 = _
          refine Eq.trans (q_lastore dX13_answer_146 (mk0 rfl)) (bind_cg fun h146 => ?_)
          rfl
        · refine Eq.trans (q_aload_n dX13_answer_91 (mk0 rfl) rfl rfl) ?_
          refine Eq.trans (q_getR (ci := 13) (k := 47) dX13_answer_92 (mk0 rfl) rfl) (bind_cg2 fun x92 hx92 => ?_)
          have hx92 := fR_isR hx92
          refine Eq.trans (q_iload dX13_answer_95 (mk0 rfl) rfl) ?_
          refine Eq.trans (q_iconst (v := 1) dX13_answer_97 (mk0 rfl) rfl) ?_
          refine Eq.trans (q_isub dX13_answer_98 (mk0 rfl)) ?_
          refine Eq.trans (q_lconst (v := 1) dX13_answer_99 (mk0 rfl) rfl) ?_
          refine Eq.trans (q_aload_n dX13_answer_100 (mk0 rfl) rfl rfl) ?_
          refine Eq.trans (q_getR (ci := 13) (k := 47) dX13_answer_101 (mk0 rfl) rfl) (bind_cg2 fun x101 hx101 => ?_)
          have hx101 := fR_isR hx101
          refine Eq.trans (q_iload dX13_answer_104 (mk0 rfl) rfl) ?_
          refine Eq.trans (q_iconst (v := 1) dX13_answer_106 (mk0 rfl) rfl) ?_
          refine Eq.trans (q_isub dX13_answer_107 (mk0 rfl)) ?_
          refine Eq.trans (q_laload dX13_answer_108 (mk0 rfl)) (bind_cg fun x108 => ?_)
          refine Eq.trans (q_lsub dX13_answer_109 (mk0 rfl)) ?_
          refine Eq.trans (q_lastore dX13_answer_110 (mk0 rfl)) (bind_cg fun h110 => ?_)
          refine Eq.trans (q_goto (t := 147) dX13_answer_111 (mk0 rfl) rfl) ?_
          rfl
      · rfl
set_option maxRecDepth 20000 in
theorem bX13_answer_53 {L : Nat} {xs : Nat → Int32} (d : Nat) (o : Nat) (i1 : Int32) (u2 : Option Value) (i3 : Int32) (i4 : Int32) (i5 : Int32) (i6 : Int32) (i7 : Int32) (ph : PH) : RS (ZZ L xs) (d + 1) mX13_answer 53 [some (.ref o), some (.int i1), u2, some (.int i3), some (.int i4), some (.int i5), some (.int i6), some (.int i7)] [] ph = (fR ph (.ref o) 13 47).bind fun x54 => if ¬ (i6 : Int32) = 0 then (fR ph (.ref o) 13 46).bind fun x71 => (eL ph x71 i7).bind fun x76 => RS (ZZ L xs) (d + 1) mX13_answer 77 [some (.ref o), some (.int i1), none, some (.int i3), some (.int i4), some (.int i5), some (.int i6), some (.int i7)] [.long x76, .int i4, x54] ph else RS (ZZ L xs) (d + 1) mX13_answer 77 [some (.ref o), some (.int i1), none, some (.int i3), some (.int i4), some (.int i5), some (.int i6), some (.int i7)] [.long ((i7 : Int32).toInt64), .int i4, x54] ph := by
  refine Eq.trans (q_aload_n dX13_answer_53 (show mK mX13_answer 53 [some (.ref o), some (.int i1), u2, some (.int i3), some (.int i4), some (.int i5), some (.int i6), some (.int i7)] = [some (.ref o), some (.int i1), none, some (.int i3), some (.int i4), some (.int i5), some (.int i6), some (.int i7)] from rfl) rfl rfl) ?_
  refine Eq.trans (q_getR (ci := 13) (k := 47) dX13_answer_54 (mk0 rfl) rfl) (bind_cg2 fun x54 hx54 => ?_)
  have hx54 := fR_isR hx54
  refine Eq.trans (q_iload dX13_answer_57 (mk0 rfl) rfl) ?_
  refine Eq.trans (q_iload dX13_answer_59 (mk0 rfl) rfl) ?_
  refine Eq.trans (q_if_ne (t := 70) dX13_answer_61 (mk0 rfl) rfl) (ite_cg ?_ ?_)
  · refine Eq.trans (q_aload_n dX13_answer_70 (mk0 rfl) rfl rfl) ?_
    refine Eq.trans (q_getR (ci := 13) (k := 46) dX13_answer_71 (mk0 rfl) rfl) (bind_cg2 fun x71 hx71 => ?_)
    have hx71 := fR_isR hx71
    refine Eq.trans (q_iload dX13_answer_74 (mk0 rfl) rfl) ?_
    refine Eq.trans (q_laload dX13_answer_76 (mk0 rfl)) (bind_cg fun x76 => ?_)
    rfl
  · refine Eq.trans (q_iload dX13_answer_64 (mk0 rfl) rfl) ?_
    refine Eq.trans (q_i2l dX13_answer_66 (mk0 rfl)) ?_
    refine Eq.trans (q_goto (t := 77) dX13_answer_67 (mk0 rfl) rfl) ?_
    rfl
set_option maxRecDepth 20000 in
theorem bX13_answer_77 {L : Nat} {xs : Nat → Int32} (d : Nat) (o : Nat) (i1 : Int32) (u2 : Option Value) (i3 : Int32) (i4 : Int32) (i5 : Int32) (u6 : Option Value) (u7 : Option Value) (t0 : Int64) (t1 : Int32) (w2 : Value) (hw2 : isR w2 = true) (ph : PH) : RS (ZZ L xs) (d + 1) mX13_answer 77 [some (.ref o), some (.int i1), u2, some (.int i3), some (.int i4), some (.int i5), u6, u7] [.long t0, .int t1, w2] ph = (wL ph w2 t1 t0).bind fun h77 => RS (ZZ L xs) (d + 1) mX13_answer 147 [some (.ref o), some (.int i1), none, some (.int i3), some (.int (i4 + 1)), some (.int i5), none, none] [] h77 := by
  refine Eq.trans (q_lastore dX13_answer_77 (show mK mX13_answer 77 [some (.ref o), some (.int i1), u2, some (.int i3), some (.int i4), some (.int i5), u6, u7] = [some (.ref o), some (.int i1), none, some (.int i3), some (.int i4), some (.int i5), none, none] from rfl)) (bind_cg fun h77 => ?_)
  refine Eq.trans (q_iinc (v := 1) (lv2 := [some (.ref o), some (.int i1), none, some (.int i3), some (.int (i4 + 1)), some (.int i5), none, none]) dX13_answer_78 (mk0 rfl) rfl rfl rfl) ?_
  refine Eq.trans (q_goto (t := 147) dX13_answer_81 (mk0 rfl) rfl) ?_
  rfl
set_option maxRecDepth 20000 in
theorem bX13_answer_147 {L : Nat} {xs : Nat → Int32} (d : Nat) (o : Nat) (i1 : Int32) (u2 : Option Value) (i3 : Int32) (i4 : Int32) (i5 : Int32) (u6 : Option Value) (u7 : Option Value) (ph : PH) : RS (ZZ L xs) (d + 1) mX13_answer 147 [some (.ref o), some (.int i1), u2, some (.int i3), some (.int i4), some (.int i5), u6, u7] [] ph = RS (ZZ L xs) (d + 1) mX13_answer 6 [some (.ref o), some (.int i1), none, some (.int i3), some (.int i4), some (.int (i5 + 1)), none, none] [] ph := by
  refine Eq.trans (q_iinc (v := 1) (lv2 := [some (.ref o), some (.int i1), none, some (.int i3), some (.int i4), some (.int (i5 + 1)), none, none]) dX13_answer_147 (show mK mX13_answer 147 [some (.ref o), some (.int i1), u2, some (.int i3), some (.int i4), some (.int i5), u6, u7] = [some (.ref o), some (.int i1), none, some (.int i3), some (.int i4), some (.int i5), none, none] from rfl) rfl rfl rfl) ?_
  refine Eq.trans (q_goto (t := 6) dX13_answer_150 (mk0 rfl) rfl) ?_
  rfl
set_option maxRecDepth 20000 in
theorem bX13_person_0 {L : Nat} {xs : Nat → Int32} (d : Nat) (o : Nat) (i1 : Int32) (i2 : Int32) (ph : PH) : RS (ZZ L xs) (d + 1) mX13_person 0 [some (.ref o), some (.int i1), some (.int i2)] [] ph = (iO ph (.ref o) 13).bind fun b2 => (cI (ZZ L xs) d mX13_isPerson [.ref b2, .int i1] ph).bind fun p2 => if ¬ (p2.2 : Int32) = 0 then if (i2 : Int32) = 0 then RS (ZZ L xs) (d + 1) mX13_person 48 [some (.ref o), some (.int i1), some (.int i2)] [] p2.1 else if (i2 : Int32) = 1 then RS (ZZ L xs) (d + 1) mX13_person 55 [some (.ref o), some (.int i1), some (.int i2)] [] p2.1 else if (i2 : Int32) = 2 then RS (ZZ L xs) (d + 1) mX13_person 62 [some (.ref o), some (.int i1), some (.int i2)] [] p2.1 else if (i2 : Int32) = 3 then RS (ZZ L xs) (d + 1) mX13_person 69 [some (.ref o), some (.int i1), some (.int i2)] [] p2.1 else if (i2 : Int32) = 4 then RS (ZZ L xs) (d + 1) mX13_person 76 [some (.ref o), some (.int i1), some (.int i2)] [] p2.1 else if (i2 : Int32) = 5 then RS (ZZ L xs) (d + 1) mX13_person 83 [some (.ref o), some (.int i1), some (.int i2)] [] p2.1 else RS (ZZ L xs) (d + 1) mX13_person 90 [some (.ref o), some (.int i1), some (.int i2)] [] p2.1 else some (p2.1, some (.int ((-1)))) := by
  refine Eq.trans (q_aload_n dX13_person_0 (mk0 rfl) rfl rfl) ?_
  refine Eq.trans (q_iload_n dX13_person_1 (mk0 rfl) rfl) ?_
  refine Eq.trans (q_callV (as := [.int i1]) dX13_person_2 (mk0 rfl) rfl rfl rfl (Nat.le_of_ble_eq_true rfl) (Nat.le_of_ble_eq_true rfl)) (bind_cg fun b2 => ?_)
  refine Eq.trans (cI_bind (Or.inr rfl)) (bind_cg fun p2 => ?_)
  show RS (ZZ L xs) (d + 1) mX13_person 5 [some (.ref o), some (.int i1), some (.int i2)] [.int p2.2] p2.1 = _
  refine Eq.trans (q_if_ne (t := 10) dX13_person_5 (mk0 rfl) rfl) (ite_cg ?_ ?_)
  · refine Eq.trans (q_iload_n dX13_person_10 (mk0 rfl) rfl) ?_
    refine Eq.trans (q_tableswitch dX13_person_11 (mk0 rfl)) ?_
    generalize (i2 : Int32) = y11
    by_cases hy0 : y11 = 0
    · rw [if_pos hy0, hy0]; rfl
    rw [if_neg hy0]
    by_cases hy1 : y11 = 1
    · rw [if_pos hy1, hy1]; rfl
    rw [if_neg hy1]
    by_cases hy2 : y11 = 2
    · rw [if_pos hy2, hy2]; rfl
    rw [if_neg hy2]
    by_cases hy3 : y11 = 3
    · rw [if_pos hy3, hy3]; rfl
    rw [if_neg hy3]
    by_cases hy4 : y11 = 4
    · rw [if_pos hy4, hy4]; rfl
    rw [if_neg hy4]
    by_cases hy5 : y11 = 5
    · rw [if_pos hy5, hy5]; rfl
    rw [if_neg hy5]
    have ny0 := i32_ne hy0 (n := 0) rfl
    have ny1 := i32_ne hy1 (n := 1) rfl
    have ny2 := i32_ne hy2 (n := 2) rfl
    have ny3 := i32_ne hy3 (n := 3) rfl
    have ny4 := i32_ne hy4 (n := 4) rfl
    have ny5 := i32_ne hy5 (n := 5) rfl
    rw [sw_out (t := 90) (by omega) rfl]
    rfl
  · refine Eq.trans (q_iconst (v := (-1)) dX13_person_8 (mk0 rfl) rfl) ?_
    exact q_ireturn dX13_person_9 (mk0 rfl) rfl
set_option maxRecDepth 20000 in
theorem bX13_person_48 {L : Nat} {xs : Nat → Int32} (d : Nat) (o : Nat) (i1 : Int32) (u2 : Option Value) (ph : PH) : RS (ZZ L xs) (d + 1) mX13_person 48 [some (.ref o), some (.int i1), u2] [] ph = (fR ph (.ref o) 13 2).bind fun x49 => (eI ph x49 i1).bind fun x53 => some (ph, some (.int x53)) := by
  refine Eq.trans (q_aload_n dX13_person_48 (show mK mX13_person 48 [some (.ref o), some (.int i1), u2] = [some (.ref o), some (.int i1), none] from rfl) rfl rfl) ?_
  refine Eq.trans (q_getR (ci := 13) (k := 2) dX13_person_49 (mk0 rfl) rfl) (bind_cg2 fun x49 hx49 => ?_)
  have hx49 := fR_isR hx49
  refine Eq.trans (q_iload_n dX13_person_52 (mk0 rfl) rfl) ?_
  refine Eq.trans (q_iaload dX13_person_53 (mk0 rfl) (no_ext hx49)) (bind_cg fun x53 => ?_)
  exact q_ireturn dX13_person_54 (mk0 rfl) rfl
set_option maxRecDepth 20000 in
theorem bX13_person_55 {L : Nat} {xs : Nat → Int32} (d : Nat) (o : Nat) (i1 : Int32) (u2 : Option Value) (ph : PH) : RS (ZZ L xs) (d + 1) mX13_person 55 [some (.ref o), some (.int i1), u2] [] ph = (fR ph (.ref o) 13 3).bind fun x56 => (eI ph x56 i1).bind fun x60 => some (ph, some (.int x60)) := by
  refine Eq.trans (q_aload_n dX13_person_55 (show mK mX13_person 55 [some (.ref o), some (.int i1), u2] = [some (.ref o), some (.int i1), none] from rfl) rfl rfl) ?_
  refine Eq.trans (q_getR (ci := 13) (k := 3) dX13_person_56 (mk0 rfl) rfl) (bind_cg2 fun x56 hx56 => ?_)
  have hx56 := fR_isR hx56
  refine Eq.trans (q_iload_n dX13_person_59 (mk0 rfl) rfl) ?_
  refine Eq.trans (q_iaload dX13_person_60 (mk0 rfl) (no_ext hx56)) (bind_cg fun x60 => ?_)
  exact q_ireturn dX13_person_61 (mk0 rfl) rfl
set_option maxRecDepth 20000 in
theorem bX13_person_62 {L : Nat} {xs : Nat → Int32} (d : Nat) (o : Nat) (i1 : Int32) (u2 : Option Value) (ph : PH) : RS (ZZ L xs) (d + 1) mX13_person 62 [some (.ref o), some (.int i1), u2] [] ph = (fR ph (.ref o) 13 10).bind fun x63 => (eI ph x63 i1).bind fun x67 => some (ph, some (.int x67)) := by
  refine Eq.trans (q_aload_n dX13_person_62 (show mK mX13_person 62 [some (.ref o), some (.int i1), u2] = [some (.ref o), some (.int i1), none] from rfl) rfl rfl) ?_
  refine Eq.trans (q_getR (ci := 13) (k := 10) dX13_person_63 (mk0 rfl) rfl) (bind_cg2 fun x63 hx63 => ?_)
  have hx63 := fR_isR hx63
  refine Eq.trans (q_iload_n dX13_person_66 (mk0 rfl) rfl) ?_
  refine Eq.trans (q_iaload dX13_person_67 (mk0 rfl) (no_ext hx63)) (bind_cg fun x67 => ?_)
  exact q_ireturn dX13_person_68 (mk0 rfl) rfl
set_option maxRecDepth 20000 in
theorem bX13_person_69 {L : Nat} {xs : Nat → Int32} (d : Nat) (o : Nat) (i1 : Int32) (u2 : Option Value) (ph : PH) : RS (ZZ L xs) (d + 1) mX13_person 69 [some (.ref o), some (.int i1), u2] [] ph = (fR ph (.ref o) 13 4).bind fun x70 => (eI ph x70 i1).bind fun x74 => some (ph, some (.int x74)) := by
  refine Eq.trans (q_aload_n dX13_person_69 (show mK mX13_person 69 [some (.ref o), some (.int i1), u2] = [some (.ref o), some (.int i1), none] from rfl) rfl rfl) ?_
  refine Eq.trans (q_getR (ci := 13) (k := 4) dX13_person_70 (mk0 rfl) rfl) (bind_cg2 fun x70 hx70 => ?_)
  have hx70 := fR_isR hx70
  refine Eq.trans (q_iload_n dX13_person_73 (mk0 rfl) rfl) ?_
  refine Eq.trans (q_iaload dX13_person_74 (mk0 rfl) (no_ext hx70)) (bind_cg fun x74 => ?_)
  exact q_ireturn dX13_person_75 (mk0 rfl) rfl
set_option maxRecDepth 20000 in
theorem bX13_person_76 {L : Nat} {xs : Nat → Int32} (d : Nat) (o : Nat) (i1 : Int32) (u2 : Option Value) (ph : PH) : RS (ZZ L xs) (d + 1) mX13_person 76 [some (.ref o), some (.int i1), u2] [] ph = (fR ph (.ref o) 13 5).bind fun x77 => (eI ph x77 i1).bind fun x81 => some (ph, some (.int x81)) := by
  refine Eq.trans (q_aload_n dX13_person_76 (show mK mX13_person 76 [some (.ref o), some (.int i1), u2] = [some (.ref o), some (.int i1), none] from rfl) rfl rfl) ?_
  refine Eq.trans (q_getR (ci := 13) (k := 5) dX13_person_77 (mk0 rfl) rfl) (bind_cg2 fun x77 hx77 => ?_)
  have hx77 := fR_isR hx77
  refine Eq.trans (q_iload_n dX13_person_80 (mk0 rfl) rfl) ?_
  refine Eq.trans (q_iaload dX13_person_81 (mk0 rfl) (no_ext hx77)) (bind_cg fun x81 => ?_)
  exact q_ireturn dX13_person_82 (mk0 rfl) rfl
set_option maxRecDepth 20000 in
theorem bX13_person_83 {L : Nat} {xs : Nat → Int32} (d : Nat) (o : Nat) (i1 : Int32) (u2 : Option Value) (ph : PH) : RS (ZZ L xs) (d + 1) mX13_person 83 [some (.ref o), some (.int i1), u2] [] ph = (fR ph (.ref o) 13 6).bind fun x84 => (eI ph x84 i1).bind fun x88 => some (ph, some (.int x88)) := by
  refine Eq.trans (q_aload_n dX13_person_83 (show mK mX13_person 83 [some (.ref o), some (.int i1), u2] = [some (.ref o), some (.int i1), none] from rfl) rfl rfl) ?_
  refine Eq.trans (q_getR (ci := 13) (k := 6) dX13_person_84 (mk0 rfl) rfl) (bind_cg2 fun x84 hx84 => ?_)
  have hx84 := fR_isR hx84
  refine Eq.trans (q_iload_n dX13_person_87 (mk0 rfl) rfl) ?_
  refine Eq.trans (q_iaload dX13_person_88 (mk0 rfl) (no_ext hx84)) (bind_cg fun x88 => ?_)
  exact q_ireturn dX13_person_89 (mk0 rfl) rfl
set_option maxRecDepth 20000 in
theorem bX13_person_90 {L : Nat} {xs : Nat → Int32} (d : Nat) (u0 : Option Value) (u1 : Option Value) (u2 : Option Value) (ph : PH) : RS (ZZ L xs) (d + 1) mX13_person 90 [u0, u1, u2] [] ph = some (ph, some (.int ((-1)))) := by
  refine Eq.trans (q_iconst (v := (-1)) dX13_person_90 (show mK mX13_person 90 [u0, u1, u2] = [none, none, none] from rfl) rfl) ?_
  exact q_ireturn dX13_person_91 (mk0 rfl) rfl
set_option maxRecDepth 20000 in
theorem bX13_stranger_0 {L : Nat} {xs : Nat → Int32} (d : Nat) (o : Nat) (i1 : Int32) (i2 : Int32) (ph : PH) : RS (ZZ L xs) (d + 1) mX13_stranger 0 [some (.ref o), some (.int i1), some (.int i2)] [] ph = (iO ph (.ref o) 13).bind fun b2 => (cI (ZZ L xs) d mX13_isStranger [.ref b2, .int i1] ph).bind fun p2 => if ¬ (p2.2 : Int32) = 0 then if (i2 : Int32) = 0 then RS (ZZ L xs) (d + 1) mX13_stranger 44 [some (.ref o), some (.int i1), some (.int i2)] [] p2.1 else if (i2 : Int32) = 1 then RS (ZZ L xs) (d + 1) mX13_stranger 51 [some (.ref o), some (.int i1), some (.int i2)] [] p2.1 else if (i2 : Int32) = 2 then RS (ZZ L xs) (d + 1) mX13_stranger 58 [some (.ref o), some (.int i1), some (.int i2)] [] p2.1 else if (i2 : Int32) = 3 then RS (ZZ L xs) (d + 1) mX13_stranger 65 [some (.ref o), some (.int i1), some (.int i2)] [] p2.1 else RS (ZZ L xs) (d + 1) mX13_stranger 72 [some (.ref o), some (.int i1), some (.int i2)] [] p2.1 else some (p2.1, some (.int ((-2)))) := by
  refine Eq.trans (q_aload_n dX13_stranger_0 (mk0 rfl) rfl rfl) ?_
  refine Eq.trans (q_iload_n dX13_stranger_1 (mk0 rfl) rfl) ?_
  refine Eq.trans (q_callV (as := [.int i1]) dX13_stranger_2 (mk0 rfl) rfl rfl rfl (Nat.le_of_ble_eq_true rfl) (Nat.le_of_ble_eq_true rfl)) (bind_cg fun b2 => ?_)
  refine Eq.trans (cI_bind (Or.inr rfl)) (bind_cg fun p2 => ?_)
  show RS (ZZ L xs) (d + 1) mX13_stranger 5 [some (.ref o), some (.int i1), some (.int i2)] [.int p2.2] p2.1 = _
  refine Eq.trans (q_if_ne (t := 11) dX13_stranger_5 (mk0 rfl) rfl) (ite_cg ?_ ?_)
  · refine Eq.trans (q_iload_n dX13_stranger_11 (mk0 rfl) rfl) ?_
    refine Eq.trans (q_tableswitch dX13_stranger_12 (mk0 rfl)) ?_
    generalize (i2 : Int32) = y12
    by_cases hy0 : y12 = 0
    · rw [if_pos hy0, hy0]; rfl
    rw [if_neg hy0]
    by_cases hy1 : y12 = 1
    · rw [if_pos hy1, hy1]; rfl
    rw [if_neg hy1]
    by_cases hy2 : y12 = 2
    · rw [if_pos hy2, hy2]; rfl
    rw [if_neg hy2]
    by_cases hy3 : y12 = 3
    · rw [if_pos hy3, hy3]; rfl
    rw [if_neg hy3]
    have ny0 := i32_ne hy0 (n := 0) rfl
    have ny1 := i32_ne hy1 (n := 1) rfl
    have ny2 := i32_ne hy2 (n := 2) rfl
    have ny3 := i32_ne hy3 (n := 3) rfl
    rw [sw_out (t := 72) (by omega) rfl]
    rfl
  · refine Eq.trans (q_bipush (v := (-2)) dX13_stranger_8 (mk0 rfl) rfl) ?_
    exact q_ireturn dX13_stranger_10 (mk0 rfl) rfl
set_option maxRecDepth 20000 in
theorem bX13_stranger_44 {L : Nat} {xs : Nat → Int32} (d : Nat) (o : Nat) (i1 : Int32) (u2 : Option Value) (ph : PH) : RS (ZZ L xs) (d + 1) mX13_stranger 44 [some (.ref o), some (.int i1), u2] [] ph = (fR ph (.ref o) 13 11).bind fun x45 => (eI ph x45 i1).bind fun x49 => some (ph, some (.int x49)) := by
  refine Eq.trans (q_aload_n dX13_stranger_44 (show mK mX13_stranger 44 [some (.ref o), some (.int i1), u2] = [some (.ref o), some (.int i1), none] from rfl) rfl rfl) ?_
  refine Eq.trans (q_getR (ci := 13) (k := 11) dX13_stranger_45 (mk0 rfl) rfl) (bind_cg2 fun x45 hx45 => ?_)
  have hx45 := fR_isR hx45
  refine Eq.trans (q_iload_n dX13_stranger_48 (mk0 rfl) rfl) ?_
  refine Eq.trans (q_iaload dX13_stranger_49 (mk0 rfl) (no_ext hx45)) (bind_cg fun x49 => ?_)
  exact q_ireturn dX13_stranger_50 (mk0 rfl) rfl
set_option maxRecDepth 20000 in
theorem bX13_stranger_51 {L : Nat} {xs : Nat → Int32} (d : Nat) (o : Nat) (i1 : Int32) (u2 : Option Value) (ph : PH) : RS (ZZ L xs) (d + 1) mX13_stranger 51 [some (.ref o), some (.int i1), u2] [] ph = (fR ph (.ref o) 13 12).bind fun x52 => (eI ph x52 i1).bind fun x56 => some (ph, some (.int x56)) := by
  refine Eq.trans (q_aload_n dX13_stranger_51 (show mK mX13_stranger 51 [some (.ref o), some (.int i1), u2] = [some (.ref o), some (.int i1), none] from rfl) rfl rfl) ?_
  refine Eq.trans (q_getR (ci := 13) (k := 12) dX13_stranger_52 (mk0 rfl) rfl) (bind_cg2 fun x52 hx52 => ?_)
  have hx52 := fR_isR hx52
  refine Eq.trans (q_iload_n dX13_stranger_55 (mk0 rfl) rfl) ?_
  refine Eq.trans (q_iaload dX13_stranger_56 (mk0 rfl) (no_ext hx52)) (bind_cg fun x56 => ?_)
  exact q_ireturn dX13_stranger_57 (mk0 rfl) rfl
set_option maxRecDepth 20000 in
theorem bX13_stranger_58 {L : Nat} {xs : Nat → Int32} (d : Nat) (o : Nat) (i1 : Int32) (u2 : Option Value) (ph : PH) : RS (ZZ L xs) (d + 1) mX13_stranger 58 [some (.ref o), some (.int i1), u2] [] ph = (fR ph (.ref o) 13 13).bind fun x59 => (eI ph x59 i1).bind fun x63 => some (ph, some (.int x63)) := by
  refine Eq.trans (q_aload_n dX13_stranger_58 (show mK mX13_stranger 58 [some (.ref o), some (.int i1), u2] = [some (.ref o), some (.int i1), none] from rfl) rfl rfl) ?_
  refine Eq.trans (q_getR (ci := 13) (k := 13) dX13_stranger_59 (mk0 rfl) rfl) (bind_cg2 fun x59 hx59 => ?_)
  have hx59 := fR_isR hx59
  refine Eq.trans (q_iload_n dX13_stranger_62 (mk0 rfl) rfl) ?_
  refine Eq.trans (q_iaload dX13_stranger_63 (mk0 rfl) (no_ext hx59)) (bind_cg fun x63 => ?_)
  exact q_ireturn dX13_stranger_64 (mk0 rfl) rfl
set_option maxRecDepth 20000 in
theorem bX13_stranger_65 {L : Nat} {xs : Nat → Int32} (d : Nat) (o : Nat) (i1 : Int32) (u2 : Option Value) (ph : PH) : RS (ZZ L xs) (d + 1) mX13_stranger 65 [some (.ref o), some (.int i1), u2] [] ph = (fR ph (.ref o) 13 7).bind fun x66 => (eI ph x66 i1).bind fun x70 => some (ph, some (.int x70)) := by
  refine Eq.trans (q_aload_n dX13_stranger_65 (show mK mX13_stranger 65 [some (.ref o), some (.int i1), u2] = [some (.ref o), some (.int i1), none] from rfl) rfl rfl) ?_
  refine Eq.trans (q_getR (ci := 13) (k := 7) dX13_stranger_66 (mk0 rfl) rfl) (bind_cg2 fun x66 hx66 => ?_)
  have hx66 := fR_isR hx66
  refine Eq.trans (q_iload_n dX13_stranger_69 (mk0 rfl) rfl) ?_
  refine Eq.trans (q_iaload dX13_stranger_70 (mk0 rfl) (no_ext hx66)) (bind_cg fun x70 => ?_)
  exact q_ireturn dX13_stranger_71 (mk0 rfl) rfl
set_option maxRecDepth 20000 in
theorem bX13_stranger_72 {L : Nat} {xs : Nat → Int32} (d : Nat) (u0 : Option Value) (u1 : Option Value) (u2 : Option Value) (ph : PH) : RS (ZZ L xs) (d + 1) mX13_stranger 72 [u0, u1, u2] [] ph = some (ph, some (.int ((-2)))) := by
  refine Eq.trans (q_bipush (v := (-2)) dX13_stranger_72 (show mK mX13_stranger 72 [u0, u1, u2] = [none, none, none] from rfl) rfl) ?_
  exact q_ireturn dX13_stranger_74 (mk0 rfl) rfl
set_option maxRecDepth 20000 in
theorem bX13_streets_0 {L : Nat} {xs : Nat → Int32} (d : Nat) (o : Nat) (i1 : Int32) (ph : PH) : RS (ZZ L xs) (d + 1) mX13_streets 0 [some (.ref o), some (.int i1)] [] ph = (iO ph (.ref o) 13).bind fun b2 => (cI (ZZ L xs) d mX13_isPlace [.ref b2, .int i1] ph).bind fun p2 => if (p2.2 : Int32) = 0 then RS (ZZ L xs) (d + 1) mX13_streets 18 [some (.ref o), some (.int i1)] [.int ((-1))] p2.1 else (fR p2.1 (.ref o) 13 9).bind fun x9 => (eI p2.1 x9 i1).bind fun x13 => RS (ZZ L xs) (d + 1) mX13_streets 18 [some (.ref o), some (.int i1)] [.int x13] p2.1 := by
  refine Eq.trans (q_aload_n dX13_streets_0 (mk0 rfl) rfl rfl) ?_
  refine Eq.trans (q_iload_n dX13_streets_1 (mk0 rfl) rfl) ?_
  refine Eq.trans (q_callV (as := [.int i1]) dX13_streets_2 (mk0 rfl) rfl rfl rfl (Nat.le_of_ble_eq_true rfl) (Nat.le_of_ble_eq_true rfl)) (bind_cg fun b2 => ?_)
  refine Eq.trans (cI_bind (Or.inr rfl)) (bind_cg fun p2 => ?_)
  show RS (ZZ L xs) (d + 1) mX13_streets 5 [some (.ref o), some (.int i1)] [.int p2.2] p2.1 = _
  refine Eq.trans (q_if_eq (t := 17) dX13_streets_5 (mk0 rfl) rfl) (ite_cg ?_ ?_)
  · refine Eq.trans (q_iconst (v := (-1)) dX13_streets_17 (mk0 rfl) rfl) ?_
    rfl
  · refine Eq.trans (q_aload_n dX13_streets_8 (mk0 rfl) rfl rfl) ?_
    refine Eq.trans (q_getR (ci := 13) (k := 9) dX13_streets_9 (mk0 rfl) rfl) (bind_cg2 fun x9 hx9 => ?_)
    have hx9 := fR_isR hx9
    refine Eq.trans (q_iload_n dX13_streets_12 (mk0 rfl) rfl) ?_
    refine Eq.trans (q_iaload dX13_streets_13 (mk0 rfl) (no_ext hx9)) (bind_cg fun x13 => ?_)
    refine Eq.trans (q_goto (t := 18) dX13_streets_14 (mk0 rfl) rfl) ?_
    rfl
set_option maxRecDepth 20000 in
theorem bX13_streets_18 {L : Nat} {xs : Nat → Int32} (d : Nat) (u0 : Option Value) (u1 : Option Value) (t0 : Int32) (ph : PH) : RS (ZZ L xs) (d + 1) mX13_streets 18 [u0, u1] [.int t0] ph = some (ph, some (.int t0)) := by
  exact q_ireturn dX13_streets_18 (show mK mX13_streets 18 [u0, u1] = [none, none] from rfl) rfl
set_option maxRecDepth 20000 in
theorem bX13_before_0 {L : Nat} {xs : Nat → Int32} (d : Nat) (o : Nat) (i1 : Int32) (i2 : Int32) (ph : PH) : RS (ZZ L xs) (d + 1) mX13_before 0 [some (.ref o), some (.int i1), some (.int i2)] [] ph = (iO ph (.ref o) 13).bind fun b2 => (cI (ZZ L xs) d mX13_isStranger [.ref b2, .int i1] ph).bind fun p2 => if (p2.2 : Int32) = 0 then RS (ZZ L xs) (d + 1) mX13_before 30 [some (.ref o), some (.int i1), some (.int i2)] [] p2.1 else (iO p2.1 (.ref o) 13).bind fun b10 => (cI (ZZ L xs) d mX13_isPerson [.ref b10, .int i2] p2.1).bind fun p10 => if (p10.2 : Int32) = 0 then RS (ZZ L xs) (d + 1) mX13_before 30 [some (.ref o), some (.int i1), some (.int i2)] [] p10.1 else (fR p10.1 (.ref o) 13 8).bind fun x17 => (eI p10.1 x17 ((6 * i1) + i2)).bind fun x26 => RS (ZZ L xs) (d + 1) mX13_before 31 [some (.ref o), some (.int i1), some (.int i2)] [.int x26] p10.1 := by
  refine Eq.trans (q_aload_n dX13_before_0 (mk0 rfl) rfl rfl) ?_
  refine Eq.trans (q_iload_n dX13_before_1 (mk0 rfl) rfl) ?_
  refine Eq.trans (q_callV (as := [.int i1]) dX13_before_2 (mk0 rfl) rfl rfl rfl (Nat.le_of_ble_eq_true rfl) (Nat.le_of_ble_eq_true rfl)) (bind_cg fun b2 => ?_)
  refine Eq.trans (cI_bind (Or.inr rfl)) (bind_cg fun p2 => ?_)
  show RS (ZZ L xs) (d + 1) mX13_before 5 [some (.ref o), some (.int i1), some (.int i2)] [.int p2.2] p2.1 = _
  refine Eq.trans (q_if_eq (t := 30) dX13_before_5 (mk0 rfl) rfl) (ite_cg ?_ ?_)
  · rfl
  · refine Eq.trans (q_aload_n dX13_before_8 (mk0 rfl) rfl rfl) ?_
    refine Eq.trans (q_iload_n dX13_before_9 (mk0 rfl) rfl) ?_
    refine Eq.trans (q_callV (as := [.int i2]) dX13_before_10 (mk0 rfl) rfl rfl rfl (Nat.le_of_ble_eq_true rfl) (Nat.le_of_ble_eq_true rfl)) (bind_cg fun b10 => ?_)
    refine Eq.trans (cI_bind (Or.inr rfl)) (bind_cg fun p10 => ?_)
    show RS (ZZ L xs) (d + 1) mX13_before 13 [some (.ref o), some (.int i1), some (.int i2)] [.int p10.2] p10.1 = _
    refine Eq.trans (q_if_eq (t := 30) dX13_before_13 (mk0 rfl) rfl) (ite_cg ?_ ?_)
    · rfl
    · refine Eq.trans (q_aload_n dX13_before_16 (mk0 rfl) rfl rfl) ?_
      refine Eq.trans (q_getR (ci := 13) (k := 8) dX13_before_17 (mk0 rfl) rfl) (bind_cg2 fun x17 hx17 => ?_)
      have hx17 := fR_isR hx17
      refine Eq.trans (q_bipush (v := 6) dX13_before_20 (mk0 rfl) rfl) ?_
      refine Eq.trans (q_iload_n dX13_before_22 (mk0 rfl) rfl) ?_
      refine Eq.trans (q_imul dX13_before_23 (mk0 rfl)) ?_
      refine Eq.trans (q_iload_n dX13_before_24 (mk0 rfl) rfl) ?_
      refine Eq.trans (q_iadd dX13_before_25 (mk0 rfl)) ?_
      refine Eq.trans (q_iaload dX13_before_26 (mk0 rfl) (no_ext hx17)) (bind_cg fun x26 => ?_)
      refine Eq.trans (q_goto (t := 31) dX13_before_27 (mk0 rfl) rfl) ?_
      rfl
set_option maxRecDepth 20000 in
theorem bX13_before_30 {L : Nat} {xs : Nat → Int32} (d : Nat) (u0 : Option Value) (u1 : Option Value) (u2 : Option Value) (ph : PH) : RS (ZZ L xs) (d + 1) mX13_before 30 [u0, u1, u2] [] ph = RS (ZZ L xs) (d + 1) mX13_before 31 [none, none, none] [.int ((-1))] ph := by
  refine Eq.trans (q_iconst (v := (-1)) dX13_before_30 (show mK mX13_before 30 [u0, u1, u2] = [none, none, none] from rfl) rfl) ?_
  rfl
set_option maxRecDepth 20000 in
theorem bX13_before_31 {L : Nat} {xs : Nat → Int32} (d : Nat) (u0 : Option Value) (u1 : Option Value) (u2 : Option Value) (t0 : Int32) (ph : PH) : RS (ZZ L xs) (d + 1) mX13_before 31 [u0, u1, u2] [.int t0] ph = some (ph, some (.int t0)) := by
  exact q_ireturn dX13_before_31 (show mK mX13_before 31 [u0, u1, u2] = [none, none, none] from rfl) rfl
set_option maxRecDepth 20000 in
theorem bX13_farFrom_0 {L : Nat} {xs : Nat → Int32} (d : Nat) (o : Nat) (i1 : Int32) (i2 : Int32) (ph : PH) : RS (ZZ L xs) (d + 1) mX13_farFrom 0 [some (.ref o), some (.int i1), some (.int i2), none, none, none, none] [] ph = RS (ZZ L xs) (d + 1) mX13_farFrom 7 [some (.ref o), some (.int i1), some (.int i2), some (.int (iShl 1 i2)), some (.int 0), none, none] [] ph := by
  refine Eq.trans (q_iconst (v := 1) dX13_farFrom_0 (mk0 rfl) rfl) ?_
  refine Eq.trans (q_iload_n dX13_farFrom_1 (mk0 rfl) rfl) ?_
  refine Eq.trans (q_ishl dX13_farFrom_2 (mk0 rfl)) ?_
  refine Eq.trans (q_istore_n (lv2 := [some (.ref o), some (.int i1), some (.int i2), some (.int (iShl 1 i2)), none, none, none]) dX13_farFrom_3 (mk0 rfl) (Nat.le_of_ble_eq_true rfl) rfl) ?_
  refine Eq.trans (q_iconst (v := 0) dX13_farFrom_4 (mk0 rfl) rfl) ?_
  refine Eq.trans (q_istore (lv2 := [some (.ref o), some (.int i1), some (.int i2), some (.int (iShl 1 i2)), some (.int 0), none, none]) dX13_farFrom_5 (mk0 rfl) (Nat.le_of_ble_eq_true rfl) rfl) ?_
  rfl
set_option maxRecDepth 20000 in
theorem bX13_farFrom_7 {L : Nat} {xs : Nat → Int32} (d : Nat) (o : Nat) (i1 : Int32) (u2 : Option Value) (i3 : Int32) (i4 : Int32) (u5 : Option Value) (u6 : Option Value) (ph : PH) : RS (ZZ L xs) (d + 1) mX13_farFrom 7 [some (.ref o), some (.int i1), u2, some (.int i3), some (.int i4), u5, u6] [] ph = if (8 : Int32) ≤ i4 then some (ph, some (.int 99)) else (cI (ZZ L xs) d mX13_has [.int i3, .int i1] ph).bind fun p16 => if (p16.2 : Int32) = 0 then RS (ZZ L xs) (d + 1) mX13_farFrom 31 [some (.ref o), some (.int i1), none, some (.int i3), some (.int i4), some (.int i3), some (.int 0)] [] p16.1 else some (p16.1, some (.int i4)) := by
  refine Eq.trans (q_iload dX13_farFrom_7 (show mK mX13_farFrom 7 [some (.ref o), some (.int i1), u2, some (.int i3), some (.int i4), u5, u6] = [some (.ref o), some (.int i1), none, some (.int i3), some (.int i4), none, none] from rfl) rfl) ?_
  refine Eq.trans (q_bipush (v := 8) dX13_farFrom_9 (mk0 rfl) rfl) ?_
  refine Eq.trans (q_icmp_ge (t := 82) dX13_farFrom_11 (mk0 rfl) rfl) (ite_cg ?_ ?_)
  · refine Eq.trans (q_bipush (v := 99) dX13_farFrom_82 (mk0 rfl) rfl) ?_
    exact q_ireturn dX13_farFrom_84 (mk0 rfl) rfl
  · refine Eq.trans (q_iload_n dX13_farFrom_14 (mk0 rfl) rfl) ?_
    refine Eq.trans (q_iload_n dX13_farFrom_15 (mk0 rfl) rfl) ?_
    refine Eq.trans (q_callS (as := [.int i3, .int i1]) dX13_farFrom_16 (mk0 rfl) rfl (Or.inl rfl) rfl rfl (Nat.le_of_ble_eq_true rfl) (Nat.le_of_ble_eq_true rfl)) ?_
    refine Eq.trans (cI_bind (Or.inr rfl)) (bind_cg fun p16 => ?_)
    show RS (ZZ L xs) (d + 1) mX13_farFrom 19 [some (.ref o), some (.int i1), none, some (.int i3), some (.int i4), none, none] [.int p16.2] p16.1 = _
    refine Eq.trans (q_if_eq (t := 25) dX13_farFrom_19 (mk0 rfl) rfl) (ite_cg ?_ ?_)
    · refine Eq.trans (q_iload_n dX13_farFrom_25 (mk0 rfl) rfl) ?_
      refine Eq.trans (q_istore (lv2 := [some (.ref o), some (.int i1), none, some (.int i3), some (.int i4), some (.int i3), none]) dX13_farFrom_26 (mk0 rfl) (Nat.le_of_ble_eq_true rfl) rfl) ?_
      refine Eq.trans (q_iconst (v := 0) dX13_farFrom_28 (mk0 rfl) rfl) ?_
      refine Eq.trans (q_istore (lv2 := [some (.ref o), some (.int i1), none, some (.int i3), some (.int i4), some (.int i3), some (.int 0)]) dX13_farFrom_29 (mk0 rfl) (Nat.le_of_ble_eq_true rfl) rfl) ?_
      rfl
    · refine Eq.trans (q_iload dX13_farFrom_22 (mk0 rfl) rfl) ?_
      exact q_ireturn dX13_farFrom_24 (mk0 rfl) rfl
set_option maxRecDepth 20000 in
theorem bX13_farFrom_31 {L : Nat} {xs : Nat → Int32} (d : Nat) (o : Nat) (i1 : Int32) (u2 : Option Value) (i3 : Int32) (i4 : Int32) (i5 : Int32) (i6 : Int32) (ph : PH) : RS (ZZ L xs) (d + 1) mX13_farFrom 31 [some (.ref o), some (.int i1), u2, some (.int i3), some (.int i4), some (.int i5), some (.int i6)] [] ph = (fR ph (.ref o) 13 1).bind fun x34 => (eI ph x34 0).bind fun x38 => if (x38 : Int32) ≤ i6 then RS (ZZ L xs) (d + 1) mX13_farFrom 7 [some (.ref o), some (.int i1), none, some (.int i5), some (.int (i4 + 1)), some (.int i5), some (.int i6)] [] ph else (cI (ZZ L xs) d mX13_has [.int i3, .int i6] ph).bind fun p47 => if (p47.2 : Int32) = 0 then RS (ZZ L xs) (d + 1) mX13_farFrom 64 [some (.ref o), some (.int i1), none, some (.int i3), some (.int i4), some (.int i5), some (.int i6)] [.int 0, .int i5] p47.1 else (fR p47.1 (.ref o) 13 9).bind fun x54 => (eI p47.1 x54 i6).bind fun x59 => RS (ZZ L xs) (d + 1) mX13_farFrom 64 [some (.ref o), some (.int i1), none, some (.int i3), some (.int i4), some (.int i5), some (.int i6)] [.int x59, .int i5] p47.1 := by
  refine Eq.trans (q_iload dX13_farFrom_31 (show mK mX13_farFrom 31 [some (.ref o), some (.int i1), u2, some (.int i3), some (.int i4), some (.int i5), some (.int i6)] = [some (.ref o), some (.int i1), none, some (.int i3), some (.int i4), some (.int i5), some (.int i6)] from rfl) rfl) ?_
  refine Eq.trans (q_aload_n dX13_farFrom_33 (mk0 rfl) rfl rfl) ?_
  refine Eq.trans (q_getR (ci := 13) (k := 1) dX13_farFrom_34 (mk0 rfl) rfl) (bind_cg2 fun x34 hx34 => ?_)
  have hx34 := fR_isR hx34
  refine Eq.trans (q_iconst (v := 0) dX13_farFrom_37 (mk0 rfl) rfl) ?_
  refine Eq.trans (q_iaload dX13_farFrom_38 (mk0 rfl) (no_ext hx34)) (bind_cg fun x38 => ?_)
  refine Eq.trans (q_icmp_ge (t := 73) dX13_farFrom_39 (mk0 rfl) rfl) (ite_cg ?_ ?_)
  · refine Eq.trans (q_iload dX13_farFrom_73 (mk0 rfl) rfl) ?_
    refine Eq.trans (q_istore_n (lv2 := [some (.ref o), some (.int i1), none, some (.int i5), some (.int i4), some (.int i5), some (.int i6)]) dX13_farFrom_75 (mk0 rfl) (Nat.le_of_ble_eq_true rfl) rfl) ?_
    refine Eq.trans (q_iinc (v := 1) (lv2 := [some (.ref o), some (.int i1), none, some (.int i5), some (.int (i4 + 1)), some (.int i5), some (.int i6)]) dX13_farFrom_76 (mk0 rfl) rfl rfl rfl) ?_
    refine Eq.trans (q_goto (t := 7) dX13_farFrom_79 (mk0 rfl) rfl) ?_
    rfl
  · refine Eq.trans (q_iload dX13_farFrom_42 (mk0 rfl) rfl) ?_
    refine Eq.trans (q_iload_n dX13_farFrom_44 (mk0 rfl) rfl) ?_
    refine Eq.trans (q_iload dX13_farFrom_45 (mk0 rfl) rfl) ?_
    refine Eq.trans (q_callS (as := [.int i3, .int i6]) dX13_farFrom_47 (mk0 rfl) rfl (Or.inl rfl) rfl rfl (Nat.le_of_ble_eq_true rfl) (Nat.le_of_ble_eq_true rfl)) ?_
    refine Eq.trans (cI_bind (Or.inr rfl)) (bind_cg fun p47 => ?_)
    show RS (ZZ L xs) (d + 1) mX13_farFrom 50 [some (.ref o), some (.int i1), none, some (.int i3), some (.int i4), some (.int i5), some (.int i6)] [.int p47.2, .int i5] p47.1 = _
    refine Eq.trans (q_if_eq (t := 63) dX13_farFrom_50 (mk0 rfl) rfl) (ite_cg ?_ ?_)
    · refine Eq.trans (q_iconst (v := 0) dX13_farFrom_63 (mk0 rfl) rfl) ?_
      rfl
    · refine Eq.trans (q_aload_n dX13_farFrom_53 (mk0 rfl) rfl rfl) ?_
      refine Eq.trans (q_getR (ci := 13) (k := 9) dX13_farFrom_54 (mk0 rfl) rfl) (bind_cg2 fun x54 hx54 => ?_)
      have hx54 := fR_isR hx54
      refine Eq.trans (q_iload dX13_farFrom_57 (mk0 rfl) rfl) ?_
      refine Eq.trans (q_iaload dX13_farFrom_59 (mk0 rfl) (no_ext hx54)) (bind_cg fun x59 => ?_)
      refine Eq.trans (q_goto (t := 64) dX13_farFrom_60 (mk0 rfl) rfl) ?_
      rfl
set_option maxRecDepth 20000 in
theorem bX13_farFrom_64 {L : Nat} {xs : Nat → Int32} (d : Nat) (o : Nat) (i1 : Int32) (u2 : Option Value) (i3 : Int32) (i4 : Int32) (u5 : Option Value) (i6 : Int32) (t0 : Int32) (t1 : Int32) (ph : PH) : RS (ZZ L xs) (d + 1) mX13_farFrom 64 [some (.ref o), some (.int i1), u2, some (.int i3), some (.int i4), u5, some (.int i6)] [.int t0, .int t1] ph = RS (ZZ L xs) (d + 1) mX13_farFrom 31 [some (.ref o), some (.int i1), none, some (.int i3), some (.int i4), some (.int (t1 ||| t0)), some (.int (i6 + 1))] [] ph := by
  refine Eq.trans (q_ior dX13_farFrom_64 (show mK mX13_farFrom 64 [some (.ref o), some (.int i1), u2, some (.int i3), some (.int i4), u5, some (.int i6)] = [some (.ref o), some (.int i1), none, some (.int i3), some (.int i4), none, some (.int i6)] from rfl)) ?_
  refine Eq.trans (q_istore (lv2 := [some (.ref o), some (.int i1), none, some (.int i3), some (.int i4), some (.int (t1 ||| t0)), some (.int i6)]) dX13_farFrom_65 (mk0 rfl) (Nat.le_of_ble_eq_true rfl) rfl) ?_
  refine Eq.trans (q_iinc (v := 1) (lv2 := [some (.ref o), some (.int i1), none, some (.int i3), some (.int i4), some (.int (t1 ||| t0)), some (.int (i6 + 1))]) dX13_farFrom_67 (mk0 rfl) rfl rfl rfl) ?_
  refine Eq.trans (q_goto (t := 31) dX13_farFrom_70 (mk0 rfl) rfl) ?_
  rfl
set_option maxRecDepth 20000 in
theorem bX13_firstOn_0 {L : Nat} {xs : Nat → Int32} (d : Nat) (o : Nat) (i1 : Int32) (i2 : Int32) (ph : PH) : RS (ZZ L xs) (d + 1) mX13_firstOn 0 [some (.ref o), some (.int i1), some (.int i2), none, none] [] ph = (iO ph (.ref o) 13).bind fun b3 => (cI (ZZ L xs) d mX13_farFrom [.ref b3, .int i1, .int i2] ph).bind fun p3 => RS (ZZ L xs) (d + 1) mX13_firstOn 10 [some (.ref o), some (.int i1), some (.int i2), some (.int p3.2), some (.int 0)] [] p3.1 := by
  refine Eq.trans (q_aload_n dX13_firstOn_0 (mk0 rfl) rfl rfl) ?_
  refine Eq.trans (q_iload_n dX13_firstOn_1 (mk0 rfl) rfl) ?_
  refine Eq.trans (q_iload_n dX13_firstOn_2 (mk0 rfl) rfl) ?_
  refine Eq.trans (q_callV (as := [.int i1, .int i2]) dX13_firstOn_3 (mk0 rfl) rfl rfl rfl (Nat.le_of_ble_eq_true rfl) (Nat.le_of_ble_eq_true rfl)) (bind_cg fun b3 => ?_)
  refine Eq.trans (cI_bind (Or.inl rfl)) (bind_cg fun p3 => ?_)
  show RS (ZZ L xs) (d + 1) mX13_firstOn 6 [some (.ref o), some (.int i1), some (.int i2), none, none] [.int p3.2] p3.1 = _
  refine Eq.trans (q_istore_n (lv2 := [some (.ref o), some (.int i1), some (.int i2), some (.int p3.2), none]) dX13_firstOn_6 (mk0 rfl) (Nat.le_of_ble_eq_true rfl) rfl) ?_
  refine Eq.trans (q_iconst (v := 0) dX13_firstOn_7 (mk0 rfl) rfl) ?_
  refine Eq.trans (q_istore (lv2 := [some (.ref o), some (.int i1), some (.int i2), some (.int p3.2), some (.int 0)]) dX13_firstOn_8 (mk0 rfl) (Nat.le_of_ble_eq_true rfl) rfl) ?_
  rfl
set_option maxRecDepth 20000 in
theorem bX13_firstOn_10 {L : Nat} {xs : Nat → Int32} (d : Nat) (o : Nat) (i1 : Int32) (i2 : Int32) (i3 : Int32) (i4 : Int32) (ph : PH) : RS (ZZ L xs) (d + 1) mX13_firstOn 10 [some (.ref o), some (.int i1), some (.int i2), some (.int i3), some (.int i4)] [] ph = (fR ph (.ref o) 13 1).bind fun x13 => (eI ph x13 0).bind fun x17 => if (x17 : Int32) ≤ i4 then RS (ZZ L xs) (d + 1) mX13_firstOn 67 [some (.ref o), some (.int i1), some (.int i2), some (.int i3), some (.int i4)] [] ph else if (i3 : Int32) ≤ 0 then RS (ZZ L xs) (d + 1) mX13_firstOn 67 [some (.ref o), some (.int i1), some (.int i2), some (.int i3), some (.int i4)] [] ph else if (99 : Int32) ≤ i3 then RS (ZZ L xs) (d + 1) mX13_firstOn 67 [some (.ref o), some (.int i1), some (.int i2), some (.int i3), some (.int i4)] [] ph else (fR ph (.ref o) 13 9).bind fun x32 => (eI ph x32 i1).bind fun x36 => (cI (ZZ L xs) d mX13_has [.int x36, .int i4] ph).bind fun p39 => if (p39.2 : Int32) = 0 then RS (ZZ L xs) (d + 1) mX13_firstOn 61 [some (.ref o), some (.int i1), some (.int i2), some (.int i3), some (.int i4)] [] p39.1 else (iO p39.1 (.ref o) 13).bind fun b49 => (cI (ZZ L xs) d mX13_farFrom [.ref b49, .int i4, .int i2] p39.1).bind fun p49 => if ¬ (p49.2 : Int32) = i3 - 1 then RS (ZZ L xs) (d + 1) mX13_firstOn 61 [some (.ref o), some (.int i1), some (.int i2), some (.int i3), some (.int i4)] [] p49.1 else some (p49.1, some (.int i4)) := by
  refine Eq.trans (q_iload dX13_firstOn_10 (mk0 rfl) rfl) ?_
  refine Eq.trans (q_aload_n dX13_firstOn_12 (mk0 rfl) rfl rfl) ?_
  refine Eq.trans (q_getR (ci := 13) (k := 1) dX13_firstOn_13 (mk0 rfl) rfl) (bind_cg2 fun x13 hx13 => ?_)
  have hx13 := fR_isR hx13
  refine Eq.trans (q_iconst (v := 0) dX13_firstOn_16 (mk0 rfl) rfl) ?_
  refine Eq.trans (q_iaload dX13_firstOn_17 (mk0 rfl) (no_ext hx13)) (bind_cg fun x17 => ?_)
  refine Eq.trans (q_icmp_ge (t := 67) dX13_firstOn_18 (mk0 rfl) rfl) (ite_cg ?_ ?_)
  · rfl
  · refine Eq.trans (q_iload_n dX13_firstOn_21 (mk0 rfl) rfl) ?_
    refine Eq.trans (q_if_le (t := 67) dX13_firstOn_22 (mk0 rfl) rfl) (ite_cg ?_ ?_)
    · rfl
    · refine Eq.trans (q_iload_n dX13_firstOn_25 (mk0 rfl) rfl) ?_
      refine Eq.trans (q_bipush (v := 99) dX13_firstOn_26 (mk0 rfl) rfl) ?_
      refine Eq.trans (q_icmp_ge (t := 67) dX13_firstOn_28 (mk0 rfl) rfl) (ite_cg ?_ ?_)
      · rfl
      · refine Eq.trans (q_aload_n dX13_firstOn_31 (mk0 rfl) rfl rfl) ?_
        refine Eq.trans (q_getR (ci := 13) (k := 9) dX13_firstOn_32 (mk0 rfl) rfl) (bind_cg2 fun x32 hx32 => ?_)
        have hx32 := fR_isR hx32
        refine Eq.trans (q_iload_n dX13_firstOn_35 (mk0 rfl) rfl) ?_
        refine Eq.trans (q_iaload dX13_firstOn_36 (mk0 rfl) (no_ext hx32)) (bind_cg fun x36 => ?_)
        refine Eq.trans (q_iload dX13_firstOn_37 (mk0 rfl) rfl) ?_
        refine Eq.trans (q_callS (as := [.int x36, .int i4]) dX13_firstOn_39 (mk0 rfl) rfl (Or.inl rfl) rfl rfl (Nat.le_of_ble_eq_true rfl) (Nat.le_of_ble_eq_true rfl)) ?_
        refine Eq.trans (cI_bind (Or.inr rfl)) (bind_cg fun p39 => ?_)
        show RS (ZZ L xs) (d + 1) mX13_firstOn 42 [some (.ref o), some (.int i1), some (.int i2), some (.int i3), some (.int i4)] [.int p39.2] p39.1 = _
        refine Eq.trans (q_if_eq (t := 61) dX13_firstOn_42 (mk0 rfl) rfl) (ite_cg ?_ ?_)
        · rfl
        · refine Eq.trans (q_aload_n dX13_firstOn_45 (mk0 rfl) rfl rfl) ?_
          refine Eq.trans (q_iload dX13_firstOn_46 (mk0 rfl) rfl) ?_
          refine Eq.trans (q_iload_n dX13_firstOn_48 (mk0 rfl) rfl) ?_
          refine Eq.trans (q_callV (as := [.int i4, .int i2]) dX13_firstOn_49 (mk0 rfl) rfl rfl rfl (Nat.le_of_ble_eq_true rfl) (Nat.le_of_ble_eq_true rfl)) (bind_cg fun b49 => ?_)
          refine Eq.trans (cI_bind (Or.inl rfl)) (bind_cg fun p49 => ?_)
          show RS (ZZ L xs) (d + 1) mX13_firstOn 52 [some (.ref o), some (.int i1), some (.int i2), some (.int i3), some (.int i4)] [.int p49.2] p49.1 = _
          refine Eq.trans (q_iload_n dX13_firstOn_52 (mk0 rfl) rfl) ?_
          refine Eq.trans (q_iconst (v := 1) dX13_firstOn_53 (mk0 rfl) rfl) ?_
          refine Eq.trans (q_isub dX13_firstOn_54 (mk0 rfl)) ?_
          refine Eq.trans (q_icmp_ne (t := 61) dX13_firstOn_55 (mk0 rfl) rfl) (ite_cg ?_ ?_)
          · rfl
          · refine Eq.trans (q_iload dX13_firstOn_58 (mk0 rfl) rfl) ?_
            exact q_ireturn dX13_firstOn_60 (mk0 rfl) rfl
set_option maxRecDepth 20000 in
theorem bX13_firstOn_61 {L : Nat} {xs : Nat → Int32} (d : Nat) (o : Nat) (i1 : Int32) (i2 : Int32) (i3 : Int32) (i4 : Int32) (ph : PH) : RS (ZZ L xs) (d + 1) mX13_firstOn 61 [some (.ref o), some (.int i1), some (.int i2), some (.int i3), some (.int i4)] [] ph = RS (ZZ L xs) (d + 1) mX13_firstOn 10 [some (.ref o), some (.int i1), some (.int i2), some (.int i3), some (.int (i4 + 1))] [] ph := by
  refine Eq.trans (q_iinc (v := 1) (lv2 := [some (.ref o), some (.int i1), some (.int i2), some (.int i3), some (.int (i4 + 1))]) dX13_firstOn_61 (mk0 rfl) rfl rfl rfl) ?_
  refine Eq.trans (q_goto (t := 10) dX13_firstOn_64 (mk0 rfl) rfl) ?_
  rfl
set_option maxRecDepth 20000 in
theorem bX13_firstOn_67 {L : Nat} {xs : Nat → Int32} (d : Nat) (u0 : Option Value) (i1 : Int32) (u2 : Option Value) (u3 : Option Value) (u4 : Option Value) (ph : PH) : RS (ZZ L xs) (d + 1) mX13_firstOn 67 [u0, some (.int i1), u2, u3, u4] [] ph = some (ph, some (.int i1)) := by
  refine Eq.trans (q_iload_n dX13_firstOn_67 (show mK mX13_firstOn 67 [u0, some (.int i1), u2, u3, u4] = [none, some (.int i1), none, none, none] from rfl) rfl) ?_
  exact q_ireturn dX13_firstOn_68 (mk0 rfl) rfl
set_option maxRecDepth 20000 in
theorem bX13_leastBy_0 {L : Nat} {xs : Nat → Int32} (d : Nat) (o : Nat) (i1 : Int32) (ph : PH) : RS (ZZ L xs) (d + 1) mX13_leastBy 0 [some (.ref o), some (.int i1), none] [] ph = RS (ZZ L xs) (d + 1) mX13_leastBy 2 [some (.ref o), some (.int i1), some (.int 0)] [] ph := by
  refine Eq.trans (q_iconst (v := 0) dX13_leastBy_0 (mk0 rfl) rfl) ?_
  refine Eq.trans (q_istore_n (lv2 := [some (.ref o), some (.int i1), some (.int 0)]) dX13_leastBy_1 (mk0 rfl) (Nat.le_of_ble_eq_true rfl) rfl) ?_
  rfl
set_option maxRecDepth 20000 in
theorem bX13_leastBy_2 {L : Nat} {xs : Nat → Int32} (d : Nat) (o : Nat) (i1 : Int32) (i2 : Int32) (ph : PH) : RS (ZZ L xs) (d + 1) mX13_leastBy 2 [some (.ref o), some (.int i1), some (.int i2)] [] ph = (fR ph (.ref o) 13 1).bind fun x4 => (eI ph x4 0).bind fun x8 => if (x8 : Int32) ≤ i2 then some (ph, some (.int i1)) else (fR ph (.ref o) 13 9).bind fun x13 => (eI ph x13 i1).bind fun x17 => (cI (ZZ L xs) d mX13_has [.int x17, .int i2] ph).bind fun p19 => if (p19.2 : Int32) = 0 then RS (ZZ L xs) (d + 1) mX13_leastBy 2 [some (.ref o), some (.int i1), some (.int (i2 + 1))] [] p19.1 else some (p19.1, some (.int i2)) := by
  refine Eq.trans (q_iload_n dX13_leastBy_2 (mk0 rfl) rfl) ?_
  refine Eq.trans (q_aload_n dX13_leastBy_3 (mk0 rfl) rfl rfl) ?_
  refine Eq.trans (q_getR (ci := 13) (k := 1) dX13_leastBy_4 (mk0 rfl) rfl) (bind_cg2 fun x4 hx4 => ?_)
  have hx4 := fR_isR hx4
  refine Eq.trans (q_iconst (v := 0) dX13_leastBy_7 (mk0 rfl) rfl) ?_
  refine Eq.trans (q_iaload dX13_leastBy_8 (mk0 rfl) (no_ext hx4)) (bind_cg fun x8 => ?_)
  refine Eq.trans (q_icmp_ge (t := 33) dX13_leastBy_9 (mk0 rfl) rfl) (ite_cg ?_ ?_)
  · refine Eq.trans (q_iload_n dX13_leastBy_33 (mk0 rfl) rfl) ?_
    exact q_ireturn dX13_leastBy_34 (mk0 rfl) rfl
  · refine Eq.trans (q_aload_n dX13_leastBy_12 (mk0 rfl) rfl rfl) ?_
    refine Eq.trans (q_getR (ci := 13) (k := 9) dX13_leastBy_13 (mk0 rfl) rfl) (bind_cg2 fun x13 hx13 => ?_)
    have hx13 := fR_isR hx13
    refine Eq.trans (q_iload_n dX13_leastBy_16 (mk0 rfl) rfl) ?_
    refine Eq.trans (q_iaload dX13_leastBy_17 (mk0 rfl) (no_ext hx13)) (bind_cg fun x17 => ?_)
    refine Eq.trans (q_iload_n dX13_leastBy_18 (mk0 rfl) rfl) ?_
    refine Eq.trans (q_callS (as := [.int x17, .int i2]) dX13_leastBy_19 (mk0 rfl) rfl (Or.inl rfl) rfl rfl (Nat.le_of_ble_eq_true rfl) (Nat.le_of_ble_eq_true rfl)) ?_
    refine Eq.trans (cI_bind (Or.inr rfl)) (bind_cg fun p19 => ?_)
    show RS (ZZ L xs) (d + 1) mX13_leastBy 22 [some (.ref o), some (.int i1), some (.int i2)] [.int p19.2] p19.1 = _
    refine Eq.trans (q_if_eq (t := 27) dX13_leastBy_22 (mk0 rfl) rfl) (ite_cg ?_ ?_)
    · refine Eq.trans (q_iinc (v := 1) (lv2 := [some (.ref o), some (.int i1), some (.int (i2 + 1))]) dX13_leastBy_27 (mk0 rfl) rfl rfl rfl) ?_
      refine Eq.trans (q_goto (t := 2) dX13_leastBy_30 (mk0 rfl) rfl) ?_
      rfl
    · refine Eq.trans (q_iload_n dX13_leastBy_25 (mk0 rfl) rfl) ?_
      exact q_ireturn dX13_leastBy_26 (mk0 rfl) rfl
set_option maxRecDepth 20000 in
theorem bX13_greatestBy_0 {L : Nat} {xs : Nat → Int32} (d : Nat) (o : Nat) (i1 : Int32) (ph : PH) : RS (ZZ L xs) (d + 1) mX13_greatestBy 0 [some (.ref o), some (.int i1), none, none] [] ph = RS (ZZ L xs) (d + 1) mX13_greatestBy 4 [some (.ref o), some (.int i1), some (.int i1), some (.int 0)] [] ph := by
  refine Eq.trans (q_iload_n dX13_greatestBy_0 (mk0 rfl) rfl) ?_
  refine Eq.trans (q_istore_n (lv2 := [some (.ref o), some (.int i1), some (.int i1), none]) dX13_greatestBy_1 (mk0 rfl) (Nat.le_of_ble_eq_true rfl) rfl) ?_
  refine Eq.trans (q_iconst (v := 0) dX13_greatestBy_2 (mk0 rfl) rfl) ?_
  refine Eq.trans (q_istore_n (lv2 := [some (.ref o), some (.int i1), some (.int i1), some (.int 0)]) dX13_greatestBy_3 (mk0 rfl) (Nat.le_of_ble_eq_true rfl) rfl) ?_
  rfl
