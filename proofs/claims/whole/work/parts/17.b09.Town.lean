set_option maxRecDepth 20000 in
theorem bX9_init_0 {L : Nat} {xs : Nat → Int32} (d : Nat) (o : Nat) (ph : PH) : RS (ZZ L xs) (d + 1) mX9_init 0 [some (.ref o)] [] ph = (fP (ph ++ [nwAr 0 6]) (.ref o) 9 6 (.ref ph.length)).bind fun h9 => (fP (h9 ++ [nwAr 0 6]) (.ref o) 9 7 (.ref h9.length)).bind fun h17 => (fP (h17 ++ [nwAr 0 5]) (.ref o) 9 8 (.ref h17.length)).bind fun h24 => (fP (h24 ++ [nwAr 0 5]) (.ref o) 9 9 (.ref h24.length)).bind fun h31 => (fP (h31 ++ [nwAr 0 5]) (.ref o) 9 10 (.ref h31.length)).bind fun h38 => some (h38, none) := by
  refine Eq.trans (q_aload_n dX9_init_0 (mk0 rfl) rfl rfl) ?_
  refine Eq.trans (q_obj dX9_init_1 (mk0 rfl) rfl (Nat.le_of_ble_eq_true rfl)) ?_
  refine Eq.trans (q_aload_n dX9_init_4 (mk0 rfl) rfl rfl) ?_
  refine Eq.trans (q_bipush (v := 6) dX9_init_5 (mk0 rfl) rfl) ?_
  refine Eq.trans (q_newarray (t := 0) (e := nwAr 0 6) dX9_init_7 (mk0 rfl) (Or.inl ⟨rfl, rfl⟩) ⟨by decide, by decide⟩ rfl) ?_
  refine Eq.trans (q_put (ci := 9) (k := 6) (kd := 2) dX9_init_9 (mk0 rfl) rfl rfl (fun _ => ⟨rfl, rfl⟩)) (bind_cg fun h9 => ?_)
  refine Eq.trans (q_aload_n dX9_init_12 (mk0 rfl) rfl rfl) ?_
  refine Eq.trans (q_bipush (v := 6) dX9_init_13 (mk0 rfl) rfl) ?_
  refine Eq.trans (q_newarray (t := 0) (e := nwAr 0 6) dX9_init_15 (mk0 rfl) (Or.inl ⟨rfl, rfl⟩) ⟨by decide, by decide⟩ rfl) ?_
  refine Eq.trans (q_put (ci := 9) (k := 7) (kd := 2) dX9_init_17 (mk0 rfl) rfl rfl (fun _ => ⟨rfl, rfl⟩)) (bind_cg fun h17 => ?_)
  refine Eq.trans (q_aload_n dX9_init_20 (mk0 rfl) rfl rfl) ?_
  refine Eq.trans (q_iconst (v := 5) dX9_init_21 (mk0 rfl) rfl) ?_
  refine Eq.trans (q_newarray (t := 0) (e := nwAr 0 5) dX9_init_22 (mk0 rfl) (Or.inl ⟨rfl, rfl⟩) ⟨by decide, by decide⟩ rfl) ?_
  refine Eq.trans (q_put (ci := 9) (k := 8) (kd := 2) dX9_init_24 (mk0 rfl) rfl rfl (fun _ => ⟨rfl, rfl⟩)) (bind_cg fun h24 => ?_)
  refine Eq.trans (q_aload_n dX9_init_27 (mk0 rfl) rfl rfl) ?_
  refine Eq.trans (q_iconst (v := 5) dX9_init_28 (mk0 rfl) rfl) ?_
  refine Eq.trans (q_newarray (t := 0) (e := nwAr 0 5) dX9_init_29 (mk0 rfl) (Or.inl ⟨rfl, rfl⟩) ⟨by decide, by decide⟩ rfl) ?_
  refine Eq.trans (q_put (ci := 9) (k := 9) (kd := 2) dX9_init_31 (mk0 rfl) rfl rfl (fun _ => ⟨rfl, rfl⟩)) (bind_cg fun h31 => ?_)
  refine Eq.trans (q_aload_n dX9_init_34 (mk0 rfl) rfl rfl) ?_
  refine Eq.trans (q_iconst (v := 5) dX9_init_35 (mk0 rfl) rfl) ?_
  refine Eq.trans (q_newarray (t := 0) (e := nwAr 0 5) dX9_init_36 (mk0 rfl) (Or.inl ⟨rfl, rfl⟩) ⟨by decide, by decide⟩ rfl) ?_
  refine Eq.trans (q_put (ci := 9) (k := 10) (kd := 2) dX9_init_38 (mk0 rfl) rfl rfl (fun _ => ⟨rfl, rfl⟩)) (bind_cg fun h38 => ?_)
  exact q_return dX9_init_41 (mk0 rfl) rfl
