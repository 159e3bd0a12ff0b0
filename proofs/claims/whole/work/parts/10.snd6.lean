/-! one step, put together -/
def kOK (Z : PT) : Prop := ∀ (o i : Nat) (v : Value), Z.2.2.2.2.1 o i = some v → (∀ x, v = .int x → Cond.constant (cn o) i x ∈ GW) ∧ (∀ x, v = .long x → Cond.constantLong (cn o) i x ∈ GW) ∧ (∀ k, v = .retAddr k → ∃ (j : Nat) (q : String × Nat × String), k = j + 1 ∧ strL[j]? = some q ∧ q.1 = cn o ∧ q.2.1 = i)
def wOK : Prop := Cond.arrayClass .int ∈ GW ∧ Cond.arrayClass .long ∈ GW ∧ Cond.arrayClass .byte ∈ GW ∧ Cond.arrayClass .boolean ∈ GW
def ZOK (Z : PT) (L : Nat) (xs : Nat → Int32) : Prop := fOK Z ∧ clOK ∧ cOK Z ∧ ndOK Z ∧ adOK Z ∧ kOK Z ∧ wOK ∧ Z.2.2.2.2.2 0 = some (L, xs)
theorem pF_same {ph ph' : PH} {o ci k : Nat} {v : Value} (h : pF ph o ci k v = some ph') : ph'.length = ph.length ∧ sl ph' = sl ph := by
  unfold pF at h
  split at h
  · rename_i hc
    split at h
    · cases h; exact ⟨len_set _ _ _, sl_set hc (by simp [slE])⟩
    · cases h
  · cases h
theorem uI_same {ph ph' : PH} {o t : Nat} {i x : Int32} (h : uI ph o t i x = some ph') : ph'.length = ph.length ∧ sl ph' = sl ph := by
  unfold uI at h
  split at h
  · rename_i hc
    split at h
    · cases h; exact ⟨len_set _ _ _, sl_set hc rfl⟩
    · cases h
  · cases h
theorem uL_same {ph ph' : PH} {o : Nat} {i : Int32} {x : Int64} (h : uL ph o i x = some ph') : ph'.length = ph.length ∧ sl ph' = sl ph := by
  unfold uL at h
  split at h
  · rename_i hc
    split at h
    · cases h; exact ⟨len_set _ _ _, sl_set hc rfl⟩
    · cases h
  · cases h
theorem uR_same {ph ph' : PH} {o v : Nat} {i : Int32} (h : uR ph o i v = some ph') : ph'.length = ph.length ∧ sl ph' = sl ph := by
  unfold uR at h
  split at h
  · rename_i hc
    split at h
    · cases h; exact ⟨len_set _ _ _, sl_set hc rfl⟩
    · cases h
  · cases h
theorem cpy_same {ph ph' : PH} {o d : Nat} {sp dp n : Int32} (h : cpy ph o sp d dp n = some ph') : ph'.length = ph.length ∧ sl ph' = sl ph := by
  unfold cpy at h
  split at h
  · rename_i hc
    split at h
    · cases h; exact ⟨len_set _ _ _, sl_set hc rfl⟩
    · cases h
  · cases h
theorem le_of_same {ph ph' : PH} (h : ph'.length = ph.length ∧ sl ph' = sl ph) : ph.length ≤ ph'.length ∧ sl ph ≤ sl ph' := ⟨Nat.le_of_eq h.1.symm, Nat.le_of_eq h.2.symm⟩
theorem bK_inv {ph : PH} {o t : Nat} (h : bK ph o = some t) : t = 2 ∨ t = 3 := by
  unfold bK at h
  split at h
  · split at h
    · rename_i hc; cases h; exact hc
    · cases h
  · cases h
theorem oRet_not {M : MD} {r : Option Value} {ph : PH} {y : CF} (h : oRet M r ph = some (.inr y)) : False := by
  unfold oRet at h
  split at h
  · cases h
  · cases h
theorem oNewA_mono {t bs pc : Nat} {lv : LV} {st : List Value} {ph : PH} {y : CF} (h : oNewA t bs pc lv st ph = some (.inr y)) : ph.length ≤ y.2.2.2.length ∧ sl ph ≤ sl y.2.2.2 := by
  unfold oNewA at h
  split at h
  · split at h
    · split at h
      · have hy := Sum.inr.inj (Option.some.inj h)
        subst hy
        exact ⟨by simp, by show sl ph ≤ sl (ph ++ _); rw [sl_push]; omega⟩
      · cases h
    · cases h
  · cases h
section SND6
variable {p : Program} {l : Launch} {e : Env} {R : Room} {s : State} {m : MethodId} {args : Array Value} {below : List Frame} {meth : Method} {c : Code} {Q : State → Prop}
variable {B : WB} {n0 z0 nL L : Nat} {xs : Nat → Int32} {M : MD} {pc : Nat} {lv : LV} {st : List Value} {ph : PH}
theorem sn_ldcS {ix j : Nat} {q : String × Nat × String} (C : CX p s m args meth c M B L xs) (hq : strL[j]? = some q) (h1 : q.1 = cn M.1) (h2 : q.2.1 = ix) (hdg : decode M.2.2.1 pc = .ok (.ldc ix, 2))
    (k : VV p l e R s m args below meth c Q B n0 z0 nL (pc + 2) lv (.retAddr (j + 1) :: st) ph) : VV p l e R s m args below meth c Q B n0 z0 nL pc lv st ph := by
  obtain ⟨hx, hb, hml, hown, hts, hE, -⟩ := C
  intro H locs cells slots ls I
  have hR := hE.2.2.2.2.1 j q hq
  rw [h1, h2] at hR
  exact va_ldcS hx hb hown hR hdg (k H locs cells slots ls I)
theorem sn_ldcSW {ix j : Nat} {q : String × Nat × String} (C : CX p s m args meth c M B L xs) (hq : strL[j]? = some q) (h1 : q.1 = cn M.1) (h2 : q.2.1 = ix) (hdg : decode M.2.2.1 pc = .ok (.ldc_w ix, 3))
    (k : VV p l e R s m args below meth c Q B n0 z0 nL (pc + 3) lv (.retAddr (j + 1) :: st) ph) : VV p l e R s m args below meth c Q B n0 z0 nL pc lv st ph := by
  obtain ⟨hx, hb, hml, hown, hts, hE, -⟩ := C
  intro H locs cells slots ls I
  have hR := hE.2.2.2.2.1 j q hq
  rw [h1, h2] at hR
  intro T hT X
  obtain ⟨t, a1, b1⟩ := k H locs cells slots ls I T hT X
  exact ⟨t, X.ldcStringW hx hown (text := q.2.2) (a := B.2.2.2.1 (j + 1)) hR.1 hR.2 (g := F0 m pc ls (st.map (rv B))) rfl (by rw [hb]; exact hdg) t a1, b1⟩
/-- what the String constants' methods answer (proved in a part of its own) -/
def STR (p : Program) (l : Launch) (e : Env) (R : Room) (s : State) (m : MethodId) (args : Array Value) (below : List Frame) (meth : Method) (c : Code) (Q : State → Prop) (B : WB) (n0 z0 nL : Nat) (M : MD) (Z : PT) : Prop :=
  ∀ (pc ix kd n : Nat) (M' : MD) (lv : LV) (st : List Value) (ph : PH) (y : CF), Z.2.1 M.1 ix = some (kd, n, M') → (kd = 10 ∨ kd = 11 ∨ kd = 12) → decode M.2.2.1 pc = .ok (.invokevirtual ix, 3) → oVi Z (fun _ _ _ => none) M ix pc lv st ph = some (.inr y) →
    y.2.2.2 = ph ∧ (ph.length - n0 ≤ R.cells → sl ph - z0 ≤ R.slots → VV p l e R s m args below meth c Q B n0 z0 nL y.1 y.2.1 y.2.2.1 y.2.2.2 → VV p l e R s m args below meth c Q B n0 z0 nL pc lv st ph)
set_option maxHeartbeats 4000000 in
theorem oneI_snd {Z : PT} {d len : Nat} {i : Instr} {y : CF} (C : CX p s m args meth c M B L xs) (hZ : ZOK Z L xs) (hH : HC l Z B L xs d) (hR : d + 11 ≤ R.frames ∧ (d + 1) * 48 + 480 ≤ R.locals) (hnL : M.2.2.2.1 = nL) (hS : STR p l e R s m args below meth c Q B n0 z0 nL M Z)
    (hdg : decode M.2.2.1 pc = .ok (i, len)) (h : oneI Z (CL Z d) M i len pc lv st ph = some (.inr y)) : (ph.length ≤ y.2.2.2.length ∧ sl ph ≤ sl y.2.2.2) ∧ (y.2.2.2.length - n0 ≤ R.cells → sl y.2.2.2 - z0 ≤ R.slots →
    VV p l e R s m args below meth c Q B n0 z0 nL y.1 y.2.1 y.2.2.1 y.2.2.2 → VV p l e R s m args below meth c Q B n0 z0 nL pc lv st ph) := by
  have C0 := C
  obtain ⟨hx, hb, hml, hown, hts, hE, hlk, hrt, hnm⟩ := C
  obtain ⟨zF, zC, zK, zN, zA, zV, zW, zS⟩ := hZ
  have same : ∀ {ph' : PH}, ph' = ph → ph.length ≤ ph'.length ∧ sl ph ≤ sl ph' := fun hp => by rw [hp]; exact ⟨Nat.le_refl _, Nat.le_refl _⟩
  cases i
  case aconst_null =>
    obtain ⟨hl, h1⟩ := lk_inv h
    clear h
    have hl2 := eq_of_beq hl
    clear hl
    subst hl2
    have h := h1
    clear h1
    have hy := Sum.inr.inj (Option.some.inj h)
    subst hy
    exact ⟨same rfl, fun _ _ k H locs cells slots ls I => lv_null hx hb hdg (k H locs cells slots ls I)⟩
  case iconst n =>
    obtain ⟨hl, h1⟩ := lk_inv h
    clear h
    have hl2 := eq_of_beq hl
    clear hl
    subst hl2
    have h := h1
    clear h1
    have hy := Sum.inr.inj (Option.some.inj h)
    subst hy
    exact ⟨same rfl, fun _ _ k H locs cells slots ls I => lv_iconst hx hb hdg rfl (k H locs cells slots ls I)⟩
  case bipush n =>
    obtain ⟨hl, h1⟩ := lk_inv h
    clear h
    have hl2 := eq_of_beq hl
    clear hl
    subst hl2
    have h := h1
    clear h1
    have hy := Sum.inr.inj (Option.some.inj h)
    subst hy
    exact ⟨same rfl, fun _ _ k H locs cells slots ls I => lv_bipush hx hb hdg rfl (k H locs cells slots ls I)⟩
  case sipush n =>
    obtain ⟨hl, h1⟩ := lk_inv h
    clear h
    have hl2 := eq_of_beq hl
    clear hl
    subst hl2
    have h := h1
    clear h1
    have hy := Sum.inr.inj (Option.some.inj h)
    subst hy
    exact ⟨same rfl, fun _ _ k H locs cells slots ls I => lv_sipush hx hb hdg rfl (k H locs cells slots ls I)⟩
  case lconst n =>
    obtain ⟨hl, h1⟩ := lk_inv h
    clear h
    have hl2 := eq_of_beq hl
    clear hl
    subst hl2
    have h := h1
    clear h1
    have hy := Sum.inr.inj (Option.some.inj h)
    subst hy
    exact ⟨same rfl, fun _ _ k H locs cells slots ls I => lv_lconst hx hb hdg rfl (k H locs cells slots ls I)⟩
  case ldc ix =>
    obtain ⟨hl, h1⟩ := lk_inv h
    clear h
    have hl2 := eq_of_beq hl
    clear hl
    subst hl2
    have h := h1
    clear h1
    split at h
    · rename_i v hv
      have hy := Sum.inr.inj (Option.some.inj h)
      subst hy
      exact ⟨same rfl, fun _ _ k H locs cells slots ls I => lv_ldc hx hb hown (hts _ ((zV _ _ _ hv).1 _ rfl)) hdg (k H locs cells slots ls I)⟩
    · rename_i kk hv
      have hy := Sum.inr.inj (Option.some.inj h)
      subst hy
      obtain ⟨j, q, rfl, q1, q2, q3⟩ := (zV _ _ _ hv).2.2 _ rfl
      exact ⟨same rfl, fun _ _ k => sn_ldcS C0 q1 q2 q3 hdg k⟩
    · cases h
  case ldc_w ix =>
    obtain ⟨hl, h1⟩ := lk_inv h
    clear h
    have hl2 := eq_of_beq hl
    clear hl
    subst hl2
    have h := h1
    clear h1
    split at h
    · rename_i v hv
      have hy := Sum.inr.inj (Option.some.inj h)
      subst hy
      exact ⟨same rfl, fun _ _ k H locs cells slots ls I => lv_ldcw hx hb hown (hts _ ((zV _ _ _ hv).1 _ rfl)) hdg (k H locs cells slots ls I)⟩
    · rename_i kk hv
      have hy := Sum.inr.inj (Option.some.inj h)
      subst hy
      obtain ⟨j, q, rfl, q1, q2, q3⟩ := (zV _ _ _ hv).2.2 _ rfl
      exact ⟨same rfl, fun _ _ k => sn_ldcSW C0 q1 q2 q3 hdg k⟩
    · cases h
  case ldc2_w ix =>
    obtain ⟨hl, h1⟩ := lk_inv h
    clear h
    have hl2 := eq_of_beq hl
    clear hl
    subst hl2
    have h := h1
    clear h1
    split at h
    · rename_i v hv
      have hy := Sum.inr.inj (Option.some.inj h)
      subst hy
      exact ⟨same rfl, fun _ _ k H locs cells slots ls I => lv_ldc2 hx hb hown (hts _ ((zV _ _ _ hv).2.1 _ rfl)) hdg (k H locs cells slots ls I)⟩
    · cases h
  case iload kx =>
    obtain ⟨hl, h1⟩ := lk_inv h
    clear h
    have hl2 := eq_of_beq hl
    clear hl
    subst hl2
    have h := h1
    clear h1
    obtain ⟨x, hg, rfl⟩ := iLd_inv h
    exact ⟨same rfl, fun _ _ k H locs cells slots ls I => lv_iload hx hb hdg (I.2.2.1.at hg) (k H locs cells slots ls I)⟩
  case iload_n kx =>
    obtain ⟨hl, h1⟩ := lk_inv h
    clear h
    have hl2 := eq_of_beq hl
    clear hl
    subst hl2
    have h := h1
    clear h1
    obtain ⟨x, hg, rfl⟩ := iLd_inv h
    exact ⟨same rfl, fun _ _ k H locs cells slots ls I => lv_iload_n hx hb hdg rfl (I.2.2.1.at hg) (k H locs cells slots ls I)⟩
  case lload kx =>
    obtain ⟨hl, h1⟩ := lk_inv h
    clear h
    have hl2 := eq_of_beq hl
    clear hl
    subst hl2
    have h := h1
    clear h1
    obtain ⟨x, hg, rfl⟩ := lLd_inv h
    exact ⟨same rfl, fun _ _ k H locs cells slots ls I => lv_lload hx hb hdg (I.2.2.1.at hg) (k H locs cells slots ls I)⟩
  case lload_n kx =>
    obtain ⟨hl, h1⟩ := lk_inv h
    clear h
    have hl2 := eq_of_beq hl
    clear hl
    subst hl2
    have h := h1
    clear h1
    obtain ⟨x, hg, rfl⟩ := lLd_inv h
    exact ⟨same rfl, fun _ _ k H locs cells slots ls I => lv_lload_n hx hb hdg rfl (I.2.2.1.at hg) (k H locs cells slots ls I)⟩
  case aload kx =>
    obtain ⟨hl, h1⟩ := lk_inv h
    clear h
    have hl2 := eq_of_beq hl
    clear hl
    subst hl2
    have h := h1
    clear h1
    obtain ⟨v, hg, rfl, hv⟩ := aLd_inv (B := B) h
    refine ⟨same rfl, fun _ _ k H locs cells slots ls I => ?_⟩
    have hk := k H locs cells slots ls I
    have hg := I.2.2.1.at hg
    rw [List.map_cons] at hk
    rcases hv with ⟨q, hq⟩ | hq
    · rw [hq] at hk hg
      exact lv_aload hx hb hdg hg hk
    · rw [hq] at hk hg
      exact lv_aloadN hx hb hdg hg hk
  case aload_n kx =>
    obtain ⟨hl, h1⟩ := lk_inv h
    clear h
    have hl2 := eq_of_beq hl
    clear hl
    subst hl2
    have h := h1
    clear h1
    obtain ⟨v, hg, rfl, hv⟩ := aLd_inv (B := B) h
    refine ⟨same rfl, fun _ _ k H locs cells slots ls I => ?_⟩
    have hk := k H locs cells slots ls I
    have hg := I.2.2.1.at hg
    rw [List.map_cons] at hk
    rcases hv with ⟨q, hq⟩ | hq
    · rw [hq] at hk hg
      exact lv_aload_n hx hb hdg rfl hg hk
    · rw [hq] at hk hg
      exact lv_aload_nN hx hb hdg rfl hg hk
  case istore kx =>
    obtain ⟨hl, h1⟩ := lk_inv h
    clear h
    have hl2 := eq_of_beq hl
    clear hl
    subst hl2
    have h := h1
    clear h1
    obtain ⟨x, st0, rfl, hlt, rfl⟩ := iSt_inv h
    exact ⟨same rfl, fun _ _ k H locs cells slots ls I => lv_istore hx hb hdg I.2.2.1.2 (by rw [← I.2.2.1.1]; exact hlt) rfl (fun ls' hl' => k H locs cells slots ls' ⟨I.1, I.2.1, I.2.2.1.s1 hl', I.2.2.2⟩)⟩
  case istore_n kx =>
    obtain ⟨hl, h1⟩ := lk_inv h
    clear h
    have hl2 := eq_of_beq hl
    clear hl
    subst hl2
    have h := h1
    clear h1
    obtain ⟨x, st0, rfl, hlt, rfl⟩ := iSt_inv h
    exact ⟨same rfl, fun _ _ k H locs cells slots ls I => lv_istore_n hx hb hdg rfl I.2.2.1.2 (by rw [← I.2.2.1.1]; exact hlt) rfl (fun ls' hl' => k H locs cells slots ls' ⟨I.1, I.2.1, I.2.2.1.s1 hl', I.2.2.2⟩)⟩
  case lstore kx =>
    obtain ⟨hl, h1⟩ := lk_inv h
    clear h
    have hl2 := eq_of_beq hl
    clear hl
    subst hl2
    have h := h1
    clear h1
    obtain ⟨x, st0, rfl, hlt, rfl⟩ := lSt_inv h
    exact ⟨same rfl, fun _ _ k H locs cells slots ls I => lv_lstore hx hb hdg I.2.2.1.2 (by rw [← I.2.2.1.1]; exact hlt) rfl (fun ls' hl' => k H locs cells slots ls' ⟨I.1, I.2.1, I.2.2.1.s2 hl', I.2.2.2⟩)⟩
  case lstore_n kx =>
    obtain ⟨hl, h1⟩ := lk_inv h
    clear h
    have hl2 := eq_of_beq hl
    clear hl
    subst hl2
    have h := h1
    clear h1
    obtain ⟨x, st0, rfl, hlt, rfl⟩ := lSt_inv h
    exact ⟨same rfl, fun _ _ k H locs cells slots ls I => lv_lstore_n hx hb hdg rfl I.2.2.1.2 (by rw [← I.2.2.1.1]; exact hlt) rfl (fun ls' hl' => k H locs cells slots ls' ⟨I.1, I.2.1, I.2.2.1.s2 hl', I.2.2.2⟩)⟩
  case astore kx =>
    obtain ⟨hl, h1⟩ := lk_inv h
    clear h
    have hl2 := eq_of_beq hl
    clear hl
    subst hl2
    have h := h1
    clear h1
    obtain ⟨v, st0, rfl, hlt, rfl, hv⟩ := aSt_inv (B := B) h
    refine ⟨same rfl, fun _ _ k H locs cells slots ls I => ?_⟩
    rw [List.map_cons]
    rcases hv with ⟨q, hq⟩ | hq
    · rw [hq]
      exact lv_astore hx hb hdg I.2.2.1.2 (by rw [← I.2.2.1.1]; exact hlt) rfl (fun ls' hl' => k H locs cells slots ls' ⟨I.1, I.2.1, I.2.2.1.s1 (by rw [hq]; exact hl'), I.2.2.2⟩)
    · rw [hq]
      exact lv_astoreN hx hb hdg I.2.2.1.2 (by rw [← I.2.2.1.1]; exact hlt) rfl (fun ls' hl' => k H locs cells slots ls' ⟨I.1, I.2.1, I.2.2.1.s1 (by rw [hq]; exact hl'), I.2.2.2⟩)
  case astore_n kx =>
    obtain ⟨hl, h1⟩ := lk_inv h
    clear h
    have hl2 := eq_of_beq hl
    clear hl
    subst hl2
    have h := h1
    clear h1
    obtain ⟨v, st0, rfl, hlt, rfl, hv⟩ := aSt_inv (B := B) h
    refine ⟨same rfl, fun _ _ k H locs cells slots ls I => ?_⟩
    rw [List.map_cons]
    rcases hv with ⟨q, hq⟩ | hq
    · rw [hq]
      exact lv_astore_n hx hb hdg rfl I.2.2.1.2 (by rw [← I.2.2.1.1]; exact hlt) rfl (fun ls' hl' => k H locs cells slots ls' ⟨I.1, I.2.1, I.2.2.1.s1 (by rw [hq]; exact hl'), I.2.2.2⟩)
    · rw [hq]
      exact lv_astore_nN hx hb hdg rfl I.2.2.1.2 (by rw [← I.2.2.1.1]; exact hlt) rfl (fun ls' hl' => k H locs cells slots ls' ⟨I.1, I.2.1, I.2.2.1.s1 (by rw [hq]; exact hl'), I.2.2.2⟩)
  case iinc kx n =>
    obtain ⟨hl, h1⟩ := lk_inv h
    clear h
    have hl2 := eq_of_beq hl
    clear hl
    subst hl2
    have h := h1
    clear h1
    split at h
    · rename_i x hg
      have hy := Sum.inr.inj (Option.some.inj h)
      subst hy
      refine ⟨same rfl, fun _ _ k H locs cells slots ls I => ?_⟩
      obtain ⟨j, hj⟩ := List.getElem?_of_mem (al_mem (B := B) (lv := lv) (q := (kx, .int x)) |>.mpr ⟨_, hg, rfl⟩)
      have hlt : kx < lv.length := by
        rcases Nat.lt_or_ge kx lv.length with h | h
        · exact h
        · unfold gL at hg
          rw [List.getElem?_eq_none h] at hg
          cases hg
      exact lv_iinc hx hb hdg I.2.2.1.2 hj rfl (by rw [← I.2.2.1.1]; exact hlt) rfl (fun ls' hl' => k H locs cells slots ls' ⟨I.1, I.2.1, I.2.2.1.s1 hl', I.2.2.2⟩)
    · cases h
  case dup =>
    obtain ⟨hl, h1⟩ := lk_inv h
    clear h
    have hl2 := eq_of_beq hl
    clear hl
    subst hl2
    have h := h1
    clear h1
    split at h
    · split at h
      · rename_i hc
        have hy := Sum.inr.inj (Option.some.inj h)
        subst hy
        exact ⟨same rfl, fun _ _ k H locs cells slots ls I => lv_dup hx hb hdg (by rw [rv_cat]; exact hc) (k H locs cells slots ls I)⟩
      · cases h
    · cases h
  case dup2 =>
    obtain ⟨hl, h1⟩ := lk_inv h
    clear h
    have hl2 := eq_of_beq hl
    clear hl
    subst hl2
    have h := h1
    clear h1
    split at h
    · split at h
      · rename_i hc
        have hy := Sum.inr.inj (Option.some.inj h)
        subst hy
        exact ⟨same rfl, fun _ _ k H locs cells slots ls I => lv_dup2_11 hx hb hdg (by rw [rv_cat]; exact hc.1) (by rw [rv_cat]; exact hc.2) (k H locs cells slots ls I)⟩
      · cases h
    · cases h
  case pop =>
    obtain ⟨hl, h1⟩ := lk_inv h
    clear h
    have hl2 := eq_of_beq hl
    clear hl
    subst hl2
    have h := h1
    clear h1
    split at h
    · split at h
      · rename_i hc
        have hy := Sum.inr.inj (Option.some.inj h)
        subst hy
        exact ⟨same rfl, fun _ _ k H locs cells slots ls I => lv_pop hx hb hdg (by rw [rv_cat]; exact hc) (k H locs cells slots ls I)⟩
      · cases h
    · cases h
  case iadd =>
    obtain ⟨hl, h1⟩ := lk_inv h
    clear h
    have hl2 := eq_of_beq hl
    clear hl
    subst hl2
    have h := h1
    clear h1
    obtain ⟨a, b, st0, rfl, rfl⟩ := bI_inv h
    exact ⟨same rfl, fun _ _ k H locs cells slots ls I => lv_iadd hx hb hdg (k H locs cells slots ls I)⟩
  case isub =>
    obtain ⟨hl, h1⟩ := lk_inv h
    clear h
    have hl2 := eq_of_beq hl
    clear hl
    subst hl2
    have h := h1
    clear h1
    obtain ⟨a, b, st0, rfl, rfl⟩ := bI_inv h
    exact ⟨same rfl, fun _ _ k H locs cells slots ls I => lv_isub hx hb hdg (k H locs cells slots ls I)⟩
  case imul =>
    obtain ⟨hl, h1⟩ := lk_inv h
    clear h
    have hl2 := eq_of_beq hl
    clear hl
    subst hl2
    have h := h1
    clear h1
    obtain ⟨a, b, st0, rfl, rfl⟩ := bI_inv h
    exact ⟨same rfl, fun _ _ k H locs cells slots ls I => lv_imul hx hb hdg (k H locs cells slots ls I)⟩
  case iand =>
    obtain ⟨hl, h1⟩ := lk_inv h
    clear h
    have hl2 := eq_of_beq hl
    clear hl
    subst hl2
    have h := h1
    clear h1
    obtain ⟨a, b, st0, rfl, rfl⟩ := bI_inv h
    exact ⟨same rfl, fun _ _ k H locs cells slots ls I => lv_iand hx hb hdg (k H locs cells slots ls I)⟩
  case ior =>
    obtain ⟨hl, h1⟩ := lk_inv h
    clear h
    have hl2 := eq_of_beq hl
    clear hl
    subst hl2
    have h := h1
    clear h1
    obtain ⟨a, b, st0, rfl, rfl⟩ := bI_inv h
    exact ⟨same rfl, fun _ _ k H locs cells slots ls I => lv_ior hx hb hdg (k H locs cells slots ls I)⟩
  case ixor =>
    obtain ⟨hl, h1⟩ := lk_inv h
    clear h
    have hl2 := eq_of_beq hl
    clear hl
    subst hl2
    have h := h1
    clear h1
    obtain ⟨a, b, st0, rfl, rfl⟩ := bI_inv h
    exact ⟨same rfl, fun _ _ k H locs cells slots ls I => lv_ixor hx hb hdg (k H locs cells slots ls I)⟩
  case ishl =>
    obtain ⟨hl, h1⟩ := lk_inv h
    clear h
    have hl2 := eq_of_beq hl
    clear hl
    subst hl2
    have h := h1
    clear h1
    obtain ⟨a, b, st0, rfl, rfl⟩ := bI_inv h
    exact ⟨same rfl, fun _ _ k H locs cells slots ls I => lv_ishl hx hb hdg (k H locs cells slots ls I)⟩
  case ishr =>
    obtain ⟨hl, h1⟩ := lk_inv h
    clear h
    have hl2 := eq_of_beq hl
    clear hl
    subst hl2
    have h := h1
    clear h1
    obtain ⟨a, b, st0, rfl, rfl⟩ := bI_inv h
    exact ⟨same rfl, fun _ _ k H locs cells slots ls I => lv_ishr hx hb hdg (k H locs cells slots ls I)⟩
  case iushr =>
    obtain ⟨hl, h1⟩ := lk_inv h
    clear h
    have hl2 := eq_of_beq hl
    clear hl
    subst hl2
    have h := h1
    clear h1
    obtain ⟨a, b, st0, rfl, rfl⟩ := bI_inv h
    exact ⟨same rfl, fun _ _ k H locs cells slots ls I => lv_iushr hx hb hdg rfl (k H locs cells slots ls I)⟩
  case ladd =>
    obtain ⟨hl, h1⟩ := lk_inv h
    clear h
    have hl2 := eq_of_beq hl
    clear hl
    subst hl2
    have h := h1
    clear h1
    obtain ⟨a, b, st0, rfl, rfl⟩ := bL_inv h
    exact ⟨same rfl, fun _ _ k H locs cells slots ls I => lv_ladd hx hb hdg (k H locs cells slots ls I)⟩
  case lsub =>
    obtain ⟨hl, h1⟩ := lk_inv h
    clear h
    have hl2 := eq_of_beq hl
    clear hl
    subst hl2
    have h := h1
    clear h1
    obtain ⟨a, b, st0, rfl, rfl⟩ := bL_inv h
    exact ⟨same rfl, fun _ _ k H locs cells slots ls I => lv_lsub hx hb hdg (k H locs cells slots ls I)⟩
  case lmul =>
    obtain ⟨hl, h1⟩ := lk_inv h
    clear h
    have hl2 := eq_of_beq hl
    clear hl
    subst hl2
    have h := h1
    clear h1
    obtain ⟨a, b, st0, rfl, rfl⟩ := bL_inv h
    exact ⟨same rfl, fun _ _ k H locs cells slots ls I => lv_lmul hx hb hdg (k H locs cells slots ls I)⟩
  case land =>
    obtain ⟨hl, h1⟩ := lk_inv h
    clear h
    have hl2 := eq_of_beq hl
    clear hl
    subst hl2
    have h := h1
    clear h1
    obtain ⟨a, b, st0, rfl, rfl⟩ := bL_inv h
    exact ⟨same rfl, fun _ _ k H locs cells slots ls I => lv_land hx hb hdg (k H locs cells slots ls I)⟩
  case lor =>
    obtain ⟨hl, h1⟩ := lk_inv h
    clear h
    have hl2 := eq_of_beq hl
    clear hl
    subst hl2
    have h := h1
    clear h1
    obtain ⟨a, b, st0, rfl, rfl⟩ := bL_inv h
    exact ⟨same rfl, fun _ _ k H locs cells slots ls I => lv_lor hx hb hdg (k H locs cells slots ls I)⟩
  case lxor =>
    obtain ⟨hl, h1⟩ := lk_inv h
    clear h
    have hl2 := eq_of_beq hl
    clear hl
    subst hl2
    have h := h1
    clear h1
    obtain ⟨a, b, st0, rfl, rfl⟩ := bL_inv h
    exact ⟨same rfl, fun _ _ k H locs cells slots ls I => lv_lxor hx hb hdg (k H locs cells slots ls I)⟩
  case lshl =>
    obtain ⟨hl, h1⟩ := lk_inv h
    clear h
    have hl2 := eq_of_beq hl
    clear hl
    subst hl2
    have h := h1
    clear h1
    obtain ⟨a, b, st0, rfl, rfl⟩ := bLI_inv h
    exact ⟨same rfl, fun _ _ k H locs cells slots ls I => lv_lshl hx hb hdg rfl (k H locs cells slots ls I)⟩
  case lshr =>
    obtain ⟨hl, h1⟩ := lk_inv h
    clear h
    have hl2 := eq_of_beq hl
    clear hl
    subst hl2
    have h := h1
    clear h1
    obtain ⟨a, b, st0, rfl, rfl⟩ := bLI_inv h
    exact ⟨same rfl, fun _ _ k H locs cells slots ls I => lv_lshr hx hb hdg rfl (k H locs cells slots ls I)⟩
  case lushr =>
    obtain ⟨hl, h1⟩ := lk_inv h
    clear h
    have hl2 := eq_of_beq hl
    clear hl
    subst hl2
    have h := h1
    clear h1
    obtain ⟨a, b, st0, rfl, rfl⟩ := bLI_inv h
    exact ⟨same rfl, fun _ _ k H locs cells slots ls I => lv_lushr hx hb hdg rfl (k H locs cells slots ls I)⟩
  case idiv =>
    obtain ⟨hl, h1⟩ := lk_inv h
    clear h
    have hl2 := eq_of_beq hl
    clear hl
    subst hl2
    have h := h1
    clear h1
    split at h
    · split at h
      · cases h
      · rename_i hne
        have hy := Sum.inr.inj (Option.some.inj h)
        subst hy
        exact ⟨same rfl, fun _ _ k H locs cells slots ls I => lv_idiv hx hb hdg hne (k H locs cells slots ls I)⟩
    · cases h
  case irem =>
    obtain ⟨hl, h1⟩ := lk_inv h
    clear h
    have hl2 := eq_of_beq hl
    clear hl
    subst hl2
    have h := h1
    clear h1
    split at h
    · split at h
      · cases h
      · rename_i hne
        have hy := Sum.inr.inj (Option.some.inj h)
        subst hy
        exact ⟨same rfl, fun _ _ k H locs cells slots ls I => lv_irem hx hb hdg hne (k H locs cells slots ls I)⟩
    · cases h
  case ldiv =>
    obtain ⟨hl, h1⟩ := lk_inv h
    clear h
    have hl2 := eq_of_beq hl
    clear hl
    subst hl2
    have h := h1
    clear h1
    split at h
    · split at h
      · cases h
      · rename_i hne
        have hy := Sum.inr.inj (Option.some.inj h)
        subst hy
        exact ⟨same rfl, fun _ _ k H locs cells slots ls I => lv_ldiv hx hb hdg hne (k H locs cells slots ls I)⟩
    · cases h
  case lrem =>
    obtain ⟨hl, h1⟩ := lk_inv h
    clear h
    have hl2 := eq_of_beq hl
    clear hl
    subst hl2
    have h := h1
    clear h1
    split at h
    · split at h
      · cases h
      · rename_i hne
        have hy := Sum.inr.inj (Option.some.inj h)
        subst hy
        exact ⟨same rfl, fun _ _ k H locs cells slots ls I => lv_lrem hx hb hdg hne (k H locs cells slots ls I)⟩
    · cases h
  case i2l =>
    obtain ⟨hl, h1⟩ := lk_inv h
    clear h
    have hl2 := eq_of_beq hl
    clear hl
    subst hl2
    have h := h1
    clear h1
    split at h
    · have hy := Sum.inr.inj (Option.some.inj h)
      subst hy
      exact ⟨same rfl, fun _ _ k H locs cells slots ls I => lv_i2l hx hb hdg rfl (k H locs cells slots ls I)⟩
    · cases h
  case l2i =>
    obtain ⟨hl, h1⟩ := lk_inv h
    clear h
    have hl2 := eq_of_beq hl
    clear hl
    subst hl2
    have h := h1
    clear h1
    split at h
    · have hy := Sum.inr.inj (Option.some.inj h)
      subst hy
      exact ⟨same rfl, fun _ _ k H locs cells slots ls I => lv_l2i hx hb hdg rfl (k H locs cells slots ls I)⟩
    · cases h
  case i2b =>
    obtain ⟨hl, h1⟩ := lk_inv h
    clear h
    have hl2 := eq_of_beq hl
    clear hl
    subst hl2
    have h := h1
    clear h1
    split at h
    · have hy := Sum.inr.inj (Option.some.inj h)
      subst hy
      exact ⟨same rfl, fun _ _ k H locs cells slots ls I => lv_i2b hx hb hdg rfl (k H locs cells slots ls I)⟩
    · cases h
  case i2c =>
    obtain ⟨hl, h1⟩ := lk_inv h
    clear h
    have hl2 := eq_of_beq hl
    clear hl
    subst hl2
    have h := h1
    clear h1
    split at h
    · have hy := Sum.inr.inj (Option.some.inj h)
      subst hy
      exact ⟨same rfl, fun _ _ k H locs cells slots ls I => lv_i2c hx hb hdg rfl (k H locs cells slots ls I)⟩
    · cases h
  case lcmp =>
    obtain ⟨hl, h1⟩ := lk_inv h
    clear h
    have hl2 := eq_of_beq hl
    clear hl
    subst hl2
    have h := h1
    clear h1
    split at h
    · have hy := Sum.inr.inj (Option.some.inj h)
      subst hy
      exact ⟨same rfl, fun _ _ k H locs cells slots ls I => W.lcmp hx hb hdg (k H locs cells slots ls I)⟩
    · cases h
  case if_icmp cd off =>
    obtain ⟨hl, h1⟩ := lk_inv h
    clear h
    have hl2 := eq_of_beq hl
    clear hl
    subst hl2
    have h := h1
    clear h1
    cases cd
    case eq =>
      obtain ⟨a, b, st0, t, rfl, ht, rfl⟩ := brI_inv h
      exact ⟨same rfl, fun _ _ k H locs cells slots ls I => lv_icmp_eq hx hb hdg ht (fun q => by have k := k H locs cells slots ls I; rw [if_pos (by simpa using q)] at k; exact k) (fun q => by have k := k H locs cells slots ls I; rw [if_neg (by simpa using q)] at k; exact k)⟩
    case ne =>
      obtain ⟨a, b, st0, t, rfl, ht, rfl⟩ := brI_inv h
      exact ⟨same rfl, fun _ _ k H locs cells slots ls I => lv_icmp_ne hx hb hdg ht (fun q => by have k := k H locs cells slots ls I; rw [if_pos (by simpa using q)] at k; exact k) (fun q => by have k := k H locs cells slots ls I; rw [if_neg (by simpa using q)] at k; exact k)⟩
    case lt =>
      obtain ⟨a, b, st0, t, rfl, ht, rfl⟩ := brI_inv h
      exact ⟨same rfl, fun _ _ k H locs cells slots ls I => lv_icmp_lt hx hb hdg ht (fun q => by have k := k H locs cells slots ls I; rw [if_pos (by simpa using q)] at k; exact k) (fun q => by have k := k H locs cells slots ls I; rw [if_neg (by simpa using q)] at k; exact k)⟩
    case ge =>
      obtain ⟨a, b, st0, t, rfl, ht, rfl⟩ := brI_inv h
      exact ⟨same rfl, fun _ _ k H locs cells slots ls I => lv_icmp_ge hx hb hdg ht (fun q => by have k := k H locs cells slots ls I; rw [if_pos (by simpa using q)] at k; exact k) (fun q => by have k := k H locs cells slots ls I; rw [if_neg (by simpa using q)] at k; exact k)⟩
    case gt =>
      obtain ⟨a, b, st0, t, rfl, ht, rfl⟩ := brI_inv h
      exact ⟨same rfl, fun _ _ k H locs cells slots ls I => lv_icmp_gt hx hb hdg ht (fun q => by have k := k H locs cells slots ls I; rw [if_pos (by simpa using q)] at k; exact k) (fun q => by have k := k H locs cells slots ls I; rw [if_neg (by simpa using q)] at k; exact k)⟩
    case le =>
      obtain ⟨a, b, st0, t, rfl, ht, rfl⟩ := brI_inv h
      exact ⟨same rfl, fun _ _ k H locs cells slots ls I => lv_icmp_le hx hb hdg ht (fun q => by have k := k H locs cells slots ls I; rw [if_pos (by simpa using q)] at k; exact k) (fun q => by have k := k H locs cells slots ls I; rw [if_neg (by simpa using q)] at k; exact k)⟩
  case ifCond cd off =>
    obtain ⟨hl, h1⟩ := lk_inv h
    clear h
    have hl2 := eq_of_beq hl
    clear hl
    subst hl2
    have h := h1
    clear h1
    cases cd
    case eq =>
      obtain ⟨a, st0, t, rfl, ht, rfl⟩ := brZ_inv h
      exact ⟨same rfl, fun _ _ k H locs cells slots ls I => lv_if_eq hx hb hdg ht (fun q => by have k := k H locs cells slots ls I; rw [if_pos (by simpa using q)] at k; exact k) (fun q => by have k := k H locs cells slots ls I; rw [if_neg (by simpa using q)] at k; exact k)⟩
    case ne =>
      obtain ⟨a, st0, t, rfl, ht, rfl⟩ := brZ_inv h
      exact ⟨same rfl, fun _ _ k H locs cells slots ls I => lv_if_ne hx hb hdg ht (fun q => by have k := k H locs cells slots ls I; rw [if_pos (by simpa using q)] at k; exact k) (fun q => by have k := k H locs cells slots ls I; rw [if_neg (by simpa using q)] at k; exact k)⟩
    case lt =>
      obtain ⟨a, st0, t, rfl, ht, rfl⟩ := brZ_inv h
      exact ⟨same rfl, fun _ _ k H locs cells slots ls I => lv_if_lt hx hb hdg ht (fun q => by have k := k H locs cells slots ls I; rw [if_pos (by simpa using q)] at k; exact k) (fun q => by have k := k H locs cells slots ls I; rw [if_neg (by simpa using q)] at k; exact k)⟩
    case ge =>
      obtain ⟨a, st0, t, rfl, ht, rfl⟩ := brZ_inv h
      exact ⟨same rfl, fun _ _ k H locs cells slots ls I => lv_if_ge hx hb hdg ht (fun q => by have k := k H locs cells slots ls I; rw [if_pos (by simpa using q)] at k; exact k) (fun q => by have k := k H locs cells slots ls I; rw [if_neg (by simpa using q)] at k; exact k)⟩
    case gt =>
      obtain ⟨a, st0, t, rfl, ht, rfl⟩ := brZ_inv h
      exact ⟨same rfl, fun _ _ k H locs cells slots ls I => lv_if_gt hx hb hdg ht (fun q => by have k := k H locs cells slots ls I; rw [if_pos (by simpa using q)] at k; exact k) (fun q => by have k := k H locs cells slots ls I; rw [if_neg (by simpa using q)] at k; exact k)⟩
    case le =>
      obtain ⟨a, st0, t, rfl, ht, rfl⟩ := brZ_inv h
      exact ⟨same rfl, fun _ _ k H locs cells slots ls I => lv_if_le hx hb hdg ht (fun q => by have k := k H locs cells slots ls I; rw [if_pos (by simpa using q)] at k; exact k) (fun q => by have k := k H locs cells slots ls I; rw [if_neg (by simpa using q)] at k; exact k)⟩
  case goto off =>
    obtain ⟨hl, h1⟩ := lk_inv h
    clear h
    have hl2 := eq_of_beq hl
    clear hl
    subst hl2
    have h := h1
    clear h1
    split at h
    · rename_i t ht
      have hy := Sum.inr.inj (Option.some.inj h)
      subst hy
      exact ⟨same rfl, fun _ _ k H locs cells slots ls I => lv_goto hx hb hdg (tg_eq ht) (k H locs cells slots ls I)⟩
    · cases h
  case ifnull off =>
    obtain ⟨hl, h1⟩ := lk_inv h
    clear h
    have hl2 := eq_of_beq hl
    clear hl
    subst hl2
    have h := h1
    clear h1
    split at h
    · rename_i t ht
      have hy := Sum.inr.inj (Option.some.inj h)
      subst hy
      exact ⟨same rfl, fun _ _ k H locs cells slots ls I => lv_ifnullN hx hb hdg (tg_eq ht) (k H locs cells slots ls I)⟩
    · have hy := Sum.inr.inj (Option.some.inj h)
      subst hy
      exact ⟨same rfl, fun _ _ k H locs cells slots ls I => lv_ifnull hx hb hdg (k H locs cells slots ls I)⟩
    · cases h
  case ifnonnull off =>
    obtain ⟨hl, h1⟩ := lk_inv h
    clear h
    have hl2 := eq_of_beq hl
    clear hl
    subst hl2
    have h := h1
    clear h1
    split at h
    · rename_i t ht
      have hy := Sum.inr.inj (Option.some.inj h)
      subst hy
      exact ⟨same rfl, fun _ _ k H locs cells slots ls I => lv_ifnonnull hx hb hdg (tg_eq ht) (k H locs cells slots ls I)⟩
    · have hy := Sum.inr.inj (Option.some.inj h)
      subst hy
      exact ⟨same rfl, fun _ _ k H locs cells slots ls I => lv_ifnonnullN hx hb hdg (k H locs cells slots ls I)⟩
    · cases h
  case tableswitch dflt lo hi offs =>
    have h : (match st with
    | .int x :: st => match oSw x dflt lo hi offs with
      | some off => match tg pc off with
        | some t => nx t lv st ph
        | none => none
      | none => none
    | _ => none) = some (.inr y) := h
    split at h
    · split at h
      · rename_i off hoff
        split at h
        · rename_i t ht
          have hy := Sum.inr.inj (Option.some.inj h)
          subst hy
          refine ⟨same rfl, fun _ _ k H locs cells slots ls I => ?_⟩
          unfold oSw at hoff
          split at hoff
          · rename_i hout
            have : dflt = off := Option.some.inj hoff
            subst this
            exact lv_tableOut hx hb hdg hout (tg_eq ht) (k H locs cells slots ls I)
          · rename_i hin
            exact lv_tableIn hx hb hdg (fun q => hin (Or.inl q)) (fun q => hin (Or.inr q)) hoff (tg_eq ht) (k H locs cells slots ls I)
        · cases h
      · cases h
    · cases h
  case lookupswitch dflt ps =>
    have h : (match st with
    | .int x :: st => if (ps.toList.zip (ps.toList.drop 1)).all (fun (a, next) => a.1 < next.1) = true then match tg pc (Op.lookupswitch.offset ps.toList dflt x.toInt) with
      | some t => nx t lv st ph
      | none => none else none
    | _ => none) = some (.inr y) := h
    split at h
    · split at h
      · rename_i hps
        split at h
        · rename_i t ht
          have hy := Sum.inr.inj (Option.some.inj h)
          subst hy
          exact ⟨same rfl, fun _ _ k H locs cells slots ls I => lv_lookup hx hb hdg hps rfl (tg_eq ht) (k H locs cells slots ls I)⟩
        · cases h
      · cases h
    · cases h
  case getfield ix =>
    obtain ⟨hl, h1⟩ := lk_inv h
    clear h
    have hl2 := eq_of_beq hl
    clear hl
    subst hl2
    have h := h1
    clear h1
    refine ⟨?_, fun _ _ k => sn_get C0 zF zC hdg h k⟩
    unfold oGet at h
    split at h
    · split at h
      · split at h
        · split at h
          · have hy := Sum.inr.inj (Option.some.inj h)
            subst hy
            exact same rfl
          · cases h
        · cases h
      · cases h
    · cases h
  case putfield ix =>
    obtain ⟨hl, h1⟩ := lk_inv h
    clear h
    have hl2 := eq_of_beq hl
    clear hl
    subst hl2
    have h := h1
    clear h1
    refine ⟨?_, fun _ _ k => sn_put C0 zF zC hdg h k⟩
    unfold oPut at h
    split at h
    · split at h
      · split at h
        · split at h
          · rename_i hp
            have hy := Sum.inr.inj (Option.some.inj h)
            subst hy
            exact le_of_same (pF_same hp)
          · cases h
        · cases h
      · cases h
    · cases h
  case iaload =>
    obtain ⟨hl, h1⟩ := lk_inv h
    clear h
    have hl2 := eq_of_beq hl
    clear hl
    subst hl2
    have h := h1
    clear h1
    split at h
    · split at h
      · rename_i hu
        have hy := Sum.inr.inj (Option.some.inj h)
        subst hy
        exact ⟨same rfl, fun _ _ k => sn_iald C0 hdg hu k⟩
      · cases h
    · split at h
      · rename_i hz
        split at h
        · rename_i hin
          have hy := Sum.inr.inj (Option.some.inj h)
          subst hy
          rw [zS] at hz
          cases hz
          refine ⟨same rfl, fun _ _ k H locs cells slots ls I => ?_⟩
          obtain ⟨hX, hlt⟩ := hE.2.2.2.1
          exact va_sld (A := AA B) (H0 := s.heap) hx hb hX (by rw [I.2.2.2.1]; omega) (Nat.not_le.mpr hlt) I.2.1 hin hdg (k H locs cells slots ls I)
        · cases h
      · cases h
    · cases h
  case arraylength =>
    obtain ⟨hl, h1⟩ := lk_inv h
    clear h
    have hl2 := eq_of_beq hl
    clear hl
    subst hl2
    have h := h1
    clear h1
    split at h
    · split at h
      · rename_i hu
        have hy := Sum.inr.inj (Option.some.inj h)
        subst hy
        exact ⟨same rfl, fun _ _ k => sn_alen C0 hdg hu k⟩
      · cases h
    · split at h
      · rename_i hz
        have hy := Sum.inr.inj (Option.some.inj h)
        subst hy
        rw [zS] at hz
        cases hz
        refine ⟨same rfl, fun _ _ k H locs cells slots ls I => ?_⟩
        obtain ⟨hX, hlt⟩ := hE.2.2.2.1
        exact va_slen (A := AA B) (H0 := s.heap) hx hb hX (by rw [I.2.2.2.1]; omega) (Nat.not_le.mpr hlt) I.2.1 hdg (k H locs cells slots ls I)
      · cases h
    · cases h
  case baload =>
    obtain ⟨hl, h1⟩ := lk_inv h
    clear h
    have hl2 := eq_of_beq hl
    clear hl
    subst hl2
    have h := h1
    clear h1
    split at h
    · split at h
      · rename_i t hbk
        split at h
        · rename_i hu
          have hy := Sum.inr.inj (Option.some.inj h)
          subst hy
          exact ⟨same rfl, fun _ _ k => sn_bald C0 hdg (bK_inv hbk) hu k⟩
        · cases h
      · cases h
    · cases h
  case bastore =>
    obtain ⟨hl, h1⟩ := lk_inv h
    clear h
    have hl2 := eq_of_beq hl
    clear hl
    subst hl2
    have h := h1
    clear h1
    split at h
    · split at h
      · rename_i t hbk
        split at h
        · rename_i hu
          have hy := Sum.inr.inj (Option.some.inj h)
          subst hy
          exact ⟨le_of_same (uI_same hu), fun _ _ k => sn_bast C0 hdg (bK_inv hbk) hu k⟩
        · cases h
      · cases h
    · cases h
  case laload =>
    obtain ⟨hl, h1⟩ := lk_inv h
    clear h
    have hl2 := eq_of_beq hl
    clear hl
    subst hl2
    have h := h1
    clear h1
    split at h
    · split at h
      · rename_i hu
        have hy := Sum.inr.inj (Option.some.inj h)
        subst hy
        exact ⟨same rfl, fun _ _ k => sn_lald C0 hdg hu k⟩
      · cases h
    · cases h
  case aaload =>
    obtain ⟨hl, h1⟩ := lk_inv h
    clear h
    have hl2 := eq_of_beq hl
    clear hl
    subst hl2
    have h := h1
    clear h1
    split at h
    · split at h
      · rename_i hu
        have hy := Sum.inr.inj (Option.some.inj h)
        subst hy
        exact ⟨same rfl, fun _ _ k => sn_aald C0 hdg hu k⟩
      · cases h
    · cases h
  case iastore =>
    obtain ⟨hl, h1⟩ := lk_inv h
    clear h
    have hl2 := eq_of_beq hl
    clear hl
    subst hl2
    have h := h1
    clear h1
    split at h
    · split at h
      · rename_i hu
        have hy := Sum.inr.inj (Option.some.inj h)
        subst hy
        exact ⟨le_of_same (uI_same hu), fun _ _ k => sn_iast C0 hdg hu k⟩
      · cases h
    · cases h
  case lastore =>
    obtain ⟨hl, h1⟩ := lk_inv h
    clear h
    have hl2 := eq_of_beq hl
    clear hl
    subst hl2
    have h := h1
    clear h1
    split at h
    · split at h
      · rename_i hu
        have hy := Sum.inr.inj (Option.some.inj h)
        subst hy
        exact ⟨le_of_same (uL_same hu), fun _ _ k => sn_last C0 hdg hu k⟩
      · cases h
    · cases h
  case aastore =>
    obtain ⟨hl, h1⟩ := lk_inv h
    clear h
    have hl2 := eq_of_beq hl
    clear hl
    subst hl2
    have h := h1
    clear h1
    split at h
    · split at h
      · rename_i hu
        have hy := Sum.inr.inj (Option.some.inj h)
        subst hy
        exact ⟨le_of_same (uR_same hu), fun _ _ k => sn_aast C0 hdg hu k⟩
      · cases h
    · cases h
  case newarray at_ =>
    obtain ⟨hl, h1⟩ := lk_inv h
    clear h
    have hl2 := eq_of_beq hl
    clear hl
    subst hl2
    have h := h1
    clear h1
    cases at_
    case int => exact ⟨oNewA_mono h, fun r1 r2 k => sn_newa (t := 0) (bs := 4) C0 hdg zW.1 rfl rfl (fun n e1 he => by cases he; exact ⟨rfl, _, rfl, rfl, fun _ => rfl⟩) (fun U cA hh => hh) h r1 r2 k⟩
    case long => exact ⟨oNewA_mono h, fun r1 r2 k => sn_newa (t := 1) (bs := 8) C0 hdg zW.2.1 rfl rfl (fun n e1 he => by cases he; exact ⟨rfl, _, rfl, rfl, fun _ => rfl⟩) (fun U cA hh => hh) h r1 r2 k⟩
    case byte => exact ⟨oNewA_mono h, fun r1 r2 k => sn_newa (t := 2) (bs := 1) C0 hdg zW.2.2.1 rfl rfl (fun n e1 he => by cases he; exact ⟨rfl, _, rfl, rfl, fun _ => rfl⟩) (fun U cA hh => hh) h r1 r2 k⟩
    case boolean => exact ⟨oNewA_mono h, fun r1 r2 k => sn_newa (t := 3) (bs := 1) C0 hdg zW.2.2.2 rfl rfl (fun n e1 he => by cases he; exact ⟨rfl, _, rfl, rfl, fun _ => rfl⟩) (fun U cA hh => hh) h r1 r2 k⟩
    all_goals cases h
  case anewarray ix =>
    obtain ⟨hl, h1⟩ := lk_inv h
    clear h
    have hl2 := eq_of_beq hl
    clear hl
    subst hl2
    have h := h1
    clear h1
    split at h
    · rename_i hz
      split at h
      · rename_i hc
        have hy := Sum.inr.inj (Option.some.inj h)
        subst hy
        refine ⟨⟨by simp, by show sl ph ≤ sl (ph ++ _); rw [sl_push]; omega⟩, fun r1 r2 k => ?_⟩
        rcases zA _ _ _ hz with ⟨rfl, hw⟩ | ⟨rfl, hw⟩ | ⟨rfl, hw⟩
        · exact sn_newq1 C0 hdg hw rfl hE.2.2.1.1 hc.1 hc.2.1 r1 r2 k
        · exact sn_newq1 C0 hdg hw rfl hE.2.2.1.2.1 hc.1 hc.2.1 r1 r2 k
        · exact sn_newq1 C0 hdg hw rfl hE.2.2.1.2.2 hc.1 hc.2.1 r1 r2 k
      · cases h
    · cases h
  case new ix =>
    obtain ⟨hl, h1⟩ := lk_inv h
    clear h
    have hl2 := eq_of_beq hl
    clear hl
    subst hl2
    have h := h1
    clear h1
    split at h
    · rename_i hz
      have hy := Sum.inr.inj (Option.some.inj h)
      subst hy
      exact ⟨⟨by simp, by show sl ph ≤ sl (ph ++ _); rw [sl_push]; omega⟩, fun r1 r2 k => sn_new C0 zN zC hdg hz r1 r2 k⟩
    · cases h
  case invokespecial ix =>
    obtain ⟨hl, h1⟩ := lk_inv h
    clear h
    have hl2 := eq_of_beq hl
    clear hl
    subst hl2
    have h := h1
    clear h1
    unfold oSp at h
    split at h
    · rename_i hz
      split at h
      · rename_i hc
        have hy := Sum.inr.inj (Option.some.inj h)
        subst hy
        exact ⟨same rfl, fun _ _ k => sn_obj C0 hdg ((zK _ _ _ _ _ hz).2.1 rfl) hnL ⟨by omega, by omega⟩ hc k⟩
      · cases h
    · exact sn_call C0 zK hH hR hnL (Or.inr (Or.inr ⟨rfl, rfl, hdg⟩)) h
  case invokestatic ix =>
    obtain ⟨hl, h1⟩ := lk_inv h
    clear h
    have hl2 := eq_of_beq hl
    clear hl
    subst hl2
    have h := h1
    clear h1
    unfold oSt at h
    split at h
    · rename_i hz
      split at h
      · rename_i hc
        split at h
        · rename_i hu
          have hy := Sum.inr.inj (Option.some.inj h)
          subst hy
          exact ⟨le_of_same (cpy_same hu), fun _ _ k => sn_copy C0 hdg ((zK _ _ _ _ _ hz).1 rfl) hnL ⟨by omega, by omega⟩ hc hu k⟩
        · cases h
      · cases h
    · rename_i hz
      split at h
      · rename_i hc
        have hy := Sum.inr.inj (Option.some.inj h)
        subst hy
        refine ⟨same rfl, fun r1 r2 k H locs cells slots ls I => ?_⟩
        obtain ⟨w1, w2, w3, w4⟩ := (zK _ _ _ _ _ hz).2.2.2.2.2.2.2.1 rfl
        have r1 : ph.length - n0 ≤ R.cells := r1
        have r2 : sl ph - z0 ≤ R.slots := r2
        exact va_mmax hx hb (by rw [hml, hnL, I.2.2.1.2.1]) hown (hts _ w1) (hts _ w2) (hts _ w3) (hts _ w4) (by omega) (by rw [catS_rv]; omega) (by rw [I.2.2.2.2.2.2.1]; exact r1) (by rw [I.2.2.2.2.2.2.2]; exact r2) hdg (k H locs cells slots ls I)
      · cases h
    · rename_i hz
      split at h
      · rename_i hc
        have hy := Sum.inr.inj (Option.some.inj h)
        subst hy
        refine ⟨same rfl, fun r1 r2 k H locs cells slots ls I => ?_⟩
        obtain ⟨w1, w2, w3, w4⟩ := (zK _ _ _ _ _ hz).2.2.2.2.2.2.2.2 rfl
        have r1 : ph.length - n0 ≤ R.cells := r1
        have r2 : sl ph - z0 ≤ R.slots := r2
        exact va_mmin hx hb (by rw [hml, hnL, I.2.2.1.2.1]) hown (hts _ w1) (hts _ w2) (hts _ w3) (hts _ w4) (by omega) (by rw [catS_rv]; omega) (by rw [I.2.2.2.2.2.2.1]; exact r1) (by rw [I.2.2.2.2.2.2.2]; exact r2) hdg (k H locs cells slots ls I)
      · cases h
    · exact sn_call C0 zK hH hR hnL (Or.inl ⟨rfl, rfl, hdg⟩) h
  case invokevirtual ix =>
    obtain ⟨hl, h1⟩ := lk_inv h
    clear h
    have hl2 := eq_of_beq hl
    clear hl
    subst hl2
    have h := h1
    clear h1
    have h0 := h
    unfold oVi at h
    split at h
    · rename_i f1 f2 k rest hz
      obtain ⟨q1, q2⟩ := hS pc ix _ _ _ lv (.retAddr (k + 1) :: rest) ph y hz (Or.inl rfl) hdg (by unfold oVi; rw [hz]; exact h)
      exact ⟨same q1, fun r1 r2 k => q2 (by rw [← q1]; exact r1) (by rw [← q1]; exact r2) k⟩
    · rename_i f1 f2 i k rest hz
      obtain ⟨q1, q2⟩ := hS pc ix _ _ _ lv (.int i :: .retAddr (k + 1) :: rest) ph y hz (Or.inr (Or.inl rfl)) hdg (by unfold oVi; rw [hz]; exact h)
      exact ⟨same q1, fun r1 r2 k => q2 (by rw [← q1]; exact r1) (by rw [← q1]; exact r2) k⟩
    · rename_i f1 f2 i k rest hz
      obtain ⟨q1, q2⟩ := hS pc ix _ _ _ lv (.int i :: .retAddr (k + 1) :: rest) ph y hz (Or.inr (Or.inr rfl)) hdg (by unfold oVi; rw [hz]; exact h)
      exact ⟨same q1, fun r1 r2 k => q2 (by rw [← q1]; exact r1) (by rw [← q1]; exact r2) k⟩
    · exact sn_call C0 zK hH hR hnL (Or.inr (Or.inl ⟨rfl, rfl, hdg⟩)) h
  case ireturn =>
    obtain ⟨hl, h1⟩ := lk_inv h
    clear h
    have h := h1
    clear h1
    exfalso
    split at h <;> first | exact oRet_not h | cases h
  case lreturn =>
    obtain ⟨hl, h1⟩ := lk_inv h
    clear h
    have h := h1
    clear h1
    exfalso
    split at h <;> first | exact oRet_not h | cases h
  case areturn =>
    obtain ⟨hl, h1⟩ := lk_inv h
    clear h
    have h := h1
    clear h1
    exfalso
    split at h <;> first | exact oRet_not h | cases h
  case return_ =>
    obtain ⟨hl, h1⟩ := lk_inv h
    clear h
    have h := h1
    clear h1
    exfalso
    split at h <;> first | exact oRet_not h | cases h
  all_goals exact absurd (show (none : ON) = some (.inr y) from h) (by simp)
end SND6
