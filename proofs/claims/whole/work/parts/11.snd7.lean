/-! the heap grows; ends; the whole run -/
def MN (ph ph' : PH) : Prop := ph.length ≤ ph'.length ∧ sl ph ≤ sl ph'
theorem MN.rf (ph : PH) : MN ph ph := ⟨Nat.le_refl _, Nat.le_refl _⟩
theorem MN.tr {a b c : PH} (h1 : MN a b) (h2 : MN b c) : MN a c := ⟨Nat.le_trans h1.1 h2.1, Nat.le_trans h1.2 h2.2⟩
theorem MN.push (ph : PH) (e : PE) : MN ph (ph ++ [e]) := ⟨by simp, by rw [sl_push]; omega⟩
def CM (cal : MD → List Value → PH → Option RT) : Prop := ∀ (M' : MD) (as : List Value) (ph ph' : PH) (r : Option Value), cal M' as ph = some (ph', r) → MN ph ph'
/-- a step that goes on, and what it leaves -/
def GO (ph : PH) (x : ON) : Prop := ∀ y, x = some y → ∃ c : CF, y = .inr c ∧ MN ph c.2.2.2
theorem GO.none (ph : PH) : GO ph none := fun y h => by cases h
theorem GO.nx {pc : Nat} {lv : LV} {st : List Value} {ph ph' : PH} (h : MN ph ph') : GO ph (nx pc lv st ph') := fun y hy => ⟨_, (Option.some.inj hy).symm, h⟩
theorem GO.lk {b : Bool} {ph : PH} {x : ON} (h : GO ph x) : GO ph (lk b x) := by
  cases b
  · exact GO.none ph
  · exact h
theorem GO.ite {P : Prop} [Decidable P] {ph : PH} {x y : ON} (h1 : GO ph x) (h2 : GO ph y) : GO ph (if P then x else y) := by
  split
  · exact h1
  · exact h2
theorem go_call {Z : PT} {cal : MD → List Value → PH → Option RT} (hc : CM cal) {M : MD} {ix pc : Nat} {b : Bool} {lv : LV} {st : List Value} {ph : PH} {ks : List Nat} : GO ph (oCall Z cal M ix b pc lv st ph ks) := by
  unfold oCall
  split
  · split
    · split
      · split
        · split
          · rename_i hr; exact GO.nx (hc _ _ _ _ _ hr)
          · exact GO.none ph
        · exact GO.none ph
      · split
        · split
          · split
            · rename_i hr; exact GO.nx (hc _ _ _ _ _ hr)
            · exact GO.none ph
          · exact GO.none ph
        · exact GO.none ph
    · exact GO.none ph
  · exact GO.none ph
theorem MN.same {ph ph' : PH} (h : ph'.length = ph.length ∧ sl ph' = sl ph) : MN ph ph' := le_of_same h
set_option maxHeartbeats 4000000 in
theorem oneI_go {Z : PT} {cal : MD → List Value → PH → Option RT} (hc : CM cal) {M : MD} {i : Instr} {len pc : Nat} {lv : LV} {st : List Value} {ph : PH} (hi : i ≠ .ireturn ∧ i ≠ .lreturn ∧ i ≠ .areturn ∧ i ≠ .return_) : GO ph (oneI Z cal M i len pc lv st ph) := by
  have nn := GO.none ph
  have rf : ∀ {pc : Nat} {lv : LV} {st : List Value}, GO ph (nx pc lv st ph) := fun {pc lv st} => GO.nx (MN.rf ph)
  cases i
  case aconst_null =>
    refine GO.lk ?_
    exact rf
  case iconst n =>
    refine GO.lk ?_
    exact rf
  case bipush n =>
    refine GO.lk ?_
    exact rf
  case sipush n =>
    refine GO.lk ?_
    exact rf
  case lconst n =>
    refine GO.lk ?_
    exact rf
  case ldc ix =>
    refine GO.lk ?_
    repeat (first | exact nn | exact rf | split)
  case ldc_w ix =>
    refine GO.lk ?_
    repeat (first | exact nn | exact rf | split)
  case ldc2_w ix =>
    refine GO.lk ?_
    repeat (first | exact nn | exact rf | split)
  case iload kx =>
    refine GO.lk ?_
    unfold iLd
    repeat (first | exact nn | exact rf | split)
  case iload_n kx =>
    refine GO.lk ?_
    unfold iLd
    repeat (first | exact nn | exact rf | split)
  case lload kx =>
    refine GO.lk ?_
    unfold lLd
    repeat (first | exact nn | exact rf | split)
  case lload_n kx =>
    refine GO.lk ?_
    unfold lLd
    repeat (first | exact nn | exact rf | split)
  case aload kx =>
    refine GO.lk ?_
    unfold aLd
    repeat (first | exact nn | exact rf | split)
  case aload_n kx =>
    refine GO.lk ?_
    unfold aLd
    repeat (first | exact nn | exact rf | split)
  case istore kx =>
    refine GO.lk ?_
    unfold iSt
    repeat (first | exact nn | exact rf | split)
  case istore_n kx =>
    refine GO.lk ?_
    unfold iSt
    repeat (first | exact nn | exact rf | split)
  case lstore kx =>
    refine GO.lk ?_
    unfold lSt
    repeat (first | exact nn | exact rf | split)
  case lstore_n kx =>
    refine GO.lk ?_
    unfold lSt
    repeat (first | exact nn | exact rf | split)
  case astore kx =>
    refine GO.lk ?_
    unfold aSt
    repeat (first | exact nn | exact rf | split)
  case astore_n kx =>
    refine GO.lk ?_
    unfold aSt
    repeat (first | exact nn | exact rf | split)
  case iinc a b =>
    refine GO.lk ?_
    repeat (first | exact nn | exact rf | split)
  case dup =>
    refine GO.lk ?_
    repeat (first | exact nn | exact rf | split)
  case dup2 =>
    refine GO.lk ?_
    repeat (first | exact nn | exact rf | split)
  case pop =>
    refine GO.lk ?_
    repeat (first | exact nn | exact rf | split)
  case idiv =>
    refine GO.lk ?_
    repeat (first | exact nn | exact rf | split)
  case irem =>
    refine GO.lk ?_
    repeat (first | exact nn | exact rf | split)
  case ldiv =>
    refine GO.lk ?_
    repeat (first | exact nn | exact rf | split)
  case lrem =>
    refine GO.lk ?_
    repeat (first | exact nn | exact rf | split)
  case i2l =>
    refine GO.lk ?_
    repeat (first | exact nn | exact rf | split)
  case l2i =>
    refine GO.lk ?_
    repeat (first | exact nn | exact rf | split)
  case i2b =>
    refine GO.lk ?_
    repeat (first | exact nn | exact rf | split)
  case i2c =>
    refine GO.lk ?_
    repeat (first | exact nn | exact rf | split)
  case lcmp =>
    refine GO.lk ?_
    repeat (first | exact nn | exact rf | split)
  case iaload =>
    refine GO.lk ?_
    repeat (first | exact nn | exact rf | split)
  case baload =>
    refine GO.lk ?_
    repeat (first | exact nn | exact rf | split)
  case laload =>
    refine GO.lk ?_
    repeat (first | exact nn | exact rf | split)
  case aaload =>
    refine GO.lk ?_
    repeat (first | exact nn | exact rf | split)
  case arraylength =>
    refine GO.lk ?_
    repeat (first | exact nn | exact rf | split)
  case iadd =>
    refine GO.lk ?_
    unfold bI
    repeat (first | exact nn | exact rf | split)
  case isub =>
    refine GO.lk ?_
    unfold bI
    repeat (first | exact nn | exact rf | split)
  case imul =>
    refine GO.lk ?_
    unfold bI
    repeat (first | exact nn | exact rf | split)
  case iand =>
    refine GO.lk ?_
    unfold bI
    repeat (first | exact nn | exact rf | split)
  case ior =>
    refine GO.lk ?_
    unfold bI
    repeat (first | exact nn | exact rf | split)
  case ixor =>
    refine GO.lk ?_
    unfold bI
    repeat (first | exact nn | exact rf | split)
  case ishl =>
    refine GO.lk ?_
    unfold bI
    repeat (first | exact nn | exact rf | split)
  case ishr =>
    refine GO.lk ?_
    unfold bI
    repeat (first | exact nn | exact rf | split)
  case iushr =>
    refine GO.lk ?_
    unfold bI
    repeat (first | exact nn | exact rf | split)
  case ladd =>
    refine GO.lk ?_
    unfold bL
    repeat (first | exact nn | exact rf | split)
  case lsub =>
    refine GO.lk ?_
    unfold bL
    repeat (first | exact nn | exact rf | split)
  case lmul =>
    refine GO.lk ?_
    unfold bL
    repeat (first | exact nn | exact rf | split)
  case land =>
    refine GO.lk ?_
    unfold bL
    repeat (first | exact nn | exact rf | split)
  case lor =>
    refine GO.lk ?_
    unfold bL
    repeat (first | exact nn | exact rf | split)
  case lxor =>
    refine GO.lk ?_
    unfold bL
    repeat (first | exact nn | exact rf | split)
  case lshl =>
    refine GO.lk ?_
    unfold bLI
    repeat (first | exact nn | exact rf | split)
  case lshr =>
    refine GO.lk ?_
    unfold bLI
    repeat (first | exact nn | exact rf | split)
  case lushr =>
    refine GO.lk ?_
    unfold bLI
    repeat (first | exact nn | exact rf | split)
  case if_icmp cd off =>
    refine GO.lk ?_
    have key : ∀ P, GO ph (brI P off pc lv st ph) := by
      intro P
      unfold brI
      split
      · split
        · cases P _ _ <;> exact rf
        · exact nn
      · exact nn
    cases cd <;> exact key _
  case ifCond cd off =>
    refine GO.lk ?_
    have key : ∀ P, GO ph (brZ P off pc lv st ph) := by
      intro P
      unfold brZ
      split
      · split
        · cases P _ <;> exact rf
        · exact nn
      · exact nn
    cases cd <;> exact key _
  case goto off =>
    refine GO.lk ?_
    repeat (first | exact nn | exact rf | split)
  case ifnull off =>
    refine GO.lk ?_
    repeat (first | exact nn | exact rf | split)
  case ifnonnull off =>
    refine GO.lk ?_
    repeat (first | exact nn | exact rf | split)
  case tableswitch dflt lo hi2 offs =>
    show GO ph (match st with
    | .int x :: st => match oSw x dflt lo hi2 offs with
      | some off => match tg pc off with
        | some t => nx t lv st ph
        | none => none
      | none => none
    | _ => none)
    repeat (first | exact nn | exact rf | split)
  case lookupswitch dflt ps =>
    show GO ph (match st with
    | .int x :: st => if (ps.toList.zip (ps.toList.drop 1)).all (fun (a, next) => a.1 < next.1) = true then match tg pc (Op.lookupswitch.offset ps.toList dflt x.toInt) with
      | some t => nx t lv st ph
      | none => none else none
    | _ => none)
    repeat (first | exact nn | exact rf | split)
  case getfield ix =>
    refine GO.lk ?_
    unfold oGet
    repeat (first | exact nn | exact rf | split)
  case putfield ix =>
    refine GO.lk ?_
    unfold oPut
    split
    · split
      · split
        · split
          · rename_i hp; exact GO.nx (MN.same (pF_same hp))
          · exact nn
        · exact nn
      · exact nn
    · exact nn
  case iastore =>
    refine GO.lk ?_
    split
    · split
      · rename_i hp; exact GO.nx (MN.same (uI_same hp))
      · exact nn
    · exact nn
  case lastore =>
    refine GO.lk ?_
    split
    · split
      · rename_i hp; exact GO.nx (MN.same (uL_same hp))
      · exact nn
    · exact nn
  case aastore =>
    refine GO.lk ?_
    split
    · split
      · rename_i hp; exact GO.nx (MN.same (uR_same hp))
      · exact nn
    · exact nn
  case bastore =>
    refine GO.lk ?_
    split
    · split
      · split
        · rename_i hp; exact GO.nx (MN.same (uI_same hp))
        · exact nn
      · exact nn
    · exact nn
  case newarray at_ =>
    refine GO.lk ?_
    have key : ∀ t bs, GO ph (oNewA t bs pc lv st ph) := by
      intro t bs
      unfold oNewA
      split
      · split
        · split
          · exact GO.nx (MN.push _ _)
          · exact nn
        · exact nn
      · exact nn
    cases at_ <;> first | exact key _ _ | exact nn
  case anewarray ix =>
    refine GO.lk ?_
    split
    · split
      · exact GO.nx (MN.push _ _)
      · exact nn
    · exact nn
  case new ix =>
    refine GO.lk ?_
    split
    · exact GO.nx (MN.push _ _)
    · exact nn
  case invokespecial ix =>
    refine GO.lk ?_
    unfold oSp
    split
    · split
      · exact rf
      · exact nn
    · exact go_call hc
  case invokestatic ix =>
    refine GO.lk ?_
    unfold oSt
    split
    · split
      · split
        · rename_i hp; exact GO.nx (MN.same (cpy_same hp))
        · exact nn
      · exact nn
    · split
      · exact rf
      · exact nn
    · split
      · exact rf
      · exact nn
    · exact go_call hc
  case invokevirtual ix =>
    refine GO.lk ?_
    unfold oVi
    split
    · repeat (first | exact nn | exact rf | split)
    · repeat (first | exact nn | exact rf | split)
    · repeat (first | exact nn | exact rf | split)
    · exact go_call hc
  case ireturn => exact absurd rfl hi.1
  case lreturn => exact absurd rfl hi.2.1
  case areturn => exact absurd rfl hi.2.2.1
  case return_ => exact absurd rfl hi.2.2.2
  all_goals exact nn
/-- an end -/
def ENDS (M : MD) (i : Instr) (len : Nat) (st : List Value) (r : Option Value) : Prop := len = 1 ∧ rOK M.2.2.2.2.1 r = true ∧ ((i = .ireturn ∧ ∃ x, st = [.int x] ∧ r = some (.int x)) ∨ (i = .lreturn ∧ ∃ x, st = [.long x] ∧ r = some (.long x)) ∨ (i = .areturn ∧ ∃ v, st = [v] ∧ r = some v ∧ ((∃ a, v = .ref a) ∨ v = .null ∨ ∃ a, v = .retAddr a)) ∨ (i = .return_ ∧ st = [] ∧ r = none))
theorem oRet_inv {M : MD} {r0 : Option Value} {ph : PH} {y : RT ⊕ CF} (h : oRet M r0 ph = some y) : y = .inl (ph, r0) ∧ rOK M.2.2.2.2.1 r0 = true := by
  unfold oRet at h
  split at h
  · rename_i hc; exact ⟨(Option.some.inj h).symm, hc⟩
  · cases h
theorem oneI_ends {Z : PT} {cal : MD → List Value → PH → Option RT} {M : MD} {i : Instr} {len pc : Nat} {lv : LV} {st : List Value} {ph : PH} {y : RT ⊕ CF} (hi : i = .ireturn ∨ i = .lreturn ∨ i = .areturn ∨ i = .return_) (h : oneI Z cal M i len pc lv st ph = some y) : ∃ r, y = .inl (ph, r) ∧ ENDS M i len st r := by
  rcases hi with rfl | rfl | rfl | rfl
  all_goals
    obtain ⟨hl, h1⟩ := lk_inv h
    have hl := eq_of_beq hl
    split at h1 <;> first
      | cases h1; done
      | (obtain ⟨q1, q2⟩ := oRet_inv h1
         refine ⟨_, q1, hl, q2, ?_⟩
         simp)
theorem one_go {Z : PT} {cal : MD → List Value → PH → Option RT} (hc : CM cal) {M : MD} {pc : Nat} {lv : LV} {st : List Value} {ph : PH} {y : RT ⊕ CF} (h : one Z cal M pc lv st ph = some y) : ∃ i len, decode M.2.2.1 pc = .ok (i, len) ∧ ((∃ c : CF, y = .inr c ∧ MN ph c.2.2.2 ∧ oneI Z cal M i len pc (mK M pc lv) st ph = some (.inr c)) ∨ ∃ r, y = .inl (ph, r) ∧ ENDS M i len st r) := by
  unfold one at h
  split at h
  · rename_i i len hd
    refine ⟨i, len, hd, ?_⟩
    by_cases hi : i = .ireturn ∨ i = .lreturn ∨ i = .areturn ∨ i = .return_
    · exact Or.inr (oneI_ends hi h)
    · obtain ⟨c, hc1, hc2⟩ := oneI_go hc (Z := Z) (M := M) (len := len) (pc := pc) (lv := mK M pc lv) (st := st) (ph := ph) (i := i) ⟨fun q => hi (Or.inl q), fun q => hi (Or.inr (Or.inl q)), fun q => hi (Or.inr (Or.inr (Or.inl q))), fun q => hi (Or.inr (Or.inr (Or.inr q)))⟩ y h
      subst hc1
      exact Or.inl ⟨c, rfl, hc2, h⟩
  · cases h
theorem ev_mono {Z : PT} {cal : MD → List Value → PH → Option RT} (hc : CM cal) {M : MD} {phE : PH} {r : Option Value} : ∀ (n : Nat) {pc : Nat} {lv : LV} {st : List Value} {ph : PH}, ev Z cal M n pc lv st ph = some (phE, r) → MN ph phE
  | 0, _, _, _, _, h => by cases h
  | n + 1, pc, lv, st, ph, h => by
    rw [ev] at h
    cases ho : one Z cal M pc lv st ph with
    | none => rw [ho] at h; cases h
    | some q =>
      rw [ho] at h
      obtain ⟨i, len, hd, ⟨c, rfl, hm, -⟩ | ⟨r0, rfl, -⟩⟩ := one_go hc ho
      · exact hm.tr (ev_mono hc n h)
      · cases h
        exact MN.rf _
theorem RS_mono (Z : PT) : ∀ d, CM (CL Z d)
  | 0 => fun M as ph ph' r h => by cases h
  | d + 1 => fun M as ph ph' r h => by
    obtain ⟨n, hn⟩ := RS_ex h
    exact ev_mono (RS_mono Z d) n hn
section SND7
variable {p : Program} {l : Launch} {e : Env} {R : Room} {s : State} {m : MethodId} {args : Array Value} {below : List Frame} {meth : Method} {c : Code} {Q : State → Prop}
variable {B : WB} {n0 z0 nL L : Nat} {xs : Nat → Int32} {M : MD}
theorem ev_snd {Z : PT} {d : Nat} {phE : PH} {r : Option Value} (C : CX p s m args meth c M B L xs) (hZ : ZOK Z L xs) (hH : HC l Z B L xs d) (hR : d + 11 ≤ R.frames ∧ (d + 1) * 48 + 480 ≤ R.locals) (hnL : M.2.2.2.1 = nL) (hS : STR p l e R s m args below meth c Q B n0 z0 nL M Z) (hroom : phE.length - n0 ≤ R.cells ∧ sl phE - z0 ≤ R.slots)
    (hret : ∀ (pc : Nat) (i : Instr) (len : Nat) (lv : LV) (st : List Value), decode M.2.2.1 pc = .ok (i, len) → ENDS M i len st r → VV p l e R s m args below meth c Q B n0 z0 nL pc lv st phE) :
    ∀ (n : Nat) {pc : Nat} {lv : LV} {st : List Value} {ph : PH}, ev Z (CL Z d) M n pc lv st ph = some (phE, r) → VV p l e R s m args below meth c Q B n0 z0 nL pc lv st ph
  | 0, _, _, _, _, h => by cases h
  | n + 1, pc, lv, st, ph, h => by
    rw [ev] at h
    cases ho : one Z (CL Z d) M pc lv st ph with
    | none => rw [ho] at h; cases h
    | some q =>
      rw [ho] at h
      obtain ⟨i, len, hd, ⟨c', rfl, hm, hone⟩ | ⟨r0, rfl, hends⟩⟩ := one_go (RS_mono Z d) ho
      · obtain ⟨pc', lv', st', ph'⟩ := c'
        refine sn_mask (M := M) ?_
        have hm2 : MN ph' phE := ev_mono (RS_mono Z d) n h
        refine (oneI_snd C hZ hH hR hnL hS hd hone).2 ?_ ?_ (ev_snd C hZ hH hR hnL hS hroom hret n h)
        · have := hm2.1
          show ph'.length - n0 ≤ _
          omega
        · have := hm2.2
          show sl ph' - z0 ≤ _
          omega
      · have h : some (ph, r0) = some (phE, r) := h
        cases h
        exact hret pc i len lv st hd hends
/-- a method's end -/
theorem ret_snd {phE : PH} {r : Option Value} (C : CX p s m args meth c M B L xs) (pc : Nat) (i : Instr) (len : Nat) (lv : LV) (st : List Value) (hd : decode M.2.2.1 pc = .ok (i, len)) (he : ENDS M i len st r) : VV p l e R s m args below meth c (MQ below (QcD B phE r) args s (phE.length - n0) (sl phE - z0) (AA B)) B n0 z0 nL pc lv st phE := by
  obtain ⟨hx, hb, hml, hown, hts, hE, hlk, hrt, hnm⟩ := C
  obtain ⟨rfl, hok, he⟩ := he
  intro H locs cells slots ls I
  refine W_sz (fun hz => ?_)
  have hsz := I.size hz
  obtain ⟨i1, i2, i3, i4, i5, i6, i7, i8⟩ := I
  subst i7
  subst i8
  have hq : ∀ t : State, t.heap = H → s.WarmedH t.vm → QcD B phE r args s (.returned (r.map (rv B))) t := fun t ht hW => ⟨rfl, by rw [ht]; exact i1, by rw [ht]; exact hsz, i2.F ht⟩
  rcases he with ⟨rfl, x, rfl, rfl⟩ | ⟨rfl, x, rfl, rfl⟩ | ⟨rfl, v, rfl, rfl, hv⟩ | ⟨rfl, rfl, rfl⟩
  · unfold rOK at hok
    split at hok
    · rename_i h1 h2; cases h2
    · rename_i h1 h2; rw [h1] at hrt; cases h2; exact W.iret hx hb hrt hq i2.2.2 hd hlk
    · rename_i h1 h2
      rw [h1] at hrt
      cases h2
      refine W.zret hx hb hrt ?_ hq i2.2.2 hd hlk
      rcases Bool.or_eq_true _ _ ▸ hok with h | h
      · rw [eq_of_beq h]; decide
      · rw [eq_of_beq h]; decide
    · rename_i h1 h2; cases h2
    · rename_i h1 h2; cases h2
    · rename_i h1 h2; cases h2
    · rename_i h1 h2; cases h2
    · cases hok
  · unfold rOK at hok
    split at hok
    · rename_i h1 h2; cases h2
    · rename_i h1 h2; cases h2
    · rename_i h1 h2; cases h2
    · rename_i h1 h2; rw [h1] at hrt; cases h2; exact W.lret hx hb hrt hq i2.2.2 hd hlk
    · rename_i h1 h2; cases h2
    · rename_i h1 h2; cases h2
    · rename_i h1 h2; cases h2
    · cases hok
  · have key : ∀ n, M.2.2.2.2.1 = some (.object n) → (rv B v = .null ∨ ∃ a, rv B v = .ref a) → W p l e R s m args below meth c H locs (phE.length - n0) (sl phE - z0) (MQ below (QcD B phE (some v)) args s (phE.length - n0) (sl phE - z0) (AA B)) (F0 m pc ls ([v].map (rv B))) := by
      intro n h1 h2
      rw [h1] at hrt
      exact W.aret hx hb hrt (Or.inl ⟨n, rfl⟩) h2 hq i2.2.2 hd hlk
    unfold rOK at hok
    split at hok
    · rename_i h1 h2; cases h2
    · rename_i h1 h2; cases h2; rcases hv with ⟨a, ha⟩ | ha | ⟨a, ha⟩ <;> cases ha
    · rename_i h1 h2; cases h2; rcases hv with ⟨a, ha⟩ | ha | ⟨a, ha⟩ <;> cases ha
    · rename_i h1 h2; cases h2; rcases hv with ⟨a, ha⟩ | ha | ⟨a, ha⟩ <;> cases ha
    · rename_i h1 h2; cases h2; exact key _ h1 (Or.inr ⟨_, rfl⟩)
    · rename_i h1 h2; cases h2; exact key _ h1 (Or.inl rfl)
    · rename_i h1 h2; cases h2; exact key _ h1 (Or.inr ⟨_, rfl⟩)
    · cases hok
  · unfold rOK at hok
    split at hok
    · rename_i h1 h2; rw [h1] at hrt; exact W.vret hx hb hrt hq i2.2.2 hd hlk
    · rename_i h1 h2; cases h2
    · rename_i h1 h2; cases h2
    · rename_i h1 h2; cases h2
    · rename_i h1 h2; cases h2
    · rename_i h1 h2; cases h2
    · rename_i h1 h2; cases h2
    · cases hok
end SND7
