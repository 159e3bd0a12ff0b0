/-! calls by what they answer; switches -/
theorem ev_ok {Z : PT} {cal : MD → List Value → PH → Option RT} (hc : CM cal) {M : MD} {phE : PH} {r : Option Value} : ∀ (n : Nat) {pc : Nat} {lv : LV} {st : List Value} {ph : PH}, ev Z cal M n pc lv st ph = some (phE, r) → rOK M.2.2.2.2.1 r = true
  | 0, _, _, _, _, h => by cases h
  | n + 1, pc, lv, st, ph, h => by
    rw [ev] at h
    cases ho : one Z cal M pc lv st ph with
    | none => rw [ho] at h; cases h
    | some q =>
      rw [ho] at h
      obtain ⟨i, len, hd, ⟨c, rfl, hm, -⟩ | ⟨r0, rfl, he⟩⟩ := one_go hc ho
      · exact ev_ok hc n h
      · cases h
        exact he.2.1
theorem CL_ok {Z : PT} {d : Nat} {M : MD} {as : List Value} {ph phE : PH} {r : Option Value} (h : CL Z d M as ph = some (phE, r)) : rOK M.2.2.2.2.1 r = true := by
  cases d with
  | zero => cases h
  | succ d =>
    obtain ⟨n, hn⟩ := RS_ex h
    exact ev_ok (RS_mono Z d) n hn
noncomputable def cV (Z : PT) (d : Nat) (M : MD) (as : List Value) (ph : PH) : Option PH := (CL Z d M as ph).bind fun q => match q.2 with
  | none => some q.1
  | _ => none
noncomputable def cI (Z : PT) (d : Nat) (M : MD) (as : List Value) (ph : PH) : Option (PH × Int32) := (CL Z d M as ph).bind fun q => match q.2 with
  | some (.int x) => some (q.1, x)
  | _ => none
noncomputable def cJ (Z : PT) (d : Nat) (M : MD) (as : List Value) (ph : PH) : Option (PH × Int64) := (CL Z d M as ph).bind fun q => match q.2 with
  | some (.long x) => some (q.1, x)
  | _ => none
noncomputable def cR (Z : PT) (d : Nat) (M : MD) (as : List Value) (ph : PH) : Option (PH × Value) := (CL Z d M as ph).bind fun q => match q.2 with
  | some v => if isA v = true then some (q.1, v) else none
  | _ => none
theorem cV_bind {Z : PT} {d : Nat} {M : MD} {as : List Value} {ph : PH} {β : Type} {f : RT → Option β} (hr : M.2.2.2.2.1 = none) : (CL Z d M as ph).bind f = (cV Z d M as ph).bind fun p => f (p, none) := by
  unfold cV
  cases h : CL Z d M as ph with
  | none => rfl
  | some q =>
    obtain ⟨ph', r⟩ := q
    have hk := CL_ok h
    rw [hr] at hk
    cases r with
    | none => rfl
    | some v => cases v <;> cases hk
theorem cI_bind {Z : PT} {d : Nat} {M : MD} {as : List Value} {ph : PH} {β : Type} {f : RT → Option β} (hr : M.2.2.2.2.1 = some .int ∨ M.2.2.2.2.1 = some .boolean) : (CL Z d M as ph).bind f = (cI Z d M as ph).bind fun p => f (p.1, some (.int p.2)) := by
  unfold cI
  cases h : CL Z d M as ph with
  | none => rfl
  | some q =>
    obtain ⟨ph', r⟩ := q
    have hk := CL_ok h
    rcases hr with hr | hr
    · rw [hr] at hk
      cases r with
      | none => cases hk
      | some v => cases v <;> first | rfl | cases hk
    · rw [hr] at hk
      cases r with
      | none => cases hk
      | some v => cases v <;> first | rfl | cases hk
theorem cJ_bind {Z : PT} {d : Nat} {M : MD} {as : List Value} {ph : PH} {β : Type} {f : RT → Option β} (hr : M.2.2.2.2.1 = some .long) : (CL Z d M as ph).bind f = (cJ Z d M as ph).bind fun p => f (p.1, some (.long p.2)) := by
  unfold cJ
  cases h : CL Z d M as ph with
  | none => rfl
  | some q =>
    obtain ⟨ph', r⟩ := q
    have hk := CL_ok h
    rw [hr] at hk
    cases r with
    | none => cases hk
    | some v => cases v <;> first | rfl | cases hk
theorem cR_bind {Z : PT} {d : Nat} {M : MD} {as : List Value} {ph : PH} {β : Type} {f : RT → Option β} {n : String} (hr : M.2.2.2.2.1 = some (.object n)) : (CL Z d M as ph).bind f = (cR Z d M as ph).bind fun p => f (p.1, some p.2) := by
  unfold cR
  cases h : CL Z d M as ph with
  | none => rfl
  | some q =>
    obtain ⟨ph', r⟩ := q
    have hk := CL_ok h
    rw [hr] at hk
    cases r with
    | none => cases hk
    | some v => cases v <;> first | rfl | cases hk
theorem cR_isA {Z : PT} {d : Nat} {M : MD} {as : List Value} {ph : PH} {p : PH × Value} (h : cR Z d M as ph = some p) : isA p.2 = true := by
  unfold cR at h
  cases hc : CL Z d M as ph with
  | none => rw [hc] at h; cases h
  | some q =>
    rw [hc] at h
    obtain ⟨ph', r⟩ := q
    cases r with
    | none => cases h
    | some v =>
      have h : (if isA v = true then some (ph', v) else none) = some p := h
      split at h
      · rename_i hv; cases h; exact hv
      · cases h
theorem bind_cg2 {α β : Type} {o : Option α} {f g : α → Option β} (h : ∀ x, o = some x → f x = g x) : o.bind f = o.bind g := by
  cases o with
  | none => rfl
  | some x => exact h x rfl
theorem fR_isR {ph : PH} {v : Value} {ci k : Nat} {w : Value} (h : fR ph v ci k = some w) : isR w = true := by
  unfold fR at h
  split at h
  · split at h
    · split at h
      · rename_i hw; cases h; exact hw
      · cases h
    · cases h
  · cases h
theorem eR_isR {ph : PH} {v : Value} {i : Int32} {w : Value} (h : eR ph v i = some w) : isR w = true := by
  unfold eR at h
  split at h
  · obtain ⟨r, -, hr⟩ := Option.map_eq_some_iff.mp h
    rw [← hr]
    cases r <;> rfl
  · cases h
theorem isA_R {v : Value} (h : isR v = true) : isA v = true := by cases v <;> first | rfl | cases h
theorem cat_R {v : Value} (h : isR v = true) : v.category = 1 := by cases v <;> first | rfl | cases h
theorem cat_A {v : Value} (h : isA v = true) : v.category = 1 := by cases v <;> first | rfl | cases h
theorem no_ext {v : Value} (h : isR v = true) : ∀ k, v ≠ .retAddr k := by intro k hk; subst hk; cases h
theorem kV_2 {v : Value} (h : isR v = true) : kV 2 v = true := by rw [kV_isR]; exact h
theorem q_putZ {Z : PT} {d : Nat} {M : MD} {pc : Nat} {lv lv1 : LV} {st : List Value} {ph : PH} {ix ci k : Nat} {v : Value} {x : Int32} (hd : decode M.2.2.1 pc = .ok (.putfield ix, 3)) (hm : mK M pc lv = lv1) (hz : Z.1 M.1 ix = some (ci, k, 3, false)) : RS Z (d + 1) M pc lv (.int x :: v :: st) ph = if x = 0 ∨ x = 1 then (fP ph v ci k (.int x)).bind fun ph' => RS Z (d + 1) M (pc + 3) lv1 st ph' else none := by
  by_cases hx : x = 0 ∨ x = 1
  · rw [if_pos hx]
    exact q_put hd hm hz (by show (x == 0 || x == 1) = true; simpa using hx) (fun h => by cases h)
  · rw [if_neg hx]
    refine RS_no hd hm ?_
    show (match dR v, Z.1 M.1 ix with
    | some o, some (ci, k, kd, fin) => if kV kd (.int x) = true ∧ (fin = true → M.2.1.name = "<init>" ∧ M.1 = ci) then match pF ph o ci k (.int x) with
      | some ph' => nx (pc + 3) lv1 st ph'
      | none => none else none
    | _, _ => none) = none
    rw [hz]
    cases dR v with
    | none => rfl
    | some o => exact if_neg (fun q => hx (by have := q.1; simpa [kV] using this))
theorem i32_ne {x c : Int32} {n : Int} (h : ¬ x = c) (hc : c.toInt = n) : x.toInt ≠ n := fun e => h (Int32.toInt_inj.mp (e.trans hc.symm))
theorem sw_out {x : Int32} {dflt lo hi : Int} {offs : Array Int} {pc t : Nat} (h : x.toInt < lo ∨ hi < x.toInt) (ht : tg pc dflt = some t) : (oSw x dflt lo hi offs).bind (tg pc) = some t := by
  unfold oSw
  rw [if_pos h]
  exact ht
def nwAr (t n : Nat) : PE := match t with
  | 0 => .inl (0, n, .inl (fun _ => 0))
  | 1 => .inl (1, n, .inr (.inl (fun _ => 0)))
  | 2 => .inl (2, n, .inl (fun _ => 0))
  | _ => .inl (3, n, .inl (fun _ => 0))
def scr (L : Nat) (xs : Nat → Int32) (i : Int32) : Option Int32 := if ¬ (i < 0 ∨ L ≤ i.toNatClampNeg) then some (xs i.toNatClampNeg) else none
theorem script_eq {L : Nat} {xs : Nat → Int32} {d : Nat} {M : MD} {pc : Nat} {lv lv1 : LV} {st : List Value} {ph : PH} {i : Int32} (hd : decode M.2.2.1 pc = .ok (.iaload, 1)) (hm : mK M pc lv = lv1) : RS (ZZ L xs) (d + 1) M pc lv (.int i :: .retAddr 0 :: st) ph = (scr L xs i).bind fun x => RS (ZZ L xs) (d + 1) M (pc + 1) lv1 (.int x :: st) ph := by
  unfold scr
  by_cases h : ¬ (i < 0 ∨ L ≤ i.toNatClampNeg)
  · rw [if_pos h]
    exact q_script hd hm rfl h
  · rw [if_neg h]
    refine RS_no hd hm ?_
    show (if ¬ (i < 0 ∨ L ≤ i.toNatClampNeg) then nx (pc + 1) lv1 (.int (xs i.toNatClampNeg) :: st) ph else none) = none
    rw [if_neg h]
theorem ct_i (x : Int32) : (Value.int x).category = 1 := rfl
theorem ct_l (x : Int64) : (Value.long x).category = 2 := rfl
theorem ct_r (x : Nat) : (Value.ref x).category = 1 := rfl
theorem ct_n : Value.null.category = 1 := rfl
theorem ct_x (x : Nat) : (Value.retAddr x).category = 1 := rfl
