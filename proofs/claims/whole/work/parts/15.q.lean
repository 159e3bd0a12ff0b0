/-! THE EQUATIONS OF THE PURE MACHINE, an instruction each -/
def fI (ph : PH) (v : Value) (ci k : Nat) : Option Int32 := match dR v with
  | some o => match gF ph o ci k with
    | some (.int x) => some x
    | _ => none
  | none => none
def fZ (ph : PH) (v : Value) (ci k : Nat) : Option Int32 := match dR v with
  | some o => match gF ph o ci k with
    | some (.int x) => if x = 0 ∨ x = 1 then some x else none
    | _ => none
  | none => none
def fL (ph : PH) (v : Value) (ci k : Nat) : Option Int64 := match dR v with
  | some o => match gF ph o ci k with
    | some (.long x) => some x
    | _ => none
  | none => none
def isR : Value → Bool
  | .ref _ => true
  | .null => true
  | _ => false
def fR (ph : PH) (v : Value) (ci k : Nat) : Option Value := match dR v with
  | some o => match gF ph o ci k with
    | some w => if isR w = true then some w else none
    | _ => none
  | none => none
def fP (ph : PH) (v : Value) (ci k : Nat) (w : Value) : Option PH := match dR v with
  | some o => pF ph o ci k w
  | none => none
def eI (ph : PH) (v : Value) (i : Int32) : Option Int32 := match dR v with
  | some o => aI ph o 0 i
  | none => none
def eB (ph : PH) (v : Value) (i : Int32) : Option Int32 := match dR v with
  | some o => match bK ph o with
    | some t => aI ph o t i
    | none => none
  | none => none
def eL (ph : PH) (v : Value) (i : Int32) : Option Int64 := match dR v with
  | some o => aL ph o i
  | none => none
def eR (ph : PH) (v : Value) (i : Int32) : Option Value := match dR v with
  | some o => (aR ph o i).map va_rf
  | none => none
def wI (ph : PH) (v : Value) (i x : Int32) : Option PH := match dR v with
  | some o => uI ph o 0 i x
  | none => none
def wB (ph : PH) (v : Value) (i x : Int32) : Option PH := match dR v with
  | some o => match bK ph o with
    | some t => uI ph o t i (vp_nar (if t = 2 then .byte else .boolean) x)
    | none => none
  | none => none
def wL (ph : PH) (v : Value) (i : Int32) (x : Int64) : Option PH := match dR v with
  | some o => uL ph o i x
  | none => none
def wR (ph : PH) (v : Value) (i : Int32) (w : Value) : Option PH := match dR v, dR w with
  | some o, some x => uR ph o i x
  | _, _ => none
def nA (ph : PH) (v : Value) : Option Int32 := match dR v with
  | some o => aN ph o
  | none => none
def iO (ph : PH) (v : Value) (ci : Nat) : Option Nat := match dR v with
  | some o => if isO ph o ci = true then some o else none
  | none => none
def cP (ph : PH) (v : Value) (sp : Int32) (w : Value) (dp n : Int32) : Option PH := match dR v, dR w with
  | some o, some d => cpy ph o sp d dp n
  | _, _ => none
theorem bind_cg {α β : Type} {o : Option α} {f g : α → Option β} (h : ∀ x, f x = g x) : o.bind f = o.bind g := by cases o <;> simp [h]
theorem ite_cg {α : Type} {c : Prop} [Decidable c] {a a' b b' : α} (h1 : a = a') (h2 : b = b') : (if c then a else b) = (if c then a' else b') := by rw [h1, h2]
theorem mk0 {M : MD} {pc : Nat} {lv : LV} (h : M.2.2.2.2.2.lookup pc = none) : mK M pc lv = lv := by unfold mK; rw [h]
theorem kV_isR (w : Value) : kV 2 w = isR w := by cases w <;> rfl
section QQ
variable {Z : PT} {d : Nat} {M : MD} {pc : Nat} {lv lv1 lv2 : LV} {st rest : List Value} {ph : PH}
theorem one_eq {cal : MD → List Value → PH → Option RT} {i : Instr} {len : Nat} (hd : decode M.2.2.1 pc = .ok (i, len)) (hm : mK M pc lv = lv1) : one Z cal M pc lv st ph = oneI Z cal M i len pc lv1 st ph := by
  unfold one
  rw [hd, hm]
noncomputable def FN (Z : PT) (d : Nat) (M : MD) (x : ON) : Option RT := match x with
  | none => none
  | some (.inl r) => some r
  | some (.inr (pc', lv', st', ph')) => RS Z (d + 1) M pc' lv' st' ph'
theorem RS_FN (Z : PT) (d : Nat) (M : MD) (pc : Nat) (lv : LV) (st : List Value) (ph : PH) : RS Z (d + 1) M pc lv st ph = FN Z d M (one Z (CL Z d) M pc lv st ph) := RS_one Z d M pc lv st ph
theorem RS_inr {i : Instr} {len pc' : Nat} {lv' : LV} {st' : List Value} {ph' : PH} (hd : decode M.2.2.1 pc = .ok (i, len)) (hm : mK M pc lv = lv1) (h : oneI Z (CL Z d) M i len pc lv1 st ph = some (.inr (pc', lv', st', ph'))) : RS Z (d + 1) M pc lv st ph = RS Z (d + 1) M pc' lv' st' ph' := by
  rw [RS_one, one_eq hd hm, h]
theorem RS_no {i : Instr} {len : Nat} (hd : decode M.2.2.1 pc = .ok (i, len)) (hm : mK M pc lv = lv1) (h : oneI Z (CL Z d) M i len pc lv1 st ph = none) : RS Z (d + 1) M pc lv st ph = none := by
  rw [RS_one, one_eq hd hm, h]
theorem RS_inl {i : Instr} {len : Nat} {r : RT} (hd : decode M.2.2.1 pc = .ok (i, len)) (hm : mK M pc lv = lv1) (h : oneI Z (CL Z d) M i len pc lv1 st ph = some (.inl r)) : RS Z (d + 1) M pc lv st ph = some r := by
  rw [RS_one, one_eq hd hm, h]
theorem q_aconst_null (hd : decode M.2.2.1 pc = .ok (.aconst_null, 1)) (hm : mK M pc lv = lv1) : RS Z (d + 1) M pc lv st ph = RS Z (d + 1) M (pc + 1) lv1 (.null :: st) ph := RS_inr hd hm rfl
theorem q_iconst {n : Int} {v : Int32} (hd : decode M.2.2.1 pc = .ok (.iconst n, 1)) (hm : mK M pc lv = lv1) (hv : Int32.ofInt n = v) : RS Z (d + 1) M pc lv st ph = RS Z (d + 1) M (pc + 1) lv1 (.int v :: st) ph := by subst hv; exact RS_inr hd hm rfl
theorem q_bipush {n : Int} {v : Int32} (hd : decode M.2.2.1 pc = .ok (.bipush n, 2)) (hm : mK M pc lv = lv1) (hv : (Int8.ofInt n).toInt32 = v) : RS Z (d + 1) M pc lv st ph = RS Z (d + 1) M (pc + 2) lv1 (.int v :: st) ph := by subst hv; exact RS_inr hd hm rfl
theorem q_sipush {n : Int} {v : Int32} (hd : decode M.2.2.1 pc = .ok (.sipush n, 3)) (hm : mK M pc lv = lv1) (hv : (Int16.ofInt n).toInt32 = v) : RS Z (d + 1) M pc lv st ph = RS Z (d + 1) M (pc + 3) lv1 (.int v :: st) ph := by subst hv; exact RS_inr hd hm rfl
theorem q_lconst {n : Fin 2} {v : Int64} (hd : decode M.2.2.1 pc = .ok (.lconst n, 1)) (hm : mK M pc lv = lv1) (hv : Int64.ofNat (n : Nat) = v) : RS Z (d + 1) M pc lv st ph = RS Z (d + 1) M (pc + 1) lv1 (.long v :: st) ph := by subst hv; exact RS_inr hd hm rfl
theorem q_ldcI {ix : Nat} {v : Int32} (hd : decode M.2.2.1 pc = .ok (.ldc ix, 2)) (hm : mK M pc lv = lv1) (hz : Z.2.2.2.2.1 M.1 ix = some (.int v)) : RS Z (d + 1) M pc lv st ph = RS Z (d + 1) M (pc + 2) lv1 (.int v :: st) ph := RS_inr hd hm (by show lk true (match Z.2.2.2.2.1 M.1 ix with | some (.int v) => nx (pc + 2) lv1 (.int v :: st) ph | some (.retAddr k) => nx (pc + 2) lv1 (.retAddr k :: st) ph | _ => none) = _; rw [hz]; rfl)
theorem q_ldcS {ix k : Nat} (hd : decode M.2.2.1 pc = .ok (.ldc ix, 2)) (hm : mK M pc lv = lv1) (hz : Z.2.2.2.2.1 M.1 ix = some (.retAddr k)) : RS Z (d + 1) M pc lv st ph = RS Z (d + 1) M (pc + 2) lv1 (.retAddr k :: st) ph := RS_inr hd hm (by show lk true (match Z.2.2.2.2.1 M.1 ix with | some (.int v) => nx (pc + 2) lv1 (.int v :: st) ph | some (.retAddr k) => nx (pc + 2) lv1 (.retAddr k :: st) ph | _ => none) = _; rw [hz]; rfl)
theorem q_ldcwI {ix : Nat} {v : Int32} (hd : decode M.2.2.1 pc = .ok (.ldc_w ix, 3)) (hm : mK M pc lv = lv1) (hz : Z.2.2.2.2.1 M.1 ix = some (.int v)) : RS Z (d + 1) M pc lv st ph = RS Z (d + 1) M (pc + 3) lv1 (.int v :: st) ph := RS_inr hd hm (by show lk true (match Z.2.2.2.2.1 M.1 ix with | some (.int v) => nx (pc + 3) lv1 (.int v :: st) ph | some (.retAddr k) => nx (pc + 3) lv1 (.retAddr k :: st) ph | _ => none) = _; rw [hz]; rfl)
theorem q_ldcwS {ix k : Nat} (hd : decode M.2.2.1 pc = .ok (.ldc_w ix, 3)) (hm : mK M pc lv = lv1) (hz : Z.2.2.2.2.1 M.1 ix = some (.retAddr k)) : RS Z (d + 1) M pc lv st ph = RS Z (d + 1) M (pc + 3) lv1 (.retAddr k :: st) ph := RS_inr hd hm (by show lk true (match Z.2.2.2.2.1 M.1 ix with | some (.int v) => nx (pc + 3) lv1 (.int v :: st) ph | some (.retAddr k) => nx (pc + 3) lv1 (.retAddr k :: st) ph | _ => none) = _; rw [hz]; rfl)
theorem q_ldc2 {ix : Nat} {v : Int64} (hd : decode M.2.2.1 pc = .ok (.ldc2_w ix, 3)) (hm : mK M pc lv = lv1) (hz : Z.2.2.2.2.1 M.1 ix = some (.long v)) : RS Z (d + 1) M pc lv st ph = RS Z (d + 1) M (pc + 3) lv1 (.long v :: st) ph := RS_inr hd hm (by show lk true (match Z.2.2.2.2.1 M.1 ix with | some (.long v) => nx (pc + 3) lv1 (.long v :: st) ph | _ => none) = _; rw [hz]; rfl)
theorem q_iload {k : Nat} {x : Int32} (hd : decode M.2.2.1 pc = .ok (.iload k, 2)) (hm : mK M pc lv = lv1) (hg : gL lv1 k = some (.int x)) : RS Z (d + 1) M pc lv st ph = RS Z (d + 1) M (pc + 2) lv1 (.int x :: st) ph := RS_inr hd hm (by show lk true (iLd lv1 k (pc + 2) st ph) = _; unfold iLd; rw [hg]; rfl)
theorem q_iload_n {k : Fin 4} {x : Int32} (hd : decode M.2.2.1 pc = .ok (.iload_n k, 1)) (hm : mK M pc lv = lv1) (hg : gL lv1 k = some (.int x)) : RS Z (d + 1) M pc lv st ph = RS Z (d + 1) M (pc + 1) lv1 (.int x :: st) ph := RS_inr hd hm (by show lk true (iLd lv1 k (pc + 1) st ph) = _; unfold iLd; rw [hg]; rfl)
theorem q_lload {k : Nat} {x : Int64} (hd : decode M.2.2.1 pc = .ok (.lload k, 2)) (hm : mK M pc lv = lv1) (hg : gL lv1 k = some (.long x)) : RS Z (d + 1) M pc lv st ph = RS Z (d + 1) M (pc + 2) lv1 (.long x :: st) ph := RS_inr hd hm (by show lk true (lLd lv1 k (pc + 2) st ph) = _; unfold lLd; rw [hg]; rfl)
theorem q_lload_n {k : Fin 4} {x : Int64} (hd : decode M.2.2.1 pc = .ok (.lload_n k, 1)) (hm : mK M pc lv = lv1) (hg : gL lv1 k = some (.long x)) : RS Z (d + 1) M pc lv st ph = RS Z (d + 1) M (pc + 1) lv1 (.long x :: st) ph := RS_inr hd hm (by show lk true (lLd lv1 k (pc + 1) st ph) = _; unfold lLd; rw [hg]; rfl)
/-- a reference, or what lies outside -/
def isA : Value → Bool
  | .ref _ => true
  | .null => true
  | .retAddr _ => true
  | _ => false
theorem aLd_eq {k pc' : Nat} {v : Value} (hg : gL lv1 k = some v) (hv : isA v = true) : aLd lv1 k pc' st ph = nx pc' lv1 (v :: st) ph := by
  unfold aLd
  rw [hg]
  cases v <;> first | rfl | cases hv
theorem q_aload {k : Nat} {v : Value} (hd : decode M.2.2.1 pc = .ok (.aload k, 2)) (hm : mK M pc lv = lv1) (hg : gL lv1 k = some v) (hv : isA v = true) : RS Z (d + 1) M pc lv st ph = RS Z (d + 1) M (pc + 2) lv1 (v :: st) ph := RS_inr hd hm (aLd_eq hg hv)
theorem q_aload_n {k : Fin 4} {v : Value} (hd : decode M.2.2.1 pc = .ok (.aload_n k, 1)) (hm : mK M pc lv = lv1) (hg : gL lv1 k = some v) (hv : isA v = true) : RS Z (d + 1) M pc lv st ph = RS Z (d + 1) M (pc + 1) lv1 (v :: st) ph := RS_inr hd hm (aLd_eq hg hv)
theorem q_istore {k : Nat} {x : Int32} (hd : decode M.2.2.1 pc = .ok (.istore k, 2)) (hm : mK M pc lv = lv1) (hl : k < lv1.length) (hs : s1 lv1 k (.int x) = lv2) : RS Z (d + 1) M pc lv (.int x :: st) ph = RS Z (d + 1) M (pc + 2) lv2 st ph := RS_inr hd hm (by show (if k < lv1.length then nx (pc + 2) (s1 lv1 k (.int x)) st ph else none) = _; rw [if_pos hl, hs]; rfl)
theorem q_istore_n {k : Fin 4} {x : Int32} (hd : decode M.2.2.1 pc = .ok (.istore_n k, 1)) (hm : mK M pc lv = lv1) (hl : (k : Nat) < lv1.length) (hs : s1 lv1 k (.int x) = lv2) : RS Z (d + 1) M pc lv (.int x :: st) ph = RS Z (d + 1) M (pc + 1) lv2 st ph := RS_inr hd hm (by show (if (k : Nat) < lv1.length then nx (pc + 1) (s1 lv1 k (.int x)) st ph else none) = _; rw [if_pos hl, hs]; rfl)
theorem q_lstore {k : Nat} {x : Int64} (hd : decode M.2.2.1 pc = .ok (.lstore k, 2)) (hm : mK M pc lv = lv1) (hl : k + 1 < lv1.length) (hs : s2 lv1 k (.long x) = lv2) : RS Z (d + 1) M pc lv (.long x :: st) ph = RS Z (d + 1) M (pc + 2) lv2 st ph := RS_inr hd hm (by show (if k + 1 < lv1.length then nx (pc + 2) (s2 lv1 k (.long x)) st ph else none) = _; rw [if_pos hl, hs]; rfl)
theorem q_lstore_n {k : Fin 4} {x : Int64} (hd : decode M.2.2.1 pc = .ok (.lstore_n k, 1)) (hm : mK M pc lv = lv1) (hl : (k : Nat) + 1 < lv1.length) (hs : s2 lv1 k (.long x) = lv2) : RS Z (d + 1) M pc lv (.long x :: st) ph = RS Z (d + 1) M (pc + 1) lv2 st ph := RS_inr hd hm (by show (if (k : Nat) + 1 < lv1.length then nx (pc + 1) (s2 lv1 k (.long x)) st ph else none) = _; rw [if_pos hl, hs]; rfl)
theorem aSt_eq {k pc' : Nat} {v : Value} (hl : k < lv1.length) (hv : isA v = true) (hs : s1 lv1 k v = lv2) : aSt lv1 k pc' (v :: st) ph = nx pc' lv2 st ph := by
  subst hs
  unfold aSt
  cases v <;> first | (show (if k < lv1.length then _ else none) = _; rw [if_pos hl]) | cases hv
theorem q_astore {k : Nat} {v : Value} (hd : decode M.2.2.1 pc = .ok (.astore k, 2)) (hm : mK M pc lv = lv1) (hl : k < lv1.length) (hv : isA v = true) (hs : s1 lv1 k v = lv2) : RS Z (d + 1) M pc lv (v :: st) ph = RS Z (d + 1) M (pc + 2) lv2 st ph := RS_inr hd hm (aSt_eq hl hv hs)
theorem q_astore_n {k : Fin 4} {v : Value} (hd : decode M.2.2.1 pc = .ok (.astore_n k, 1)) (hm : mK M pc lv = lv1) (hl : (k : Nat) < lv1.length) (hv : isA v = true) (hs : s1 lv1 k v = lv2) : RS Z (d + 1) M pc lv (v :: st) ph = RS Z (d + 1) M (pc + 1) lv2 st ph := RS_inr hd hm (aSt_eq hl hv hs)
theorem q_iinc {k : Nat} {n : Int} {x v : Int32} (hd : decode M.2.2.1 pc = .ok (.iinc k n, 3)) (hm : mK M pc lv = lv1) (hg : gL lv1 k = some (.int x)) (hn : Int32.ofInt n = v) (hs : s1 lv1 k (.int (x + v)) = lv2) : RS Z (d + 1) M pc lv st ph = RS Z (d + 1) M (pc + 3) lv2 st ph := RS_inr hd hm (by show lk true (match gL lv1 k with | some (.int x) => nx (pc + 3) (s1 lv1 k (.int (x + Int32.ofInt n))) st ph | _ => none) = _; rw [hg]; show nx (pc + 3) (s1 lv1 k (.int (x + Int32.ofInt n))) st ph = _; rw [hn, hs]; rfl)
theorem q_dup {v : Value} (hd : decode M.2.2.1 pc = .ok (.dup, 1)) (hm : mK M pc lv = lv1) (hv : v.category = 1) : RS Z (d + 1) M pc lv (v :: st) ph = RS Z (d + 1) M (pc + 1) lv1 (v :: v :: st) ph := RS_inr hd hm (by show (if v.category = 1 then nx (pc + 1) lv1 (v :: v :: st) ph else none) = _; rw [if_pos hv]; rfl)
theorem q_dup2 {v w : Value} (hd : decode M.2.2.1 pc = .ok (.dup2, 1)) (hm : mK M pc lv = lv1) (hv : v.category = 1) (hw : w.category = 1) : RS Z (d + 1) M pc lv (v :: w :: st) ph = RS Z (d + 1) M (pc + 1) lv1 (v :: w :: v :: w :: st) ph := RS_inr hd hm (by show (if v.category = 1 ∧ w.category = 1 then nx (pc + 1) lv1 (v :: w :: v :: w :: st) ph else none) = _; rw [if_pos ⟨hv, hw⟩]; rfl)
theorem q_pop {v : Value} (hd : decode M.2.2.1 pc = .ok (.pop, 1)) (hm : mK M pc lv = lv1) (hv : v.category = 1) : RS Z (d + 1) M pc lv (v :: st) ph = RS Z (d + 1) M (pc + 1) lv1 st ph := RS_inr hd hm (by show (if v.category = 1 then nx (pc + 1) lv1 st ph else none) = _; rw [if_pos hv]; rfl)
theorem q_iadd {x y : Int32} (hd : decode M.2.2.1 pc = .ok (.iadd, 1)) (hm : mK M pc lv = lv1) : RS Z (d + 1) M pc lv (.int y :: .int x :: st) ph = RS Z (d + 1) M (pc + 1) lv1 (.int (x + y) :: st) ph := RS_inr hd hm rfl
theorem q_isub {x y : Int32} (hd : decode M.2.2.1 pc = .ok (.isub, 1)) (hm : mK M pc lv = lv1) : RS Z (d + 1) M pc lv (.int y :: .int x :: st) ph = RS Z (d + 1) M (pc + 1) lv1 (.int (x - y) :: st) ph := RS_inr hd hm rfl
theorem q_imul {x y : Int32} (hd : decode M.2.2.1 pc = .ok (.imul, 1)) (hm : mK M pc lv = lv1) : RS Z (d + 1) M pc lv (.int y :: .int x :: st) ph = RS Z (d + 1) M (pc + 1) lv1 (.int (x * y) :: st) ph := RS_inr hd hm rfl
theorem q_iand {x y : Int32} (hd : decode M.2.2.1 pc = .ok (.iand, 1)) (hm : mK M pc lv = lv1) : RS Z (d + 1) M pc lv (.int y :: .int x :: st) ph = RS Z (d + 1) M (pc + 1) lv1 (.int (x &&& y) :: st) ph := RS_inr hd hm rfl
theorem q_ior {x y : Int32} (hd : decode M.2.2.1 pc = .ok (.ior, 1)) (hm : mK M pc lv = lv1) : RS Z (d + 1) M pc lv (.int y :: .int x :: st) ph = RS Z (d + 1) M (pc + 1) lv1 (.int (x ||| y) :: st) ph := RS_inr hd hm rfl
theorem q_ixor {x y : Int32} (hd : decode M.2.2.1 pc = .ok (.ixor, 1)) (hm : mK M pc lv = lv1) : RS Z (d + 1) M pc lv (.int y :: .int x :: st) ph = RS Z (d + 1) M (pc + 1) lv1 (.int (x ^^^ y) :: st) ph := RS_inr hd hm rfl
theorem q_ishl {x y : Int32} (hd : decode M.2.2.1 pc = .ok (.ishl, 1)) (hm : mK M pc lv = lv1) : RS Z (d + 1) M pc lv (.int y :: .int x :: st) ph = RS Z (d + 1) M (pc + 1) lv1 (.int (iShl x y) :: st) ph := RS_inr hd hm rfl
theorem q_ishr {x y : Int32} (hd : decode M.2.2.1 pc = .ok (.ishr, 1)) (hm : mK M pc lv = lv1) : RS Z (d + 1) M pc lv (.int y :: .int x :: st) ph = RS Z (d + 1) M (pc + 1) lv1 (.int (iShr x y) :: st) ph := RS_inr hd hm rfl
theorem q_iushr {x y : Int32} (hd : decode M.2.2.1 pc = .ok (.iushr, 1)) (hm : mK M pc lv = lv1) : RS Z (d + 1) M pc lv (.int y :: .int x :: st) ph = RS Z (d + 1) M (pc + 1) lv1 (.int (iUshr x y) :: st) ph := RS_inr hd hm rfl
theorem q_ladd {x y : Int64} (hd : decode M.2.2.1 pc = .ok (.ladd, 1)) (hm : mK M pc lv = lv1) : RS Z (d + 1) M pc lv (.long y :: .long x :: st) ph = RS Z (d + 1) M (pc + 1) lv1 (.long (x + y) :: st) ph := RS_inr hd hm rfl
theorem q_lsub {x y : Int64} (hd : decode M.2.2.1 pc = .ok (.lsub, 1)) (hm : mK M pc lv = lv1) : RS Z (d + 1) M pc lv (.long y :: .long x :: st) ph = RS Z (d + 1) M (pc + 1) lv1 (.long (x - y) :: st) ph := RS_inr hd hm rfl
theorem q_lmul {x y : Int64} (hd : decode M.2.2.1 pc = .ok (.lmul, 1)) (hm : mK M pc lv = lv1) : RS Z (d + 1) M pc lv (.long y :: .long x :: st) ph = RS Z (d + 1) M (pc + 1) lv1 (.long (x * y) :: st) ph := RS_inr hd hm rfl
theorem q_land {x y : Int64} (hd : decode M.2.2.1 pc = .ok (.land, 1)) (hm : mK M pc lv = lv1) : RS Z (d + 1) M pc lv (.long y :: .long x :: st) ph = RS Z (d + 1) M (pc + 1) lv1 (.long (x &&& y) :: st) ph := RS_inr hd hm rfl
theorem q_lor {x y : Int64} (hd : decode M.2.2.1 pc = .ok (.lor, 1)) (hm : mK M pc lv = lv1) : RS Z (d + 1) M pc lv (.long y :: .long x :: st) ph = RS Z (d + 1) M (pc + 1) lv1 (.long (x ||| y) :: st) ph := RS_inr hd hm rfl
theorem q_lxor {x y : Int64} (hd : decode M.2.2.1 pc = .ok (.lxor, 1)) (hm : mK M pc lv = lv1) : RS Z (d + 1) M pc lv (.long y :: .long x :: st) ph = RS Z (d + 1) M (pc + 1) lv1 (.long (x ^^^ y) :: st) ph := RS_inr hd hm rfl
theorem q_lshl {x : Int64} {y : Int32} (hd : decode M.2.2.1 pc = .ok (.lshl, 1)) (hm : mK M pc lv = lv1) : RS Z (d + 1) M pc lv (.int y :: .long x :: st) ph = RS Z (d + 1) M (pc + 1) lv1 (.long (lShl x y) :: st) ph := RS_inr hd hm rfl
theorem q_lshr {x : Int64} {y : Int32} (hd : decode M.2.2.1 pc = .ok (.lshr, 1)) (hm : mK M pc lv = lv1) : RS Z (d + 1) M pc lv (.int y :: .long x :: st) ph = RS Z (d + 1) M (pc + 1) lv1 (.long (lShr x y) :: st) ph := RS_inr hd hm rfl
theorem q_lushr {x : Int64} {y : Int32} (hd : decode M.2.2.1 pc = .ok (.lushr, 1)) (hm : mK M pc lv = lv1) : RS Z (d + 1) M pc lv (.int y :: .long x :: st) ph = RS Z (d + 1) M (pc + 1) lv1 (.long (lUshr x y) :: st) ph := RS_inr hd hm rfl
theorem q_idiv {x y : Int32} (hd : decode M.2.2.1 pc = .ok (.idiv, 1)) (hm : mK M pc lv = lv1) : RS Z (d + 1) M pc lv (.int y :: .int x :: st) ph = if y = 0 then none else RS Z (d + 1) M (pc + 1) lv1 (.int (x / y) :: st) ph := by
  rw [RS_one, one_eq hd hm]
  have h : oneI Z (CL Z d) M .idiv 1 pc lv1 (.int y :: .int x :: st) ph = (if y = 0 then none else nx (pc + 1) lv1 (.int (x / y) :: st) ph) := rfl
  rw [h]
  by_cases hc : y = 0
  · rw [if_pos hc, if_pos hc]
  · rw [if_neg hc, if_neg hc]; rfl
theorem q_irem {x y : Int32} (hd : decode M.2.2.1 pc = .ok (.irem, 1)) (hm : mK M pc lv = lv1) : RS Z (d + 1) M pc lv (.int y :: .int x :: st) ph = if y = 0 then none else RS Z (d + 1) M (pc + 1) lv1 (.int (iRem x y) :: st) ph := by
  rw [RS_one, one_eq hd hm]
  have h : oneI Z (CL Z d) M .irem 1 pc lv1 (.int y :: .int x :: st) ph = (if y = 0 then none else nx (pc + 1) lv1 (.int (iRem x y) :: st) ph) := rfl
  rw [h]
  by_cases hc : y = 0
  · rw [if_pos hc, if_pos hc]
  · rw [if_neg hc, if_neg hc]; rfl
theorem q_ldiv {x y : Int64} (hd : decode M.2.2.1 pc = .ok (.ldiv, 1)) (hm : mK M pc lv = lv1) : RS Z (d + 1) M pc lv (.long y :: .long x :: st) ph = if y = 0 then none else RS Z (d + 1) M (pc + 1) lv1 (.long (x / y) :: st) ph := by
  rw [RS_one, one_eq hd hm]
  have h : oneI Z (CL Z d) M .ldiv 1 pc lv1 (.long y :: .long x :: st) ph = (if y = 0 then none else nx (pc + 1) lv1 (.long (x / y) :: st) ph) := rfl
  rw [h]
  by_cases hc : y = 0
  · rw [if_pos hc, if_pos hc]
  · rw [if_neg hc, if_neg hc]; rfl
theorem q_lrem {x y : Int64} (hd : decode M.2.2.1 pc = .ok (.lrem, 1)) (hm : mK M pc lv = lv1) : RS Z (d + 1) M pc lv (.long y :: .long x :: st) ph = if y = 0 then none else RS Z (d + 1) M (pc + 1) lv1 (.long (lRem x y) :: st) ph := by
  rw [RS_one, one_eq hd hm]
  have h : oneI Z (CL Z d) M .lrem 1 pc lv1 (.long y :: .long x :: st) ph = (if y = 0 then none else nx (pc + 1) lv1 (.long (lRem x y) :: st) ph) := rfl
  rw [h]
  by_cases hc : y = 0
  · rw [if_pos hc, if_pos hc]
  · rw [if_neg hc, if_neg hc]; rfl
theorem q_i2l {x : Int32} (hd : decode M.2.2.1 pc = .ok (.i2l, 1)) (hm : mK M pc lv = lv1) : RS Z (d + 1) M pc lv (.int x :: st) ph = RS Z (d + 1) M (pc + 1) lv1 (.long x.toInt64 :: st) ph := RS_inr hd hm rfl
theorem q_l2i {x : Int64} (hd : decode M.2.2.1 pc = .ok (.l2i, 1)) (hm : mK M pc lv = lv1) : RS Z (d + 1) M pc lv (.long x :: st) ph = RS Z (d + 1) M (pc + 1) lv1 (.int x.toInt32 :: st) ph := RS_inr hd hm rfl
theorem q_i2b {x : Int32} (hd : decode M.2.2.1 pc = .ok (.i2b, 1)) (hm : mK M pc lv = lv1) : RS Z (d + 1) M pc lv (.int x :: st) ph = RS Z (d + 1) M (pc + 1) lv1 (.int x.toInt8.toInt32 :: st) ph := RS_inr hd hm rfl
theorem q_i2c {x : Int32} (hd : decode M.2.2.1 pc = .ok (.i2c, 1)) (hm : mK M pc lv = lv1) : RS Z (d + 1) M pc lv (.int x :: st) ph = RS Z (d + 1) M (pc + 1) lv1 (.int (x.toUInt32 % 65536).toInt32 :: st) ph := RS_inr hd hm rfl
theorem q_lcmp {x y : Int64} (hd : decode M.2.2.1 pc = .ok (.lcmp, 1)) (hm : mK M pc lv = lv1) : RS Z (d + 1) M pc lv (.long y :: .long x :: st) ph = RS Z (d + 1) M (pc + 1) lv1 (.int (lg_cmp x y) :: st) ph := RS_inr hd hm rfl
theorem q_icmp_eq {x y : Int32} {off : Int} {t : Nat} (hd : decode M.2.2.1 pc = .ok (.if_icmp .eq off, 3)) (hm : mK M pc lv = lv1) (ht : tg pc off = some t) : RS Z (d + 1) M pc lv (.int y :: .int x :: st) ph = if x = y then RS Z (d + 1) M t lv1 st ph else RS Z (d + 1) M (pc + 3) lv1 st ph := by
  rw [RS_one, one_eq hd hm]
  have h : oneI Z (CL Z d) M (.if_icmp .eq off) 3 pc lv1 (.int y :: .int x :: st) ph = (match tg pc off with
    | some t => bif decide (x = y) then nx t lv1 st ph else nx (pc + 3) lv1 st ph
    | none => none) := rfl
  rw [h, ht]
  by_cases hc : x = y
  · rw [if_pos hc, decide_eq_true hc]; rfl
  · rw [if_neg hc, decide_eq_false hc]; rfl
theorem q_icmp_ne {x y : Int32} {off : Int} {t : Nat} (hd : decode M.2.2.1 pc = .ok (.if_icmp .ne off, 3)) (hm : mK M pc lv = lv1) (ht : tg pc off = some t) : RS Z (d + 1) M pc lv (.int y :: .int x :: st) ph = if ¬ x = y then RS Z (d + 1) M t lv1 st ph else RS Z (d + 1) M (pc + 3) lv1 st ph := by
  rw [RS_one, one_eq hd hm]
  have h : oneI Z (CL Z d) M (.if_icmp .ne off) 3 pc lv1 (.int y :: .int x :: st) ph = (match tg pc off with
    | some t => bif decide (¬ x = y) then nx t lv1 st ph else nx (pc + 3) lv1 st ph
    | none => none) := rfl
  rw [h, ht]
  by_cases hc : ¬ x = y
  · rw [if_pos hc, decide_eq_true hc]; rfl
  · rw [if_neg hc, decide_eq_false hc]; rfl
theorem q_icmp_lt {x y : Int32} {off : Int} {t : Nat} (hd : decode M.2.2.1 pc = .ok (.if_icmp .lt off, 3)) (hm : mK M pc lv = lv1) (ht : tg pc off = some t) : RS Z (d + 1) M pc lv (.int y :: .int x :: st) ph = if x < y then RS Z (d + 1) M t lv1 st ph else RS Z (d + 1) M (pc + 3) lv1 st ph := by
  rw [RS_one, one_eq hd hm]
  have h : oneI Z (CL Z d) M (.if_icmp .lt off) 3 pc lv1 (.int y :: .int x :: st) ph = (match tg pc off with
    | some t => bif decide (x < y) then nx t lv1 st ph else nx (pc + 3) lv1 st ph
    | none => none) := rfl
  rw [h, ht]
  by_cases hc : x < y
  · rw [if_pos hc, decide_eq_true hc]; rfl
  · rw [if_neg hc, decide_eq_false hc]; rfl
theorem q_icmp_ge {x y : Int32} {off : Int} {t : Nat} (hd : decode M.2.2.1 pc = .ok (.if_icmp .ge off, 3)) (hm : mK M pc lv = lv1) (ht : tg pc off = some t) : RS Z (d + 1) M pc lv (.int y :: .int x :: st) ph = if y ≤ x then RS Z (d + 1) M t lv1 st ph else RS Z (d + 1) M (pc + 3) lv1 st ph := by
  rw [RS_one, one_eq hd hm]
  have h : oneI Z (CL Z d) M (.if_icmp .ge off) 3 pc lv1 (.int y :: .int x :: st) ph = (match tg pc off with
    | some t => bif decide (y ≤ x) then nx t lv1 st ph else nx (pc + 3) lv1 st ph
    | none => none) := rfl
  rw [h, ht]
  by_cases hc : y ≤ x
  · rw [if_pos hc, decide_eq_true hc]; rfl
  · rw [if_neg hc, decide_eq_false hc]; rfl
theorem q_icmp_gt {x y : Int32} {off : Int} {t : Nat} (hd : decode M.2.2.1 pc = .ok (.if_icmp .gt off, 3)) (hm : mK M pc lv = lv1) (ht : tg pc off = some t) : RS Z (d + 1) M pc lv (.int y :: .int x :: st) ph = if y < x then RS Z (d + 1) M t lv1 st ph else RS Z (d + 1) M (pc + 3) lv1 st ph := by
  rw [RS_one, one_eq hd hm]
  have h : oneI Z (CL Z d) M (.if_icmp .gt off) 3 pc lv1 (.int y :: .int x :: st) ph = (match tg pc off with
    | some t => bif decide (y < x) then nx t lv1 st ph else nx (pc + 3) lv1 st ph
    | none => none) := rfl
  rw [h, ht]
  by_cases hc : y < x
  · rw [if_pos hc, decide_eq_true hc]; rfl
  · rw [if_neg hc, decide_eq_false hc]; rfl
theorem q_icmp_le {x y : Int32} {off : Int} {t : Nat} (hd : decode M.2.2.1 pc = .ok (.if_icmp .le off, 3)) (hm : mK M pc lv = lv1) (ht : tg pc off = some t) : RS Z (d + 1) M pc lv (.int y :: .int x :: st) ph = if x ≤ y then RS Z (d + 1) M t lv1 st ph else RS Z (d + 1) M (pc + 3) lv1 st ph := by
  rw [RS_one, one_eq hd hm]
  have h : oneI Z (CL Z d) M (.if_icmp .le off) 3 pc lv1 (.int y :: .int x :: st) ph = (match tg pc off with
    | some t => bif decide (x ≤ y) then nx t lv1 st ph else nx (pc + 3) lv1 st ph
    | none => none) := rfl
  rw [h, ht]
  by_cases hc : x ≤ y
  · rw [if_pos hc, decide_eq_true hc]; rfl
  · rw [if_neg hc, decide_eq_false hc]; rfl
theorem q_if_eq {x : Int32} {off : Int} {t : Nat} (hd : decode M.2.2.1 pc = .ok (.ifCond .eq off, 3)) (hm : mK M pc lv = lv1) (ht : tg pc off = some t) : RS Z (d + 1) M pc lv (.int x :: st) ph = if x = 0 then RS Z (d + 1) M t lv1 st ph else RS Z (d + 1) M (pc + 3) lv1 st ph := by
  rw [RS_one, one_eq hd hm]
  have h : oneI Z (CL Z d) M (.ifCond .eq off) 3 pc lv1 (.int x :: st) ph = (match tg pc off with
    | some t => bif decide (x = 0) then nx t lv1 st ph else nx (pc + 3) lv1 st ph
    | none => none) := rfl
  rw [h, ht]
  by_cases hc : x = 0
  · rw [if_pos hc, decide_eq_true hc]; rfl
  · rw [if_neg hc, decide_eq_false hc]; rfl
theorem q_if_ne {x : Int32} {off : Int} {t : Nat} (hd : decode M.2.2.1 pc = .ok (.ifCond .ne off, 3)) (hm : mK M pc lv = lv1) (ht : tg pc off = some t) : RS Z (d + 1) M pc lv (.int x :: st) ph = if ¬ x = 0 then RS Z (d + 1) M t lv1 st ph else RS Z (d + 1) M (pc + 3) lv1 st ph := by
  rw [RS_one, one_eq hd hm]
  have h : oneI Z (CL Z d) M (.ifCond .ne off) 3 pc lv1 (.int x :: st) ph = (match tg pc off with
    | some t => bif decide (¬ x = 0) then nx t lv1 st ph else nx (pc + 3) lv1 st ph
    | none => none) := rfl
  rw [h, ht]
  by_cases hc : ¬ x = 0
  · rw [if_pos hc, decide_eq_true hc]; rfl
  · rw [if_neg hc, decide_eq_false hc]; rfl
theorem q_if_lt {x : Int32} {off : Int} {t : Nat} (hd : decode M.2.2.1 pc = .ok (.ifCond .lt off, 3)) (hm : mK M pc lv = lv1) (ht : tg pc off = some t) : RS Z (d + 1) M pc lv (.int x :: st) ph = if x < 0 then RS Z (d + 1) M t lv1 st ph else RS Z (d + 1) M (pc + 3) lv1 st ph := by
  rw [RS_one, one_eq hd hm]
  have h : oneI Z (CL Z d) M (.ifCond .lt off) 3 pc lv1 (.int x :: st) ph = (match tg pc off with
    | some t => bif decide (x < 0) then nx t lv1 st ph else nx (pc + 3) lv1 st ph
    | none => none) := rfl
  rw [h, ht]
  by_cases hc : x < 0
  · rw [if_pos hc, decide_eq_true hc]; rfl
  · rw [if_neg hc, decide_eq_false hc]; rfl
theorem q_if_ge {x : Int32} {off : Int} {t : Nat} (hd : decode M.2.2.1 pc = .ok (.ifCond .ge off, 3)) (hm : mK M pc lv = lv1) (ht : tg pc off = some t) : RS Z (d + 1) M pc lv (.int x :: st) ph = if 0 ≤ x then RS Z (d + 1) M t lv1 st ph else RS Z (d + 1) M (pc + 3) lv1 st ph := by
  rw [RS_one, one_eq hd hm]
  have h : oneI Z (CL Z d) M (.ifCond .ge off) 3 pc lv1 (.int x :: st) ph = (match tg pc off with
    | some t => bif decide (0 ≤ x) then nx t lv1 st ph else nx (pc + 3) lv1 st ph
    | none => none) := rfl
  rw [h, ht]
  by_cases hc : 0 ≤ x
  · rw [if_pos hc, decide_eq_true hc]; rfl
  · rw [if_neg hc, decide_eq_false hc]; rfl
theorem q_if_gt {x : Int32} {off : Int} {t : Nat} (hd : decode M.2.2.1 pc = .ok (.ifCond .gt off, 3)) (hm : mK M pc lv = lv1) (ht : tg pc off = some t) : RS Z (d + 1) M pc lv (.int x :: st) ph = if 0 < x then RS Z (d + 1) M t lv1 st ph else RS Z (d + 1) M (pc + 3) lv1 st ph := by
  rw [RS_one, one_eq hd hm]
  have h : oneI Z (CL Z d) M (.ifCond .gt off) 3 pc lv1 (.int x :: st) ph = (match tg pc off with
    | some t => bif decide (0 < x) then nx t lv1 st ph else nx (pc + 3) lv1 st ph
    | none => none) := rfl
  rw [h, ht]
  by_cases hc : 0 < x
  · rw [if_pos hc, decide_eq_true hc]; rfl
  · rw [if_neg hc, decide_eq_false hc]; rfl
theorem q_if_le {x : Int32} {off : Int} {t : Nat} (hd : decode M.2.2.1 pc = .ok (.ifCond .le off, 3)) (hm : mK M pc lv = lv1) (ht : tg pc off = some t) : RS Z (d + 1) M pc lv (.int x :: st) ph = if x ≤ 0 then RS Z (d + 1) M t lv1 st ph else RS Z (d + 1) M (pc + 3) lv1 st ph := by
  rw [RS_one, one_eq hd hm]
  have h : oneI Z (CL Z d) M (.ifCond .le off) 3 pc lv1 (.int x :: st) ph = (match tg pc off with
    | some t => bif decide (x ≤ 0) then nx t lv1 st ph else nx (pc + 3) lv1 st ph
    | none => none) := rfl
  rw [h, ht]
  by_cases hc : x ≤ 0
  · rw [if_pos hc, decide_eq_true hc]; rfl
  · rw [if_neg hc, decide_eq_false hc]; rfl
theorem q_goto {off : Int} {t : Nat} (hd : decode M.2.2.1 pc = .ok (.goto off, 3)) (hm : mK M pc lv = lv1) (ht : tg pc off = some t) : RS Z (d + 1) M pc lv st ph = RS Z (d + 1) M t lv1 st ph := RS_inr hd hm (by show (match tg pc off with | some t => nx t lv1 st ph | none => none) = _; rw [ht]; rfl)
def isN : Value → Option Bool
  | .null => some true
  | .ref _ => some false
  | _ => none
theorem q_ifnull {off : Int} {t : Nat} {v : Value} (hd : decode M.2.2.1 pc = .ok (.ifnull off, 3)) (hm : mK M pc lv = lv1) (ht : tg pc off = some t) : RS Z (d + 1) M pc lv (v :: st) ph = (isN v).bind fun b => if b = true then RS Z (d + 1) M t lv1 st ph else RS Z (d + 1) M (pc + 3) lv1 st ph := by
  rw [RS_one, one_eq hd hm]
  have h : oneI Z (CL Z d) M (.ifnull off) 3 pc lv1 (v :: st) ph = (match v :: st, tg pc off with
    | .null :: st, some t => nx t lv1 st ph
    | .ref _ :: st, some _ => nx (pc + 3) lv1 st ph
    | _, _ => none) := rfl
  rw [h, ht]
  cases v <;> rfl
theorem q_ifnonnull {off : Int} {t : Nat} {v : Value} (hd : decode M.2.2.1 pc = .ok (.ifnonnull off, 3)) (hm : mK M pc lv = lv1) (ht : tg pc off = some t) : RS Z (d + 1) M pc lv (v :: st) ph = (isN v).bind fun b => if b = true then RS Z (d + 1) M (pc + 3) lv1 st ph else RS Z (d + 1) M t lv1 st ph := by
  rw [RS_one, one_eq hd hm]
  have h : oneI Z (CL Z d) M (.ifnonnull off) 3 pc lv1 (v :: st) ph = (match v :: st, tg pc off with
    | .ref _ :: st, some t => nx t lv1 st ph
    | .null :: st, some _ => nx (pc + 3) lv1 st ph
    | _, _ => none) := rfl
  rw [h, ht]
  cases v <;> rfl
theorem q_tableswitch {dflt lo hi : Int} {offs : Array Int} {len : Nat} {x : Int32} (hd : decode M.2.2.1 pc = .ok (.tableswitch dflt lo hi offs, len)) (hm : mK M pc lv = lv1) : RS Z (d + 1) M pc lv (.int x :: st) ph = ((oSw x dflt lo hi offs).bind (tg pc)).bind fun t => RS Z (d + 1) M t lv1 st ph := by
  rw [RS_one, one_eq hd hm]
  have h : oneI Z (CL Z d) M (.tableswitch dflt lo hi offs) len pc lv1 (.int x :: st) ph = (match oSw x dflt lo hi offs with
      | some off => match tg pc off with
        | some t => nx t lv1 st ph
        | none => none
      | none => none) := rfl
  rw [h]
  cases oSw x dflt lo hi offs with
  | none => rfl
  | some off =>
    show (match (match tg pc off with
        | some t => nx t lv1 st ph
        | none => none) with | none => none | some (.inl r) => some r | some (.inr (pc', lv', st', ph')) => RS Z (d + 1) M pc' lv' st' ph') = (tg pc off).bind _
    cases tg pc off <;> rfl
theorem q_lookupswitch {dflt : Int} {ps : Array (Int × Int)} {len : Nat} {x : Int32} (hd : decode M.2.2.1 pc = .ok (.lookupswitch dflt ps, len)) (hm : mK M pc lv = lv1) (hp : (ps.toList.zip (ps.toList.drop 1)).all (fun (a, next) => a.1 < next.1) = true) : RS Z (d + 1) M pc lv (.int x :: st) ph = (tg pc (Op.lookupswitch.offset ps.toList dflt x.toInt)).bind fun t => RS Z (d + 1) M t lv1 st ph := by
  rw [RS_one, one_eq hd hm]
  have h : oneI Z (CL Z d) M (.lookupswitch dflt ps) len pc lv1 (.int x :: st) ph = (if (ps.toList.zip (ps.toList.drop 1)).all (fun (a, next) => a.1 < next.1) = true then match tg pc (Op.lookupswitch.offset ps.toList dflt x.toInt) with
      | some t => nx t lv1 st ph
      | none => none else none) := rfl
  rw [h, if_pos hp]
  cases tg pc (Op.lookupswitch.offset ps.toList dflt x.toInt) <;> rfl
theorem oGet_eq {ix ci k kd : Nat} {fin : Bool} {v : Value} (hz : Z.1 M.1 ix = some (ci, k, kd, fin)) : oGet Z M ix pc lv1 (v :: st) ph = (dR v).bind fun o => (gF ph o ci k).bind fun w => if kV kd w = true then nx (pc + 3) lv1 (w :: st) ph else none := by
  unfold oGet
  show (match dR v, Z.1 M.1 ix with
    | some o, some (ci, k, kd, _) => match gF ph o ci k with
      | some w => if kV kd w then nx (pc + 3) lv1 (w :: st) ph else none
      | none => none
    | _, _ => none) = _
  rw [hz]
  cases dR v with
  | none => rfl
  | some o =>
    show (match gF ph o ci k with
      | some w => if kV kd w then nx (pc + 3) lv1 (w :: st) ph else none
      | none => none) = (gF ph o ci k).bind _
    cases gF ph o ci k <;> rfl
theorem RS_get {ix ci k kd : Nat} {fin : Bool} {v : Value} (hd : decode M.2.2.1 pc = .ok (.getfield ix, 3)) (hm : mK M pc lv = lv1) (hz : Z.1 M.1 ix = some (ci, k, kd, fin)) : RS Z (d + 1) M pc lv (v :: st) ph = (dR v).bind fun o => (gF ph o ci k).bind fun w => if kV kd w = true then RS Z (d + 1) M (pc + 3) lv1 (w :: st) ph else none := by
  rw [RS_FN, one_eq hd hm]
  have h : oneI Z (CL Z d) M (.getfield ix) 3 pc lv1 (v :: st) ph = oGet Z M ix pc lv1 (v :: st) ph := rfl
  rw [h, oGet_eq hz]
  cases dR v with
  | none => rfl
  | some o =>
    show FN Z d M ((gF ph o ci k).bind _) = (gF ph o ci k).bind _
    cases gF ph o ci k with
    | none => rfl
    | some w =>
      show FN Z d M (if kV kd w = true then nx (pc + 3) lv1 (w :: st) ph else none) = (if kV kd w = true then RS Z (d + 1) M (pc + 3) lv1 (w :: st) ph else none)
      by_cases hc : kV kd w = true
      · rw [if_pos hc, if_pos hc]; rfl
      · rw [if_neg hc, if_neg hc]; rfl
theorem q_getI {ix ci k : Nat} {fin : Bool} {v : Value} (hd : decode M.2.2.1 pc = .ok (.getfield ix, 3)) (hm : mK M pc lv = lv1) (hz : Z.1 M.1 ix = some (ci, k, 0, fin)) : RS Z (d + 1) M pc lv (v :: st) ph = (fI ph v ci k).bind fun x => RS Z (d + 1) M (pc + 3) lv1 (.int x :: st) ph := by
  rw [RS_get hd hm hz]
  unfold fI
  cases dR v with
  | none => rfl
  | some o =>
    show (gF ph o ci k).bind _ = (match gF ph o ci k with
    | some (.int x) => some x
    | _ => none).bind _
    cases gF ph o ci k with
    | none => rfl
    | some w => cases w <;> rfl
theorem q_getZ {ix ci k : Nat} {fin : Bool} {v : Value} (hd : decode M.2.2.1 pc = .ok (.getfield ix, 3)) (hm : mK M pc lv = lv1) (hz : Z.1 M.1 ix = some (ci, k, 3, fin)) : RS Z (d + 1) M pc lv (v :: st) ph = (fZ ph v ci k).bind fun x => RS Z (d + 1) M (pc + 3) lv1 (.int x :: st) ph := by
  rw [RS_get hd hm hz]
  unfold fZ
  cases dR v with
  | none => rfl
  | some o =>
    show (gF ph o ci k).bind _ = (match gF ph o ci k with
    | some (.int x) => if x = 0 ∨ x = 1 then some x else none
    | _ => none).bind _
    cases gF ph o ci k with
    | none => rfl
    | some w =>
      cases w with
      | int x =>
        show (if (x == 0 || x == 1) = true then RS Z (d + 1) M (pc + 3) lv1 (.int x :: st) ph else none) = (if x = 0 ∨ x = 1 then some x else none).bind _
        by_cases hx : x = 0 ∨ x = 1
        · rw [if_pos hx, if_pos (by simpa using hx)]; rfl
        · rw [if_neg hx, if_neg (by simpa using hx)]; rfl
      | _ => rfl
theorem q_getL {ix ci k : Nat} {fin : Bool} {v : Value} (hd : decode M.2.2.1 pc = .ok (.getfield ix, 3)) (hm : mK M pc lv = lv1) (hz : Z.1 M.1 ix = some (ci, k, 1, fin)) : RS Z (d + 1) M pc lv (v :: st) ph = (fL ph v ci k).bind fun x => RS Z (d + 1) M (pc + 3) lv1 (.long x :: st) ph := by
  rw [RS_get hd hm hz]
  unfold fL
  cases dR v with
  | none => rfl
  | some o =>
    show (gF ph o ci k).bind _ = (match gF ph o ci k with
    | some (.long x) => some x
    | _ => none).bind _
    cases gF ph o ci k with
    | none => rfl
    | some w => cases w <;> rfl
theorem q_getR {ix ci k : Nat} {fin : Bool} {v : Value} (hd : decode M.2.2.1 pc = .ok (.getfield ix, 3)) (hm : mK M pc lv = lv1) (hz : Z.1 M.1 ix = some (ci, k, 2, fin)) : RS Z (d + 1) M pc lv (v :: st) ph = (fR ph v ci k).bind fun w => RS Z (d + 1) M (pc + 3) lv1 (w :: st) ph := by
  rw [RS_get hd hm hz]
  unfold fR
  cases dR v with
  | none => rfl
  | some o =>
    show (gF ph o ci k).bind _ = (match gF ph o ci k with
    | some w => if isR w = true then some w else none
    | _ => none).bind _
    cases gF ph o ci k with
    | none => rfl
    | some w => cases w <;> rfl
theorem q_put {ix ci k kd : Nat} {fin : Bool} {v w : Value} (hd : decode M.2.2.1 pc = .ok (.putfield ix, 3)) (hm : mK M pc lv = lv1) (hz : Z.1 M.1 ix = some (ci, k, kd, fin)) (hw : kV kd w = true) (hf : fin = true → M.2.1.name = "<init>" ∧ M.1 = ci) : RS Z (d + 1) M pc lv (w :: v :: st) ph = (fP ph v ci k w).bind fun ph' => RS Z (d + 1) M (pc + 3) lv1 st ph' := by
  rw [RS_one, one_eq hd hm]
  have h : oneI Z (CL Z d) M (.putfield ix) 3 pc lv1 (w :: v :: st) ph = (match dR v, Z.1 M.1 ix with
    | some o, some (ci, k, kd, fin) => if kV kd w = true ∧ (fin = true → M.2.1.name = "<init>" ∧ M.1 = ci) then match pF ph o ci k w with
      | some ph' => nx (pc + 3) lv1 st ph'
      | none => none else none
    | _, _ => none) := rfl
  rw [h, hz]
  unfold fP
  cases dR v with
  | none => rfl
  | some o =>
    show (match (if kV kd w = true ∧ (fin = true → M.2.1.name = "<init>" ∧ M.1 = ci) then match pF ph o ci k w with
      | some ph' => nx (pc + 3) lv1 st ph'
      | none => none else none) with | none => none | some (.inl r) => some r | some (.inr (pc', lv', st', ph')) => RS Z (d + 1) M pc' lv' st' ph') = (pF ph o ci k w).bind _
    rw [if_pos ⟨hw, hf⟩]
    cases pF ph o ci k w <;> rfl
theorem q_iaload {v : Value} {i : Int32} (hd : decode M.2.2.1 pc = .ok (.iaload, 1)) (hm : mK M pc lv = lv1) (hv : ∀ k, v ≠ .retAddr k) : RS Z (d + 1) M pc lv (.int i :: v :: st) ph = (eI ph v i).bind fun x => RS Z (d + 1) M (pc + 1) lv1 (.int x :: st) ph := by
  rw [RS_one, one_eq hd hm]
  cases v with
  | retAddr k => exact absurd rfl (hv k)
  | ref o =>
    have h : oneI Z (CL Z d) M .iaload 1 pc lv1 (.int i :: .ref o :: st) ph = (match aI ph o 0 i with
      | some x => nx (pc + 1) lv1 (.int x :: st) ph
      | none => none) := rfl
    rw [h]
    show _ = (aI ph o 0 i).bind _
    cases aI ph o 0 i <;> rfl
  | _ => rfl
theorem q_script {i : Int32} {n : Nat} {f : Nat → Int32} (hd : decode M.2.2.1 pc = .ok (.iaload, 1)) (hm : mK M pc lv = lv1) (hz : Z.2.2.2.2.2 0 = some (n, f)) (hin : ¬ (i < 0 ∨ n ≤ i.toNatClampNeg)) : RS Z (d + 1) M pc lv (.int i :: .retAddr 0 :: st) ph = RS Z (d + 1) M (pc + 1) lv1 (.int (f i.toNatClampNeg) :: st) ph := by
  refine RS_inr hd hm ?_
  show (match Z.2.2.2.2.2 0 with
      | some (n, f) => if ¬ (i < 0 ∨ n ≤ i.toNatClampNeg) then nx (pc + 1) lv1 (.int (f i.toNatClampNeg) :: st) ph else none
      | none => none) = _
  rw [hz]
  show (if ¬ (i < 0 ∨ n ≤ i.toNatClampNeg) then nx (pc + 1) lv1 (.int (f i.toNatClampNeg) :: st) ph else none) = _
  rw [if_pos hin]
  rfl
theorem q_scriptlen {n : Nat} {f : Nat → Int32} (hd : decode M.2.2.1 pc = .ok (.arraylength, 1)) (hm : mK M pc lv = lv1) (hz : Z.2.2.2.2.2 0 = some (n, f)) : RS Z (d + 1) M pc lv (.retAddr 0 :: st) ph = RS Z (d + 1) M (pc + 1) lv1 (.int (Int32.ofNat n) :: st) ph := by
  refine RS_inr hd hm ?_
  show (match Z.2.2.2.2.2 0 with
      | some (n, _) => nx (pc + 1) lv1 (.int (Int32.ofNat n) :: st) ph
      | none => none) = _
  rw [hz]
  rfl
theorem q_baload {v : Value} {i : Int32} (hd : decode M.2.2.1 pc = .ok (.baload, 1)) (hm : mK M pc lv = lv1) : RS Z (d + 1) M pc lv (.int i :: v :: st) ph = (eB ph v i).bind fun x => RS Z (d + 1) M (pc + 1) lv1 (.int x :: st) ph := by
  rw [RS_one, one_eq hd hm]
  cases v with
  | ref o =>
    have h : oneI Z (CL Z d) M .baload 1 pc lv1 (.int i :: .ref o :: st) ph = (match bK ph o with
      | some t => match aI ph o t i with
        | some x => nx (pc + 1) lv1 (.int x :: st) ph
        | none => none
      | none => none) := rfl
    rw [h]
    show _ = (match bK ph o with
    | some t => aI ph o t i
    | none => none).bind _
    cases bK ph o with
    | none => rfl
    | some t =>
      show (match (match aI ph o t i with
        | some x => nx (pc + 1) lv1 (.int x :: st) ph
        | none => none) with | none => none | some (.inl r) => some r | some (.inr (pc', lv', st', ph')) => RS Z (d + 1) M pc' lv' st' ph') = (aI ph o t i).bind _
      cases aI ph o t i <;> rfl
  | _ => rfl
theorem q_laload {v : Value} {i : Int32} (hd : decode M.2.2.1 pc = .ok (.laload, 1)) (hm : mK M pc lv = lv1) : RS Z (d + 1) M pc lv (.int i :: v :: st) ph = (eL ph v i).bind fun x => RS Z (d + 1) M (pc + 1) lv1 (.long x :: st) ph := by
  rw [RS_one, one_eq hd hm]
  cases v with
  | ref o =>
    have h : oneI Z (CL Z d) M .laload 1 pc lv1 (.int i :: .ref o :: st) ph = (match aL ph o i with
      | some x => nx (pc + 1) lv1 (.long x :: st) ph
      | none => none) := rfl
    rw [h]
    show _ = (aL ph o i).bind _
    cases aL ph o i <;> rfl
  | _ => rfl
theorem q_aaload {v : Value} {i : Int32} (hd : decode M.2.2.1 pc = .ok (.aaload, 1)) (hm : mK M pc lv = lv1) : RS Z (d + 1) M pc lv (.int i :: v :: st) ph = (eR ph v i).bind fun x => RS Z (d + 1) M (pc + 1) lv1 (x :: st) ph := by
  rw [RS_one, one_eq hd hm]
  cases v with
  | ref o =>
    have h : oneI Z (CL Z d) M .aaload 1 pc lv1 (.int i :: .ref o :: st) ph = (match aR ph o i with
      | some r => nx (pc + 1) lv1 (va_rf r :: st) ph
      | none => none) := rfl
    rw [h]
    show _ = ((aR ph o i).map va_rf).bind _
    cases aR ph o i <;> rfl
  | _ => rfl
theorem q_iastore {v : Value} {i x : Int32} (hd : decode M.2.2.1 pc = .ok (.iastore, 1)) (hm : mK M pc lv = lv1) : RS Z (d + 1) M pc lv (.int x :: .int i :: v :: st) ph = (wI ph v i x).bind fun ph' => RS Z (d + 1) M (pc + 1) lv1 st ph' := by
  rw [RS_one, one_eq hd hm]
  cases v with
  | ref o =>
    have h : oneI Z (CL Z d) M .iastore 1 pc lv1 (.int x :: .int i :: .ref o :: st) ph = (match uI ph o 0 i x with
      | some ph' => nx (pc + 1) lv1 st ph'
      | none => none) := rfl
    rw [h]
    show _ = (uI ph o 0 i x).bind _
    cases uI ph o 0 i x <;> rfl
  | _ => rfl
theorem q_bastore {v : Value} {i x : Int32} (hd : decode M.2.2.1 pc = .ok (.bastore, 1)) (hm : mK M pc lv = lv1) : RS Z (d + 1) M pc lv (.int x :: .int i :: v :: st) ph = (wB ph v i x).bind fun ph' => RS Z (d + 1) M (pc + 1) lv1 st ph' := by
  rw [RS_one, one_eq hd hm]
  cases v with
  | ref o =>
    have h : oneI Z (CL Z d) M .bastore 1 pc lv1 (.int x :: .int i :: .ref o :: st) ph = (match bK ph o with
      | some t => match uI ph o t i (vp_nar (if t = 2 then .byte else .boolean) x) with
        | some ph' => nx (pc + 1) lv1 st ph'
        | none => none
      | none => none) := rfl
    rw [h]
    show _ = (match bK ph o with
    | some t => uI ph o t i (vp_nar (if t = 2 then .byte else .boolean) x)
    | none => none).bind _
    cases bK ph o with
    | none => rfl
    | some t =>
      show (match (match uI ph o t i (vp_nar (if t = 2 then .byte else .boolean) x) with
        | some ph' => nx (pc + 1) lv1 st ph'
        | none => none) with | none => none | some (.inl r) => some r | some (.inr (pc', lv', st', ph')) => RS Z (d + 1) M pc' lv' st' ph') = (uI ph o t i (vp_nar (if t = 2 then .byte else .boolean) x)).bind _
      cases uI ph o t i (vp_nar (if t = 2 then .byte else .boolean) x) <;> rfl
  | _ => rfl
theorem q_lastore {v : Value} {i : Int32} {x : Int64} (hd : decode M.2.2.1 pc = .ok (.lastore, 1)) (hm : mK M pc lv = lv1) : RS Z (d + 1) M pc lv (.long x :: .int i :: v :: st) ph = (wL ph v i x).bind fun ph' => RS Z (d + 1) M (pc + 1) lv1 st ph' := by
  rw [RS_one, one_eq hd hm]
  cases v with
  | ref o =>
    have h : oneI Z (CL Z d) M .lastore 1 pc lv1 (.long x :: .int i :: .ref o :: st) ph = (match uL ph o i x with
      | some ph' => nx (pc + 1) lv1 st ph'
      | none => none) := rfl
    rw [h]
    show _ = (uL ph o i x).bind _
    cases uL ph o i x <;> rfl
  | _ => rfl
theorem q_aastore {v w : Value} {i : Int32} (hd : decode M.2.2.1 pc = .ok (.aastore, 1)) (hm : mK M pc lv = lv1) : RS Z (d + 1) M pc lv (w :: .int i :: v :: st) ph = (wR ph v i w).bind fun ph' => RS Z (d + 1) M (pc + 1) lv1 st ph' := by
  rw [RS_one, one_eq hd hm]
  cases v with
  | ref o =>
    cases w with
    | ref x =>
      have h : oneI Z (CL Z d) M .aastore 1 pc lv1 (.ref x :: .int i :: .ref o :: st) ph = (match uR ph o i x with
        | some ph' => nx (pc + 1) lv1 st ph'
        | none => none) := rfl
      rw [h]
      show _ = (uR ph o i x).bind _
      cases uR ph o i x <;> rfl
    | _ => rfl
  | _ => cases w <;> rfl
theorem q_alen {v : Value} (hd : decode M.2.2.1 pc = .ok (.arraylength, 1)) (hm : mK M pc lv = lv1) (hv : ∀ k, v ≠ .retAddr k) : RS Z (d + 1) M pc lv (v :: st) ph = (nA ph v).bind fun n => RS Z (d + 1) M (pc + 1) lv1 (.int n :: st) ph := by
  rw [RS_one, one_eq hd hm]
  cases v with
  | retAddr k => exact absurd rfl (hv k)
  | ref o =>
    have h : oneI Z (CL Z d) M .arraylength 1 pc lv1 (.ref o :: st) ph = (match aN ph o with
      | some n => nx (pc + 1) lv1 (.int n :: st) ph
      | none => none) := rfl
    rw [h]
    show _ = (aN ph o).bind _
    cases aN ph o <;> rfl
  | _ => rfl
theorem q_newarray {t : Nat} {at_ : ArrayType} {n : Int32} {e : PE} (hd : decode M.2.2.1 pc = .ok (.newarray at_, 2)) (hm : mK M pc lv = lv1) (ht : (at_ = .int ∧ t = 0) ∨ (at_ = .long ∧ t = 1) ∨ (at_ = .byte ∧ t = 2) ∨ (at_ = .boolean ∧ t = 3)) (hn : ¬ n < 0 ∧ n.toNatClampNeg * 8 ≤ 536870912) (he : nwA t n.toNatClampNeg = some e) : RS Z (d + 1) M pc lv (.int n :: st) ph = RS Z (d + 1) M (pc + 2) lv1 (.ref ph.length :: st) (ph ++ [e]) := by
  have key : ∀ bs, bs ≤ 8 → oNewA t bs pc lv1 (.int n :: st) ph = nx (pc + 2) lv1 (.ref ph.length :: st) (ph ++ [e]) := by
    intro bs hbs
    show (if ¬ n < 0 ∧ n.toNatClampNeg * bs ≤ 536870912 then match nwA t n.toNatClampNeg with
      | some e => nx (pc + 2) lv1 (.ref ph.length :: st) (ph ++ [e])
      | none => none else none) = _
    have h2 : n.toNatClampNeg * bs ≤ 536870912 := Nat.le_trans (Nat.mul_le_mul_left _ hbs) hn.2
    rw [if_pos ⟨hn.1, h2⟩, he]
  refine RS_inr hd hm ?_
  rcases ht with ⟨rfl, rfl⟩ | ⟨rfl, rfl⟩ | ⟨rfl, rfl⟩ | ⟨rfl, rfl⟩
  · exact key 4 (by decide)
  · exact key 8 (by decide)
  · exact key 1 (by decide)
  · exact key 1 (by decide)
theorem q_anewarray {t ix : Nat} {n : Int32} (hd : decode M.2.2.1 pc = .ok (.anewarray ix, 3)) (hm : mK M pc lv = lv1) (hz : Z.2.2.2.1 M.1 ix = some t) (hn : ¬ n < 0 ∧ n.toNatClampNeg * 4 ≤ 536870912 ∧ (t = 4 ∨ t = 5 ∨ t = 6)) : RS Z (d + 1) M pc lv (.int n :: st) ph = RS Z (d + 1) M (pc + 3) lv1 (.ref ph.length :: st) (ph ++ [nwR t n.toNatClampNeg]) := by
  refine RS_inr hd hm ?_
  have h : oneI Z (CL Z d) M (.anewarray ix) 3 pc lv1 (.int n :: st) ph = (match Value.int n :: st, Z.2.2.2.1 M.1 ix with
    | .int n :: st, some t => if ¬ n < 0 ∧ n.toNatClampNeg * 4 ≤ 536870912 ∧ (t = 4 ∨ t = 5 ∨ t = 6) then nx (pc + 3) lv1 (.ref ph.length :: st) (ph ++ [nwR t n.toNatClampNeg]) else none
    | _, _ => none) := rfl
  rw [h, hz]
  show (if ¬ n < 0 ∧ n.toNatClampNeg * 4 ≤ 536870912 ∧ (t = 4 ∨ t = 5 ∨ t = 6) then nx (pc + 3) lv1 (.ref ph.length :: st) (ph ++ [nwR t n.toNatClampNeg]) else none) = _
  rw [if_pos hn]
  rfl
theorem q_new {ix ci : Nat} {fs : List Value} (hd : decode M.2.2.1 pc = .ok (.new ix, 3)) (hm : mK M pc lv = lv1) (hz : Z.2.2.1 M.1 ix = some (ci, fs)) : RS Z (d + 1) M pc lv st ph = RS Z (d + 1) M (pc + 3) lv1 (.ref ph.length :: st) (ph ++ [.inr (ci, fs)]) := RS_inr hd hm (by show (match Z.2.2.1 M.1 ix with | some (ci, fs) => nx (pc + 3) lv1 (.ref ph.length :: st) (ph ++ [Sum.inr (ci, fs)]) | none => none) = _; rw [hz]; rfl)
theorem RS_mt {x : ON} (hd : one Z (CL Z d) M pc lv st ph = x) : RS Z (d + 1) M pc lv st ph = FN Z d M x := by rw [RS_FN, hd]
theorem oCall_static {cal : MD → List Value → PH → Option RT} {ix kd n : Nat} {M' : MD} {as : List Value} (hz : Z.2.1 M.1 ix = some (kd, n, M')) (hk : kd = 3 ∨ kd = 4) (hn : as.length = n) (hc : catS rest ≤ 8) (he : (eA as).length ≤ M'.2.2.2.1) : oCall Z cal M ix true pc lv1 (as.reverse ++ rest) ph [3, 4] = (cal M' as ph).bind fun q => nx (pc + 3) lv1 (q.2.toList ++ rest) q.1 := by
  unfold oCall
  rw [hz]
  have hkk : kd ∈ [3, 4] := by simpa using hk
  have h1 : (as.reverse ++ rest).take n = as.reverse := List.take_left' (by rw [List.length_reverse, hn])
  have h2 : (as.reverse ++ rest).drop n = rest := List.drop_left' (by rw [List.length_reverse, hn])
  show (if kd ∈ [3, 4] then _ else none) = _
  rw [if_pos hkk, if_pos rfl, h1, h2, List.reverse_reverse, if_pos ⟨by rw [List.length_append, List.length_reverse]; omega, hc, he⟩]
  cases cal M' as ph <;> rfl
theorem oCall_virt {cal : MD → List Value → PH → Option RT} {ix n : Nat} {M' : MD} {as : List Value} {v : Value} (hz : Z.2.1 M.1 ix = some (0, n, M')) (hn : as.length = n) (hc : catS rest ≤ 8) (he : (eA as).length + 1 ≤ M'.2.2.2.1) : oCall Z cal M ix false pc lv1 (as.reverse ++ v :: rest) ph [0] = (iO ph v M'.1).bind fun b => (cal M' (.ref b :: as) ph).bind fun q => nx (pc + 3) lv1 (q.2.toList ++ rest) q.1 := by
  unfold oCall
  rw [hz]
  have h1 : (as.reverse ++ v :: rest).take n = as.reverse := List.take_left' (by rw [List.length_reverse, hn])
  have h2 : (as.reverse ++ v :: rest).drop n = v :: rest := List.drop_left' (by rw [List.length_reverse, hn])
  show (if 0 ∈ [0] then _ else none) = _
  rw [if_pos (by simp), if_neg (by decide), h1, h2, List.reverse_reverse]
  unfold iO
  cases v with
  | ref b =>
    show (if n ≤ (as.reverse ++ .ref b :: rest).length ∧ catS rest ≤ 8 ∧ (0 = 0 → isO ph b M'.1 = true) ∧ (eA (.ref b :: as)).length ≤ M'.2.2.2.1 then _ else none) = (if isO ph b M'.1 = true then some b else none).bind _
    by_cases ho : isO ph b M'.1 = true
    · rw [if_pos ho, if_pos ⟨by rw [List.length_append, List.length_reverse]; omega, hc, fun _ => ho, he⟩]
      show _ = (cal M' (.ref b :: as) ph).bind _
      cases cal M' (.ref b :: as) ph <;> rfl
    · rw [if_neg ho, if_neg (fun q => ho (q.2.2.1 rfl))]
      rfl
  | _ => rfl
theorem oCall_spec {cal : MD → List Value → PH → Option RT} {ix kd n : Nat} {M' : MD} {as : List Value} {v : Value} (hz : Z.2.1 M.1 ix = some (kd, n, M')) (hk : kd = 1 ∨ kd = 2) (hn : as.length = n) (hc : catS rest ≤ 8) (he : (eA as).length + 1 ≤ M'.2.2.2.1) : oCall Z cal M ix false pc lv1 (as.reverse ++ v :: rest) ph [1, 2] = (dR v).bind fun b => (cal M' (.ref b :: as) ph).bind fun q => nx (pc + 3) lv1 (q.2.toList ++ rest) q.1 := by
  unfold oCall
  rw [hz]
  have hkk : kd ∈ [1, 2] := by simpa using hk
  have h1 : (as.reverse ++ v :: rest).take n = as.reverse := List.take_left' (by rw [List.length_reverse, hn])
  have h2 : (as.reverse ++ v :: rest).drop n = v :: rest := List.drop_left' (by rw [List.length_reverse, hn])
  show (if kd ∈ [1, 2] then _ else none) = _
  rw [if_pos hkk, if_neg (by decide), h1, h2, List.reverse_reverse]
  cases v with
  | ref b =>
    show (if n ≤ (as.reverse ++ .ref b :: rest).length ∧ catS rest ≤ 8 ∧ (kd = 0 → isO ph b M'.1 = true) ∧ (eA (.ref b :: as)).length ≤ M'.2.2.2.1 then _ else none) = (cal M' (.ref b :: as) ph).bind _
    rw [if_pos ⟨by rw [List.length_append, List.length_reverse]; omega, hc, fun q => by omega, he⟩]
    cases cal M' (.ref b :: as) ph <;> rfl
  | _ => rfl
theorem bind_mt {o : Option RT} {pc' : Nat} {lv' : LV} : FN Z d M (o.bind fun q => nx pc' lv' (q.2.toList ++ rest) q.1) = o.bind fun q => RS Z (d + 1) M pc' lv' (q.2.toList ++ rest) q.1 := by cases o <;> rfl
theorem q_callS {ix kd n : Nat} {M' : MD} {as : List Value} (hd : decode M.2.2.1 pc = .ok (.invokestatic ix, 3)) (hm : mK M pc lv = lv1) (hz : Z.2.1 M.1 ix = some (kd, n, M')) (hk : kd = 3 ∨ kd = 4) (hst : st = as.reverse ++ rest) (hn : as.length = n) (hc : catS rest ≤ 8) (he : (eA as).length ≤ M'.2.2.2.1) : RS Z (d + 1) M pc lv st ph = (CL Z d M' as ph).bind fun q => RS Z (d + 1) M (pc + 3) lv1 (q.2.toList ++ rest) q.1 := by
  have h : one Z (CL Z d) M pc lv st ph = oCall Z (CL Z d) M ix true pc lv1 st ph [3, 4] := by
    rw [one_eq hd hm]
    show oSt Z (CL Z d) M ix pc lv1 st ph = _
    unfold oSt
    rw [hz]
    rcases hk with rfl | rfl <;> rfl
  rw [RS_mt h, hst, oCall_static hz hk hn hc he, bind_mt]
theorem q_callV {ix n : Nat} {M' : MD} {as : List Value} {v : Value} (hd : decode M.2.2.1 pc = .ok (.invokevirtual ix, 3)) (hm : mK M pc lv = lv1) (hz : Z.2.1 M.1 ix = some (0, n, M')) (hst : st = as.reverse ++ v :: rest) (hn : as.length = n) (hc : catS rest ≤ 8) (he : (eA as).length + 1 ≤ M'.2.2.2.1) : RS Z (d + 1) M pc lv st ph = (iO ph v M'.1).bind fun b => (CL Z d M' (.ref b :: as) ph).bind fun q => RS Z (d + 1) M (pc + 3) lv1 (q.2.toList ++ rest) q.1 := by
  have h : one Z (CL Z d) M pc lv st ph = oCall Z (CL Z d) M ix false pc lv1 st ph [0] := by
    rw [one_eq hd hm]
    show oVi Z (CL Z d) M ix pc lv1 st ph = _
    unfold oVi
    rw [hz]
    rfl
  rw [RS_mt h, hst, oCall_virt hz hn hc he]
  cases iO ph v M'.1 with
  | none => rfl
  | some b => exact bind_mt
theorem q_callI {ix kd n : Nat} {M' : MD} {as : List Value} {v : Value} (hd : decode M.2.2.1 pc = .ok (.invokespecial ix, 3)) (hm : mK M pc lv = lv1) (hz : Z.2.1 M.1 ix = some (kd, n, M')) (hk : kd = 1 ∨ kd = 2) (hst : st = as.reverse ++ v :: rest) (hn : as.length = n) (hc : catS rest ≤ 8) (he : (eA as).length + 1 ≤ M'.2.2.2.1) : RS Z (d + 1) M pc lv st ph = (dR v).bind fun b => (CL Z d M' (.ref b :: as) ph).bind fun q => RS Z (d + 1) M (pc + 3) lv1 (q.2.toList ++ rest) q.1 := by
  have h : one Z (CL Z d) M pc lv st ph = oCall Z (CL Z d) M ix false pc lv1 st ph [1, 2] := by
    rw [one_eq hd hm]
    show oSp Z (CL Z d) M ix pc lv1 st ph = _
    unfold oSp
    rw [hz]
    rcases hk with rfl | rfl <;> rfl
  rw [RS_mt h, hst, oCall_spec hz hk hn hc he]
  cases dR v with
  | none => rfl
  | some b => exact bind_mt
theorem q_obj {ix n : Nat} {M' : MD} {b : Nat} (hd : decode M.2.2.1 pc = .ok (.invokespecial ix, 3)) (hm : mK M pc lv = lv1) (hz : Z.2.1 M.1 ix = some (9, n, M')) (hc : catS st ≤ 8) : RS Z (d + 1) M pc lv (.ref b :: st) ph = RS Z (d + 1) M (pc + 3) lv1 st ph := by
  refine RS_inr hd hm ?_
  show oSp Z (CL Z d) M ix pc lv1 (.ref b :: st) ph = _
  unfold oSp
  rw [hz]
  show (if catS st ≤ 8 then nx (pc + 3) lv1 st ph else none) = _
  rw [if_pos hc]
  rfl
theorem q_copy {ix n' : Nat} {M' : MD} {v w : Value} {sp dp n : Int32} (hd : decode M.2.2.1 pc = .ok (.invokestatic ix, 3)) (hm : mK M pc lv = lv1) (hz : Z.2.1 M.1 ix = some (8, n', M')) (hc : catS st ≤ 8) : RS Z (d + 1) M pc lv (.int n :: .int dp :: w :: .int sp :: v :: st) ph = (cP ph v sp w dp n).bind fun ph' => RS Z (d + 1) M (pc + 3) lv1 st ph' := by
  rw [RS_one, one_eq hd hm]
  have h : oneI Z (CL Z d) M (.invokestatic ix) 3 pc lv1 (.int n :: .int dp :: w :: .int sp :: v :: st) ph = oSt Z (CL Z d) M ix pc lv1 (.int n :: .int dp :: w :: .int sp :: v :: st) ph := rfl
  rw [h]
  unfold oSt cP
  rw [hz]
  cases w with
  | ref dd =>
    cases v with
    | ref o =>
      show (match (if catS st ≤ 8 then match cpy ph o sp dd dp n with
    | some ph' => nx (pc + 3) lv1 st ph'
    | none => none else none) with | none => none | some (.inl r) => some r | some (.inr (pc', lv', st', ph')) => RS Z (d + 1) M pc' lv' st' ph') = (cpy ph o sp dd dp n).bind _
      rw [if_pos hc]
      cases cpy ph o sp dd dp n <;> rfl
    | _ =>
      unfold oCall
      rw [hz]
      rfl
  | _ =>
    cases v <;> (unfold oCall; rw [hz]; rfl)
theorem q_max {ix n' : Nat} {M' : MD} {x y : Int32} (hd : decode M.2.2.1 pc = .ok (.invokestatic ix, 3)) (hm : mK M pc lv = lv1) (hz : Z.2.1 M.1 ix = some (13, n', M')) (hc : catS st ≤ 8) : RS Z (d + 1) M pc lv (.int y :: .int x :: st) ph = RS Z (d + 1) M (pc + 3) lv1 (.int (if x < y then y else x) :: st) ph := by
  refine RS_inr hd hm ?_
  show oSt Z (CL Z d) M ix pc lv1 (.int y :: .int x :: st) ph = _
  unfold oSt
  rw [hz]
  show (if catS st ≤ 8 then nx (pc + 3) lv1 (.int (if x < y then y else x) :: st) ph else none) = _
  rw [if_pos hc]
  rfl
theorem q_min {ix n' : Nat} {M' : MD} {x y : Int32} (hd : decode M.2.2.1 pc = .ok (.invokestatic ix, 3)) (hm : mK M pc lv = lv1) (hz : Z.2.1 M.1 ix = some (14, n', M')) (hc : catS st ≤ 8) : RS Z (d + 1) M pc lv (.int y :: .int x :: st) ph = RS Z (d + 1) M (pc + 3) lv1 (.int (if y < x then y else x) :: st) ph := by
  refine RS_inr hd hm ?_
  show oSt Z (CL Z d) M ix pc lv1 (.int y :: .int x :: st) ph = _
  unfold oSt
  rw [hz]
  show (if catS st ≤ 8 then nx (pc + 3) lv1 (.int (if y < x then y else x) :: st) ph else none) = _
  rw [if_pos hc]
  rfl
/-- the String constants -/
def sN (Z : PT) (v : Value) : Option Int32 := match v with
  | .retAddr (k + 1) => (oJ Z k).map fun q => Int32.ofNat q.1
  | _ => none
def sC (Z : PT) (v : Value) (i : Int32) : Option Int32 := match v with
  | .retAddr (k + 1) => (oJ Z k).bind fun q => if ¬ (i < 0 ∨ q.1 ≤ i.toNatClampNeg) then some (q.2 i.toNatClampNeg) else none
  | _ => none
def sF (Z : PT) (v : Value) (x : Int32) : Option Int32 := match v with
  | .retAddr (k + 1) => (oJ Z k).bind fun q => if 0 ≤ x ∧ x < 256 then some (sIx q.1 q.2 x q.1 0) else none
  | _ => none
theorem oCall_no {cal : MD → List Value → PH → Option RT} {ix kd n : Nat} {M' : MD} (hz : Z.2.1 M.1 ix = some (kd, n, M')) (hk : kd ≠ 0) : oCall Z cal M ix false pc lv1 st ph [0] = none := by
  unfold oCall
  rw [hz]
  show (if kd ∈ [0] then _ else none) = _
  rw [if_neg (by simpa using hk)]
theorem q_slen {ix n' : Nat} {M' : MD} {v : Value} (hd : decode M.2.2.1 pc = .ok (.invokevirtual ix, 3)) (hm : mK M pc lv = lv1) (hz : Z.2.1 M.1 ix = some (10, n', M')) (hc : catS st ≤ 8) : RS Z (d + 1) M pc lv (v :: st) ph = (sN Z v).bind fun x => RS Z (d + 1) M (pc + 3) lv1 (.int x :: st) ph := by
  rw [RS_one, one_eq hd hm]
  have h : oneI Z (CL Z d) M (.invokevirtual ix) 3 pc lv1 (v :: st) ph = oVi Z (CL Z d) M ix pc lv1 (v :: st) ph := rfl
  rw [h]
  unfold oVi sN
  rw [hz]
  cases v with
  | retAddr k =>
    cases k with
    | zero => show (match oCall Z (CL Z d) M ix false pc lv1 (.retAddr 0 :: st) ph [0] with | none => none | some (.inl r) => some r | some (.inr (pc', lv', st', ph')) => RS Z (d + 1) M pc' lv' st' ph') = none; rw [oCall_no hz (by decide)]
    | succ k =>
      show (match (if catS st ≤ 8 then match oJ Z k with
    | some (n, _) => nx (pc + 3) lv1 (.int (Int32.ofNat n) :: st) ph
    | none => none else none) with | none => none | some (.inl r) => some r | some (.inr (pc', lv', st', ph')) => RS Z (d + 1) M pc' lv' st' ph') = ((oJ Z k).map fun q => Int32.ofNat q.1).bind _
      rw [if_pos hc]
      cases oJ Z k <;> rfl
  | _ => rw [oCall_no hz (by decide)]; rfl
theorem q_schar {ix n' : Nat} {M' : MD} {v : Value} {i : Int32} (hd : decode M.2.2.1 pc = .ok (.invokevirtual ix, 3)) (hm : mK M pc lv = lv1) (hz : Z.2.1 M.1 ix = some (11, n', M')) (hc : catS st ≤ 8) : RS Z (d + 1) M pc lv (.int i :: v :: st) ph = (sC Z v i).bind fun x => RS Z (d + 1) M (pc + 3) lv1 (.int x :: st) ph := by
  rw [RS_one, one_eq hd hm]
  have h : oneI Z (CL Z d) M (.invokevirtual ix) 3 pc lv1 (.int i :: v :: st) ph = oVi Z (CL Z d) M ix pc lv1 (.int i :: v :: st) ph := rfl
  rw [h]
  unfold oVi sC
  rw [hz]
  cases v with
  | retAddr k =>
    cases k with
    | zero => show (match oCall Z (CL Z d) M ix false pc lv1 (.int i :: .retAddr 0 :: st) ph [0] with | none => none | some (.inl r) => some r | some (.inr (pc', lv', st', ph')) => RS Z (d + 1) M pc' lv' st' ph') = none; rw [oCall_no hz (by decide)]
    | succ k =>
      show (match (if catS st ≤ 8 then match oJ Z k with
    | some (n, f) => if ¬ (i < 0 ∨ n ≤ i.toNatClampNeg) then nx (pc + 3) lv1 (.int (f i.toNatClampNeg) :: st) ph else none
    | none => none else none) with | none => none | some (.inl r) => some r | some (.inr (pc', lv', st', ph')) => RS Z (d + 1) M pc' lv' st' ph') = ((oJ Z k).bind fun q => if ¬ (i < 0 ∨ q.1 ≤ i.toNatClampNeg) then some (q.2 i.toNatClampNeg) else none).bind _
      rw [if_pos hc]
      cases oJ Z k with
      | none => rfl
      | some q =>
        show (match (if ¬ (i < 0 ∨ q.1 ≤ i.toNatClampNeg) then nx (pc + 3) lv1 (.int (q.2 i.toNatClampNeg) :: st) ph else none) with | none => none | some (.inl r) => some r | some (.inr (pc', lv', st', ph')) => RS Z (d + 1) M pc' lv' st' ph') = (if ¬ (i < 0 ∨ q.1 ≤ i.toNatClampNeg) then some (q.2 i.toNatClampNeg) else none).bind _
        by_cases hc2 : ¬ (i < 0 ∨ q.1 ≤ i.toNatClampNeg)
        · rw [if_pos hc2, if_pos hc2]; rfl
        · rw [if_neg hc2, if_neg hc2]; rfl
  | _ => rw [oCall_no hz (by decide)]; rfl
theorem q_sidx {ix n' : Nat} {M' : MD} {v : Value} {i : Int32} (hd : decode M.2.2.1 pc = .ok (.invokevirtual ix, 3)) (hm : mK M pc lv = lv1) (hz : Z.2.1 M.1 ix = some (12, n', M')) (hc : catS st ≤ 8) : RS Z (d + 1) M pc lv (.int i :: v :: st) ph = (sF Z v i).bind fun x => RS Z (d + 1) M (pc + 3) lv1 (.int x :: st) ph := by
  rw [RS_one, one_eq hd hm]
  have h : oneI Z (CL Z d) M (.invokevirtual ix) 3 pc lv1 (.int i :: v :: st) ph = oVi Z (CL Z d) M ix pc lv1 (.int i :: v :: st) ph := rfl
  rw [h]
  unfold oVi sF
  rw [hz]
  cases v with
  | retAddr k =>
    cases k with
    | zero => show (match oCall Z (CL Z d) M ix false pc lv1 (.int i :: .retAddr 0 :: st) ph [0] with | none => none | some (.inl r) => some r | some (.inr (pc', lv', st', ph')) => RS Z (d + 1) M pc' lv' st' ph') = none; rw [oCall_no hz (by decide)]
    | succ k =>
      show (match (if catS st ≤ 8 then match oJ Z k with
    | some (n, f) => if 0 ≤ i ∧ i < 256 then nx (pc + 3) lv1 (.int (sIx n f i n 0) :: st) ph else none
    | none => none else none) with | none => none | some (.inl r) => some r | some (.inr (pc', lv', st', ph')) => RS Z (d + 1) M pc' lv' st' ph') = ((oJ Z k).bind fun q => if 0 ≤ i ∧ i < 256 then some (sIx q.1 q.2 i q.1 0) else none).bind _
      rw [if_pos hc]
      cases oJ Z k with
      | none => rfl
      | some q =>
        show (match (if 0 ≤ i ∧ i < 256 then nx (pc + 3) lv1 (.int (sIx q.1 q.2 i q.1 0) :: st) ph else none) with | none => none | some (.inl r) => some r | some (.inr (pc', lv', st', ph')) => RS Z (d + 1) M pc' lv' st' ph') = (if 0 ≤ i ∧ i < 256 then some (sIx q.1 q.2 i q.1 0) else none).bind _
        by_cases hc2 : 0 ≤ i ∧ i < 256
        · rw [if_pos hc2, if_pos hc2]; rfl
        · rw [if_neg hc2, if_neg hc2]; rfl
  | _ => rw [oCall_no hz (by decide)]; rfl
theorem oRet_of {r : Option Value} (h : rOK M.2.2.2.2.1 r = true) : oRet M r ph = some (.inl (ph, r)) := by unfold oRet; rw [if_pos h]
theorem q_ireturn {x : Int32} (hd : decode M.2.2.1 pc = .ok (.ireturn, 1)) (hm : mK M pc lv = lv1) (hr : M.2.2.2.2.1 = some .int) : RS Z (d + 1) M pc lv [.int x] ph = some (ph, some (.int x)) := RS_inl hd hm (oRet_of (by rw [hr]; rfl))
theorem q_zreturn {x : Int32} (hd : decode M.2.2.1 pc = .ok (.ireturn, 1)) (hm : mK M pc lv = lv1) (hr : M.2.2.2.2.1 = some .boolean) : RS Z (d + 1) M pc lv [.int x] ph = if x = 0 ∨ x = 1 then some (ph, some (.int x)) else none := by
  by_cases hx : x = 0 ∨ x = 1
  · rw [if_pos hx]
    exact RS_inl hd hm (oRet_of (by rw [hr]; show (x == 0 || x == 1) = true; simpa using hx))
  · rw [if_neg hx]
    refine RS_no hd hm ?_
    show oRet M (some (.int x)) ph = none
    unfold oRet
    rw [hr]
    exact if_neg (by show ¬ (x == 0 || x == 1) = true; simpa using hx)
theorem q_lreturn {x : Int64} (hd : decode M.2.2.1 pc = .ok (.lreturn, 1)) (hm : mK M pc lv = lv1) (hr : M.2.2.2.2.1 = some .long) : RS Z (d + 1) M pc lv [.long x] ph = some (ph, some (.long x)) := RS_inl hd hm (oRet_of (by rw [hr]; rfl))
theorem q_return (hd : decode M.2.2.1 pc = .ok (.return_, 1)) (hm : mK M pc lv = lv1) (hr : M.2.2.2.2.1 = none) : RS Z (d + 1) M pc lv [] ph = some (ph, none) := RS_inl hd hm (oRet_of (by rw [hr]; rfl))
theorem q_areturn {v : Value} {n : String} (hd : decode M.2.2.1 pc = .ok (.areturn, 1)) (hm : mK M pc lv = lv1) (hr : M.2.2.2.2.1 = some (.object n)) (hv : isA v = true) : RS Z (d + 1) M pc lv [v] ph = some (ph, some v) := by
  cases v with
  | ref a => exact RS_inl hd hm (oRet_of (by rw [hr]; rfl))
  | null => exact RS_inl hd hm (oRet_of (by rw [hr]; rfl))
  | retAddr a => exact RS_inl hd hm (oRet_of (by rw [hr]; rfl))
  | _ => cases hv
end QQ
