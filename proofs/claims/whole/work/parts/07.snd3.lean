/-! steps that read or write cells -/
section SND3
variable {p : Program} {l : Launch} {e : Env} {R : Room} {s : State} {m : MethodId} {args : Array Value} {below : List Frame} {meth : Method} {c : Code} {Q : State → Prop}
variable {B : WB} {n0 z0 nL L : Nat} {xs : Nat → Int32} {M : MD} {pc : Nat} {lv : LV} {st : List Value} {ph : PH}
/-- what the tables say of the fields -/
def kty : Nat → FieldType → Prop
  | 0, t => t = .int
  | 1, t => t = .long
  | 3, t => t = .boolean
  | 2, t => (∃ n, t = .object n) ∨ ∃ n, t = .array n
  | _, _ => False
def fOK (Z : PT) : Prop := ∀ (o i ci k kd : Nat) (fin : Bool), Z.1 o i = some (ci, k, kd, fin) → ∃ (C : String) (T : u_T) (N : Nat), vwCl[ci]? = some (C, T, N) ∧ k < N ∧ (T k).2.2.2 = fin ∧ Cond.fieldLink (cn o) i C (T k).2.1 (T k).2.2.1 ∈ GW ∧ (T k).1 = C ∧ cn ci = C ∧ ∃ ty, parseFieldDescriptor (T k).2.2.1 = some ty ∧ kty kd ty
def clOK : Prop := ∀ (ci : Nat) (C : String) (T : u_T) (N : Nat), vwCl[ci]? = some (C, T, N) → (∀ w ∈ u_ws C T N, w ∈ GW) ∧ (∃ ty0 : Nat → FieldType, ∀ k, k < N → parseFieldDescriptor (T k).2.2.1 = some (ty0 k)) ∧ (∀ a, a < N → ∀ b, b < N → a ≠ b → (T a).2.1 ≠ (T b).2.1)
theorem kV_fits {kd : Nat} {w : Value} {ty : FieldType} (h : kV kd w = true) (ht : kty kd ty) : narrow ty (rv B w) = rv B w ∧ fits ty (rv B w) = true := by
  unfold kV at h
  split at h
  · cases ht; exact ⟨rfl, rfl⟩
  · cases ht; exact ⟨rfl, rfl⟩
  · rcases ht with ⟨n, rfl⟩ | ⟨n, rfl⟩ <;> exact ⟨rfl, rfl⟩
  · rcases ht with ⟨n, rfl⟩ | ⟨n, rfl⟩ <;> exact ⟨rfl, rfl⟩
  · cases ht
    rcases Bool.or_eq_true _ _ ▸ h with h | h
    · rw [eq_of_beq h]
      show narrow .boolean (.int 0) = .int 0 ∧ fits .boolean (.int 0) = true
      decide
    · rw [eq_of_beq h]
      show narrow .boolean (.int 1) = .int 1 ∧ fits .boolean (.int 1) = true
      decide
  · cases h
theorem sn_get {Z : PT} {ix : Nat} {y : CF} (C : CX p s m args meth c M B L xs) (hF : fOK Z) (hC : clOK) (hdg : decode M.2.2.1 pc = .ok (.getfield ix, 3)) (h : oGet Z M ix pc lv st ph = some (.inr y))
    (k : VV p l e R s m args below meth c Q B n0 z0 nL y.1 y.2.1 y.2.2.1 y.2.2.2) : VV p l e R s m args below meth c Q B n0 z0 nL pc lv st ph := by
  obtain ⟨hx, hb, hml, hown, hts, hE, -⟩ := C
  unfold oGet at h
  split at h
  · rename_i v st0
    split at h
    · rename_i o ci kk kd fin hd hz
      split at h
      · rename_i w hw
        split at h
        · have hy : (pc + 3, lv, w :: st0, ph) = y := Sum.inr.inj (Option.some.inj h)
          subst hy
          have hv : v = .ref o := by
            cases v <;> first | cases hd | skip
            rfl
          subst hv
          unfold gF at hw
          split at hw
          · rename_i c0 fs hc0
            split at hw
            · rename_i hcc
              subst hcc
              obtain ⟨Cn, T, N, h1, h2, h3, h4, h5, h6, ty, h7, h8⟩ := hF _ _ _ _ _ _ hz
              obtain ⟨g1, -, -⟩ := hC _ _ _ _ h1
              intro H locs cells slots ls I
              refine va_get (D := B.2.1) (cl := vwCl) (ws := cw B ph) (tys := tysOf B) (own := cn M.1) (ref := Cn) (C := Cn) (T := T) (N := N) (ci := c0) (fs := fs.map (rv B)) (v := rv B w) hx hb hts g1 hown hE.1 I.1 o (cw_of hc0) h1 kk h2 (hts _ h4) (fun x hx => by rw [← h5]; exact hx) ?_ hdg (k H locs cells slots ls I)
              rw [List.getElem?_map, hw]
              rfl
            · cases hw
          · cases hw
        · cases h
      · cases h
    · cases h
  · cases h
theorem sn_put {Z : PT} {ix : Nat} {y : CF} (C : CX p s m args meth c M B L xs) (hF : fOK Z) (hC : clOK) (hdg : decode M.2.2.1 pc = .ok (.putfield ix, 3)) (h : oPut Z M ix pc lv st ph = some (.inr y))
    (k : VV p l e R s m args below meth c Q B n0 z0 nL y.1 y.2.1 y.2.2.1 y.2.2.2) : VV p l e R s m args below meth c Q B n0 z0 nL pc lv st ph := by
  obtain ⟨hx, hb, hml, hown, hts, hE, hlk, hrt, hnm⟩ := C
  unfold oPut at h
  split at h
  · rename_i w v st0
    split at h
    · rename_i o ci kk kd fin hd hz
      split at h
      · rename_i hkv
        split at h
        · rename_i ph' hp
          have hy : (pc + 3, lv, st0, ph') = y := Sum.inr.inj (Option.some.inj h)
          subst hy
          have hv : v = .ref o := by
            cases v <;> first | cases hd | skip
            rfl
          subst hv
          unfold pF at hp
          split at hp
          · rename_i c0 fs hc0
            split at hp
            · rename_i hcc
              obtain ⟨hcc, hlen⟩ := hcc
              subst hcc
              cases hp
              obtain ⟨Cn, T, N, h1, h2, h3, h4, h5, h6, ty, h7, h8⟩ := hF _ _ _ _ _ _ hz
              obtain ⟨g1, ⟨ty0, g2⟩, g3⟩ := hC _ _ _ _ h1
              obtain ⟨hn, hf⟩ := kV_fits (B := B) hkv.1 h8
              intro H locs cells slots ls I
              have fin' : ∀ (H1 : Heap) (locs1 : List Loc), va_P B.2.1 vwCl ((cw B ph).set o (B.1 + o, .inr (c0, (fs.map (rv B)).set kk (rv B w)))) H1 → va_D (AA B) ((cw B ph).set o (B.1 + o, .inr (c0, (fs.map (rv B)).set kk (rv B w)))) → va_S (AA B) s.heap H1 locs1 → W p l e R s m args below meth c H1 locs1 cells slots Q (F0 m (pc + 3) ls (st0.map (rv B))) := by
                intro H1 locs1 hP _ hS
                refine k H1 locs1 cells slots ls ⟨?_, hS, I.2.2.1, I.2.2.2.1, by rw [len_set]; exact I.2.2.2.2.1, ?_, by rw [len_set]; exact I.2.2.2.2.2.2.1, ?_⟩
                · rw [← cw_set]
                  have : cv B (.inr (c0, fs.set kk w)) = .inr (c0, (fs.map (rv B)).set kk (rv B w)) := by
                    show Sum.inr (c0, (fs.set kk w).map (rv B)) = _
                    rw [List.map_set]
                  rw [this]
                  exact hP
                · rw [sl_set hc0 (by simp [slE])]; exact I.2.2.2.2.2.1
                · rw [sl_set hc0 (by simp [slE])]; exact I.2.2.2.2.2.2.2
              cases fin with
              | false => exact va_put (D := B.2.1) (cl := vwCl) (ws := cw B ph) (tys := tysOf B) (A := AA B) (H0 := s.heap) (own := cn M.1) (ref := Cn) (C := Cn) (T := T) (N := N) (ci := c0) (fs := fs.map (rv B)) (v := rv B w) hx hb hts g1 ty0 g2 g3 hown hE.1 I.1 (cw_D B ph) I.2.1 o (cw_of hc0) h1 kk h2 (hts _ h4) (fun x hx => by rw [← h5]; exact hx) h3 h7 hn hf (by rw [List.length_map]; exact hlen) hdg fin'
              | true =>
                obtain ⟨i1, i2⟩ := hkv.2 rfl
                exact va_putF (D := B.2.1) (cl := vwCl) (ws := cw B ph) (tys := tysOf B) (A := AA B) (H0 := s.heap) (own := cn M.1) (ref := Cn) (C := Cn) (T := T) (N := N) (ci := c0) (fs := fs.map (rv B)) (v := rv B w) hx hb hts g1 ty0 g2 g3 hown hE.1 I.1 (cw_D B ph) I.2.1 o (cw_of hc0) h1 kk h2 (hts _ h4) (fun x hx => by rw [← h5]; exact hx) h3 (by rw [hnm]; exact i1) (by rw [h5, i2]; exact h6.symm) h7 hn hf (by rw [List.length_map]; exact hlen) hdg fin'
            · cases hp
          · cases hp
        · cases h
      · cases h
    · cases h
  · cases h
theorem tys_at (B : WB) {t : Nat} (h : t < 4) : (tysOf B)[t]? = some (B.2.2.1 t, ([.int, .long, .byte, .boolean] : List FieldType).getD t .int) := by
  match t, h with
  | 0, _ => rfl
  | 1, _ => rfl
  | 2, _ => rfl
  | 3, _ => rfl
/-- a cell is written over by one of its size -/
theorem INV.set {lv : LV} {H H1 : Heap} {locs locs1 : List Loc} {cells slots : Nat} {ls : Array Slot} {o : Nat} {e0 e1 : PE} (I : INV s B n0 z0 nL lv ph H locs cells slots ls) (h0 : ph[o]? = some e0) (hs : slE e1 = slE e0) (hP : va_P B.2.1 vwCl ((cw B ph).set o (B.1 + o, cv B e1)) H1) (hS : va_S (AA B) s.heap H1 locs1) : INV s B n0 z0 nL lv (ph.set o e1) H1 locs1 cells slots ls :=
  ⟨by rw [← cw_set]; exact hP, hS, I.2.2.1, I.2.2.2.1, by rw [len_set]; exact I.2.2.2.2.1, by rw [sl_set h0 hs]; exact I.2.2.2.2.2.1, by rw [len_set]; exact I.2.2.2.2.2.2.1, by rw [sl_set h0 hs]; exact I.2.2.2.2.2.2.2⟩
theorem sn_iald {i : Int32} {o : Nat} {x : Int32} (C : CX p s m args meth c M B L xs) (hdg : decode M.2.2.1 pc = .ok (.iaload, 1)) (h : aI ph o 0 i = some x)
    (k : VV p l e R s m args below meth c Q B n0 z0 nL (pc + 1) lv (.int x :: st) ph) : VV p l e R s m args below meth c Q B n0 z0 nL pc lv (.int i :: .ref o :: st) ph := by
  obtain ⟨hx, hb, hml, hown, hts, hE, -⟩ := C
  unfold aI at h
  split at h
  · rename_i t n f hc0
    split at h
    · rename_i hcc
      obtain ⟨rfl, hin⟩ := hcc
      cases h
      intro H locs cells slots ls I
      exact va_iald (D := B.2.1) (cl := vwCl) (ws := cw B ph) (tys := tysOf B) hx hb hE.1 I.1 o 0 (cw_of hc0) rfl hin hdg (k H locs cells slots ls I)
    · cases h
  · cases h
theorem sn_bald {i : Int32} {o t : Nat} {x : Int32} (C : CX p s m args meth c M B L xs) (hdg : decode M.2.2.1 pc = .ok (.baload, 1)) (ht : t = 2 ∨ t = 3) (h : aI ph o t i = some x)
    (k : VV p l e R s m args below meth c Q B n0 z0 nL (pc + 1) lv (.int x :: st) ph) : VV p l e R s m args below meth c Q B n0 z0 nL pc lv (.int i :: .ref o :: st) ph := by
  obtain ⟨hx, hb, hml, hown, hts, hE, -⟩ := C
  unfold aI at h
  split at h
  · rename_i t n f hc0
    split at h
    · rename_i hcc
      obtain ⟨rfl, hin⟩ := hcc
      cases h
      intro H locs cells slots ls I
      rcases ht with rfl | rfl
      · exact va_bald (D := B.2.1) (cl := vwCl) (ws := cw B ph) (tys := tysOf B) hx hb hE.1 I.1 o 2 (cw_of hc0) rfl hin hdg (k H locs cells slots ls I)
      · exact va_zald (D := B.2.1) (cl := vwCl) (ws := cw B ph) (tys := tysOf B) hx hb hE.1 I.1 o 3 (cw_of hc0) rfl hin hdg (k H locs cells slots ls I)
    · cases h
  · cases h
theorem sn_lald {i : Int32} {o : Nat} {x : Int64} (C : CX p s m args meth c M B L xs) (hdg : decode M.2.2.1 pc = .ok (.laload, 1)) (h : aL ph o i = some x)
    (k : VV p l e R s m args below meth c Q B n0 z0 nL (pc + 1) lv (.long x :: st) ph) : VV p l e R s m args below meth c Q B n0 z0 nL pc lv (.int i :: .ref o :: st) ph := by
  obtain ⟨hx, hb, hml, hown, hts, hE, -⟩ := C
  unfold aL at h
  split at h
  · rename_i t n f hc0
    split at h
    · rename_i hcc
      obtain ⟨rfl, hin⟩ := hcc
      cases h
      intro H locs cells slots ls I
      exact va_lald (D := B.2.1) (cl := vwCl) (ws := cw B ph) (tys := tysOf B) hx hb hE.1 I.1 o 1 (cw_of hc0) rfl hin hdg (k H locs cells slots ls I)
    · cases h
  · cases h
theorem sn_aald {i : Int32} {o : Nat} {r : Option Nat} (C : CX p s m args meth c M B L xs) (hdg : decode M.2.2.1 pc = .ok (.aaload, 1)) (h : aR ph o i = some r)
    (k : VV p l e R s m args below meth c Q B n0 z0 nL (pc + 1) lv (va_rf r :: st) ph) : VV p l e R s m args below meth c Q B n0 z0 nL pc lv (.int i :: .ref o :: st) ph := by
  obtain ⟨hx, hb, hml, hown, hts, hE, -⟩ := C
  unfold aR at h
  split at h
  · rename_i t n f hc0
    split at h
    · rename_i hcc
      obtain ⟨ht, hin⟩ := hcc
      cases h
      intro H locs cells slots ls I
      have hk := k H locs cells slots ls I
      rw [List.map_cons, va_rf_rv] at hk
      rcases ht with rfl | rfl | rfl
      · exact va_aldq (D := B.2.1) (cl := vwCl) (ws := cw B ph) (tys := tysOf B) hx hb hE.1 I.1 o 4 (cw_of hc0) rfl hin hdg hk
      · exact va_aldq (D := B.2.1) (cl := vwCl) (ws := cw B ph) (tys := tysOf B) hx hb hE.1 I.1 o 5 (cw_of hc0) rfl hin hdg hk
      · exact va_aldq (D := B.2.1) (cl := vwCl) (ws := cw B ph) (tys := tysOf B) hx hb hE.1 I.1 o 6 (cw_of hc0) rfl hin hdg hk
    · cases h
  · cases h
theorem sn_iast {i x : Int32} {o : Nat} {ph' : PH} (C : CX p s m args meth c M B L xs) (hdg : decode M.2.2.1 pc = .ok (.iastore, 1)) (h : uI ph o 0 i x = some ph')
    (k : VV p l e R s m args below meth c Q B n0 z0 nL (pc + 1) lv st ph') : VV p l e R s m args below meth c Q B n0 z0 nL pc lv (.int x :: .int i :: .ref o :: st) ph := by
  obtain ⟨hx, hb, hml, hown, hts, hE, -⟩ := C
  unfold uI at h
  split at h
  · rename_i t n f hc0
    split at h
    · rename_i hcc
      obtain ⟨rfl, hin⟩ := hcc
      cases h
      intro H locs cells slots ls I
      exact va_iast (D := B.2.1) (cl := vwCl) (ws := cw B ph) (tys := tysOf B) (A := AA B) (H0 := s.heap) hx hb hE.1 I.1 (cw_D B ph) I.2.1 o 0 (cw_of hc0) rfl hin hdg (fun H1 locs1 hP _ hS => k H1 locs1 cells slots ls (I.set hc0 rfl hP hS))
    · cases h
  · cases h
theorem sn_bast {i x : Int32} {o t : Nat} {ph' : PH} (C : CX p s m args meth c M B L xs) (hdg : decode M.2.2.1 pc = .ok (.bastore, 1)) (ht : t = 2 ∨ t = 3) (h : uI ph o t i (vp_nar (if t = 2 then .byte else .boolean) x) = some ph')
    (k : VV p l e R s m args below meth c Q B n0 z0 nL (pc + 1) lv st ph') : VV p l e R s m args below meth c Q B n0 z0 nL pc lv (.int x :: .int i :: .ref o :: st) ph := by
  obtain ⟨hx, hb, hml, hown, hts, hE, -⟩ := C
  unfold uI at h
  split at h
  · rename_i t n f hc0
    split at h
    · rename_i hcc
      obtain ⟨rfl, hin⟩ := hcc
      cases h
      intro H locs cells slots ls I
      rcases ht with rfl | rfl
      · exact va_bast (D := B.2.1) (cl := vwCl) (ws := cw B ph) (tys := tysOf B) (A := AA B) (H0 := s.heap) hx hb hE.1 I.1 (cw_D B ph) I.2.1 o 2 (cw_of hc0) rfl hin hdg (fun H1 locs1 hP _ hS => k H1 locs1 cells slots ls (I.set hc0 rfl hP hS))
      · exact va_zast (D := B.2.1) (cl := vwCl) (ws := cw B ph) (tys := tysOf B) (A := AA B) (H0 := s.heap) hx hb hE.1 I.1 (cw_D B ph) I.2.1 o 3 (cw_of hc0) rfl hin hdg (fun H1 locs1 hP _ hS => k H1 locs1 cells slots ls (I.set hc0 rfl hP hS))
    · cases h
  · cases h
theorem sn_last {i : Int32} {x : Int64} {o : Nat} {ph' : PH} (C : CX p s m args meth c M B L xs) (hdg : decode M.2.2.1 pc = .ok (.lastore, 1)) (h : uL ph o i x = some ph')
    (k : VV p l e R s m args below meth c Q B n0 z0 nL (pc + 1) lv st ph') : VV p l e R s m args below meth c Q B n0 z0 nL pc lv (.long x :: .int i :: .ref o :: st) ph := by
  obtain ⟨hx, hb, hml, hown, hts, hE, -⟩ := C
  unfold uL at h
  split at h
  · rename_i t n f hc0
    split at h
    · rename_i hcc
      obtain ⟨rfl, hin⟩ := hcc
      cases h
      intro H locs cells slots ls I
      exact va_last (D := B.2.1) (cl := vwCl) (ws := cw B ph) (tys := tysOf B) (A := AA B) (H0 := s.heap) hx hb hE.1 I.1 (cw_D B ph) I.2.1 o 1 (cw_of hc0) rfl hin hdg (fun H1 locs1 hP _ hS => k H1 locs1 cells slots ls (I.set hc0 rfl hP hS))
    · cases h
  · cases h
theorem up_map (B : WB) (f : Nat → Option Nat) (i v : Nat) : (fun j => (va_up f i (some v) j).map (fun q => B.1 + q)) = va_up (fun j => (f j).map (fun q => B.1 + q)) i (some (B.1 + v)) := by
  funext j
  unfold va_up
  split <;> rfl
theorem isO_of {v ci : Nat} (h : isO ph v ci = true) : ∃ fs, ph[v]? = some (.inr (ci, fs)) := by
  unfold isO at h
  split at h
  · rename_i c0 fs hc
    rw [eq_of_beq h] at hc
    exact ⟨fs, hc⟩
  · cases h
theorem sn_aast {i : Int32} {o v : Nat} {ph' : PH} (C : CX p s m args meth c M B L xs) (hdg : decode M.2.2.1 pc = .ok (.aastore, 1)) (h : uR ph o i v = some ph')
    (k : VV p l e R s m args below meth c Q B n0 z0 nL (pc + 1) lv st ph') : VV p l e R s m args below meth c Q B n0 z0 nL pc lv (.ref v :: .int i :: .ref o :: st) ph := by
  obtain ⟨hx, hb, hml, hown, hts, hE, -⟩ := C
  unfold uR at h
  split at h
  · rename_i t n f hc0
    split at h
    · rename_i hcc
      obtain ⟨ht, hin, ho⟩ := hcc
      cases h
      obtain ⟨fs, hfs⟩ := isO_of ho
      intro H locs cells slots ls I
      rcases ht with rfl | rfl | rfl
      · refine va_astq (D := B.2.1) (cl := vwCl) (ws := cw B ph) (tys := tysOf B) (A := AA B) (H0 := s.heap) hx hb hE.1 I.1 (cw_D B ph) I.2.1 o 4 v 4 (cw_of hc0) rfl (cw_of hfs) rfl hin hdg (fun H1 locs1 hP _ hS => k H1 locs1 cells slots ls (I.set hc0 rfl ?_ hS))
        show va_P _ _ ((cw B ph).set o (B.1 + o, .inl (B.2.2.1 4, n, .inr (.inr (.inr (.inr (fun j => (va_up f i.toNatClampNeg (some v) j).map (fun q => B.1 + q)))))))) H1
        rw [up_map]
        exact hP
      · refine va_astq (D := B.2.1) (cl := vwCl) (ws := cw B ph) (tys := tysOf B) (A := AA B) (H0 := s.heap) hx hb hE.1 I.1 (cw_D B ph) I.2.1 o 5 v 7 (cw_of hc0) rfl (cw_of hfs) rfl hin hdg (fun H1 locs1 hP _ hS => k H1 locs1 cells slots ls (I.set hc0 rfl ?_ hS))
        show va_P _ _ ((cw B ph).set o (B.1 + o, .inl (B.2.2.1 5, n, .inr (.inr (.inr (.inr (fun j => (va_up f i.toNatClampNeg (some v) j).map (fun q => B.1 + q)))))))) H1
        rw [up_map]
        exact hP
      · refine va_astq (D := B.2.1) (cl := vwCl) (ws := cw B ph) (tys := tysOf B) (A := AA B) (H0 := s.heap) hx hb hE.1 I.1 (cw_D B ph) I.2.1 o 6 v 6 (cw_of hc0) rfl (cw_of hfs) rfl hin hdg (fun H1 locs1 hP _ hS => k H1 locs1 cells slots ls (I.set hc0 rfl ?_ hS))
        show va_P _ _ ((cw B ph).set o (B.1 + o, .inl (B.2.2.1 6, n, .inr (.inr (.inr (.inr (fun j => (va_up f i.toNatClampNeg (some v) j).map (fun q => B.1 + q)))))))) H1
        rw [up_map]
        exact hP
    · cases h
  · cases h
theorem sn_alen {o : Nat} {v : Int32} (C : CX p s m args meth c M B L xs) (hdg : decode M.2.2.1 pc = .ok (.arraylength, 1)) (h : aN ph o = some v)
    (k : VV p l e R s m args below meth c Q B n0 z0 nL (pc + 1) lv (.int v :: st) ph) : VV p l e R s m args below meth c Q B n0 z0 nL pc lv (.ref o :: st) ph := by
  obtain ⟨hx, hb, hml, hown, hts, hE, -⟩ := C
  unfold aN at h
  split at h
  · rename_i t n f hc0
    split at h
    · rename_i ht
      have hv : Int32.ofNat n = v := Option.some.inj h
      intro H locs cells slots ls I
      obtain ⟨ty, hty⟩ : ∃ ty, (tysOf B)[t]? = some (B.2.2.1 t, ty) := by
        match t, ht with
        | 0, _ => exact ⟨_, rfl⟩
        | 1, _ => exact ⟨_, rfl⟩
        | 2, _ => exact ⟨_, rfl⟩
        | 3, _ => exact ⟨_, rfl⟩
        | 4, _ => exact ⟨_, rfl⟩
        | 5, _ => exact ⟨_, rfl⟩
        | 6, _ => exact ⟨_, rfl⟩
      have hx1 : (cvA B (n, f)).1 = n := by
        unfold cvA
        split
        · rename_i h; cases h; rfl
        · rfl
      exact va_alen (D := B.2.1) (cl := vwCl) (ws := cw B ph) (tys := tysOf B) hx hb hE.1 I.1 o t (cw_of hc0) hty (by rw [hx1]; exact hv) hdg (k H locs cells slots ls I)
    · cases h
  · cases h
end SND3
