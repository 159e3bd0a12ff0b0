/-! every method's contract, at once -/
theorem eA_len (B : WB) (as : List Value) : (lg_sl (as.map (rv B))).length = (eA as).length := by
  induction as with
  | nil => rfl
  | cons v vs ih =>
    show (lg_sl (rv B v :: vs.map (rv B))).length = (if v.category = 2 then some v :: none :: eA vs else some v :: eA vs).length
    have h1 : lg_sl (rv B v :: vs.map (rv B)) = (if (rv B v).category = 2 then [Slot.val (rv B v), Slot.second] else [Slot.val (rv B v)]) ++ lg_sl (vs.map (rv B)) := by
      unfold lg_sl
      rw [List.flatMap_cons]
    rw [h1, rv_cat]
    by_cases hc : v.category = 2
    · rw [if_pos hc, if_pos hc, List.length_append, ih]
      simp
      omega
    · rw [if_neg hc, if_neg hc, List.length_append, ih]
      simp
      omega
theorem eA_args (B : WB) : ∀ (as : List Value) (i k : Nat) (v : Value), gL (eA as) k = some v → (i + k, rv B v) ∈ lv_args i (as.map (rv B))
  | [], i, k, v, h => by
    unfold gL at h
    simp [eA] at h
  | w :: ws, i, k, v, h => by
    show (i + k, rv B v) ∈ lv_args i (rv B w :: ws.map (rv B))
    unfold lv_args
    have h : gL (if w.category = 2 then some w :: none :: eA ws else some w :: eA ws) k = some v := h
    rw [rv_cat]
    by_cases hc : w.category = 2
    · rw [if_pos hc] at h ⊢
      match k, h with
      | 0, h =>
        have : w = v := Option.some.inj h
        rw [this]
        exact List.mem_cons_self
      | 1, h => cases h
      | k + 2, h =>
        have h : gL (eA ws) k = some v := h
        refine List.mem_cons_of_mem _ ?_
        have := eA_args B ws (i + 2) k v h
        rw [show i + (k + 2) = i + 2 + k by omega]
        exact this
    · rw [if_neg hc] at h ⊢
      match k, h with
      | 0, h =>
        have : w = v := Option.some.inj h
        rw [this]
        exact List.mem_cons_self
      | k + 1, h =>
        have h : gL (eA ws) k = some v := h
        refine List.mem_cons_of_mem _ ?_
        have := eA_args B ws (i + 1) k v h
        rw [show i + (k + 1) = i + 1 + k by omega]
        exact this
theorem LH_entry {B : WB} {M : MD} {as : List Value} {ls : Array Slot} (hlen : (eA as).length ≤ M.2.2.2.1) (h : lv_has ls M.2.2.2.1 (lv_args 0 (as.map (rv B)))) : LH B M.2.2.2.1 (ent M as) ls := by
  refine ⟨by unfold ent; rw [List.length_append, List.length_replicate]; omega, h.1, h.2.1, fun q hq => ?_⟩
  obtain ⟨v, hv, hq2⟩ := al_mem.mp hq
  have hv2 : gL (eA as) q.1 = some v := by
    unfold gL ent at hv
    unfold gL
    rcases Nat.lt_or_ge q.1 (eA as).length with hl | hl
    · rw [List.getElem?_append_left hl] at hv
      exact hv
    · rw [List.getElem?_append_right hl] at hv
      rcases Nat.lt_or_ge (q.1 - (eA as).length) (M.2.2.2.1 - (eA as).length) with h2 | h2
      · rw [List.getElem?_replicate, if_pos h2] at hv
        cases hv
      · rw [List.getElem?_replicate, if_neg (by omega)] at hv
        cases hv
  have := eA_args B as 0 q.1 v hv2
  rw [Nat.zero_add, ← hq2] at this
  exact h.2.2 q this
theorem HC_all {l : Launch} {Z : PT} {B : WB} {L : Nat} {xs : Nat → Int32} (hZ : ZOK Z L xs)
    (hSTR : ∀ (p : Program) (e : Env) (R : Room) (s : State) (m : MethodId) (args : Array Value) (below : List Frame) (meth : Method) (c : Code) (Q : State → Prop) (n0 z0 nL : Nat) (M : MD), 10 ≤ R.frames → 480 ≤ R.locals → CX p s m args meth c M B L xs → M.2.2.2.1 = nL → STR p l e R s m args below meth c Q B n0 z0 nL M Z) : ∀ d, HC l Z B L xs d
  | 0 => fun M as ph phE r mok hlen h => by cases h
  | d + 1 => fun M as ph phE r mok hlen h => by
    refine ⟨RS_mono Z (d + 1) M as ph phE r h, ?_⟩
    obtain ⟨n, hn⟩ := RS_ex h
    refine Met.ofW (cc := M.2.2.1) (maxL := M.2.2.2.1) (ret := M.2.2.2.2.1) mok.2.1 rfl ?_
    intro p e s m args below meth c s₁ Bd hml hv
    obtain ⟨rfl, hP, hsz, hE⟩ := hv
    have hts : ∀ w ∈ GW, w.before (as.map (rv B)).toArray s = true := fun w hw => atoms_spec (ws := mws M) Bd.pre w (List.mem_cons_of_mem _ hw)
    have hown : s.vm.findClass (cn M.1) = some m.cls := by
      rw [← mok.2.2.1]
      exact findClass_of_methodNamed Bd.named
    have C : CX p s m (as.map (rv B)).toArray meth c M B L xs := ⟨Bd.exec, Bd.bytes, hml, hown, hts, hE, Bd.notSynchronized, Bd.returns, (name_of_methodNamed Bd.named Bd.method).1⟩
    have hl := lv_entry (as.map (rv B)) (n := M.2.2.2.1) (by rw [eA_len]; exact hlen)
    rw [lg_entry_eq]
    generalize (lg_sl (as.map (rv B)) ++ List.replicate (M.2.2.2.1 - (lg_sl (as.map (rv B))).length) Slot.unset).toArray = ls at hl ⊢
    have hR : d + 11 ≤ (rmD (d + 1) (phE.length - ph.length) (sl phE - sl ph)).frames ∧ (d + 1) * 48 + 480 ≤ (rmD (d + 1) (phE.length - ph.length) (sl phE - sl ph)).locals := ⟨by show d + 11 ≤ d + 1 + 10; omega, Nat.le_refl _⟩
    exact ev_snd (R := rmD (d + 1) (phE.length - ph.length) (sl phE - sl ph)) C hZ (HC_all hZ hSTR d) hR rfl (hSTR p e _ s m _ below meth c _ _ _ _ M (by show 10 ≤ d + 1 + 10; omega) (by show 480 ≤ (d + 1) * 48 + 480; omega) C rfl) ⟨Nat.le_refl _, Nat.le_refl _⟩ (fun pc i len lv st hd he => ret_snd C pc i len lv st hd he) n hn s.heap [] 0 0 ls ⟨hP, va_S.rf, LH_entry hlen hl, hsz, Nat.le_refl _, Nat.le_refl _, by omega, by omega⟩
