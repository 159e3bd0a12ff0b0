/-! rows carried: into the images and the past, and back -/
def cpTo (f : Nat → Int32) (o : Nat) (g : Nat → Int32) (n : Nat) : Nat → Int32 := fun i => if o ≤ i ∧ i < o + n then g (i - o) else f i
theorem cpTo_in {f g : Nat → Int32} {o n i : Nat} (h : i < n) : cpTo f o g n (o + i) = g i := by
  unfold cpTo
  rw [if_pos ⟨by omega, by omega⟩, show o + i - o = i by omega]
theorem cpTo_out {f g : Nat → Int32} {o n i : Nat} (h : i < o ∨ o + n ≤ i) : cpTo f o g n i = f i := by
  unfold cpTo
  rw [if_neg (by omega)]
theorem cpTo_0 (f g : Nat → Int32) (o : Nat) : cpTo f o g 0 = f := by
  funext i
  exact if_neg (by omega)
theorem cpTo_up (f g : Nat → Int32) (o n : Nat) : upd (cpTo f o g n) (o + n) (g n) = cpTo f o g (n + 1) := by
  funext i
  unfold upd cpTo
  by_cases h : i = o + n
  · rw [if_pos h, if_pos (by omega), show i - o = n by omega]
  · rw [if_neg h]
    by_cases h2 : o ≤ i ∧ i < o + n
    · rw [if_pos h2, if_pos (by omega)]
    · rw [if_neg h2, if_neg (by omega)]
/-- n of row a, from s on, into row R from o on; c counts -/
def pt (c R : Nat) (m : MM) (a s n o : Nat) : MM := (upd m.1 c (nI (o + n)), (fun b => if b = R then cpTo (m.2.1 R) o (fun i => m.2.1 a (s + i)) n else m.2.1 b), m.2.2)
def gt (c R : Nat) (m : MM) (a s n o : Nat) : MM := (upd m.1 c (nI (o + n)), (fun b => if b = a then cpTo (m.2.1 a) s (fun i => m.2.1 R (o + i)) n else m.2.1 b), m.2.2)
def pts (c R : Nat) : List (Nat × Nat × Nat) → Nat → MM → MM
  | [], _, m => m
  | q :: l, o, m => pts c R l (o + q.2.2) (pt c R m q.1 q.2.1 q.2.2 o)
def gts (c R : Nat) : List (Nat × Nat × Nat) → Nat → MM → MM
  | [], _, m => m
  | q :: l, o, m => gts c R l (o + q.2.2) (gt c R m q.1 q.2.1 q.2.2 o)
def tot : List (Nat × Nat × Nat) → Nat
  | [] => 0
  | q :: l => q.2.2 + tot l
def At : List (Nat × Nat × Nat) → Nat → Nat → Nat → Nat → Prop
  | [], _, _, _, _ => False
  | q :: l, off, a, s, n => (off = 0 ∧ q = (a, s, n)) ∨ (q.2.2 ≤ off ∧ At l (off - q.2.2) a s n)
theorem At_mem : ∀ {l : List (Nat × Nat × Nat)} {off a s n : Nat}, At l off a s n → (a, s, n) ∈ l ∧ off + n ≤ tot l
  | [], _, _, _, _, h => h.elim
  | q :: l, off, a, s, n, h => by
    rcases h with ⟨h1, h2⟩ | ⟨h1, h2⟩
    · subst h1
      subst h2
      refine ⟨List.mem_cons_self, ?_⟩
      show 0 + n ≤ n + tot l
      omega
    · obtain ⟨h3, h4⟩ := At_mem h2
      refine ⟨List.mem_cons_of_mem _ h3, ?_⟩
      show off + n ≤ q.2.2 + tot l
      omega
theorem pts_spec (c R : Nat) : ∀ (l : List (Nat × Nat × Nat)) (o : Nat) (m : MM), (∀ q, q ∈ l → q.1 ≠ R) → (∀ b, b ≠ R → (pts c R l o m).2.1 b = m.2.1 b) ∧ (pts c R l o m).2.2 = m.2.2 ∧ (∀ k, k ≠ c → (pts c R l o m).1 k = m.1 k) ∧ (∀ i, i < o ∨ o + tot l ≤ i → (pts c R l o m).2.1 R i = m.2.1 R i) ∧ ∀ off a s n, At l off a s n → ∀ i, i < n → (pts c R l o m).2.1 R (o + off + i) = m.2.1 a (s + i)
  | [], o, m, _ => ⟨fun _ _ => rfl, rfl, fun _ _ => rfl, fun _ _ => rfl, fun _ _ _ _ h => h.elim⟩
  | q :: l, o, m, hq => by
    obtain ⟨i1, i2, i3, i4, i5⟩ := pts_spec c R l (o + q.2.2) (pt c R m q.1 q.2.1 q.2.2 o) (fun p hp => hq p (List.mem_cons_of_mem _ hp))
    have e1 : ∀ b, b ≠ R → (pt c R m q.1 q.2.1 q.2.2 o).2.1 b = m.2.1 b := fun b hb => if_neg hb
    have e2 : (pt c R m q.1 q.2.1 q.2.2 o).2.1 R = cpTo (m.2.1 R) o (fun i => m.2.1 q.1 (q.2.1 + i)) q.2.2 := if_pos rfl
    refine ⟨fun b hb => (i1 b hb).trans (e1 b hb), i2, fun k hk => (i3 k hk).trans (upd_ne _ _ hk), fun i hi => ?_, fun off a s n ha i hi => ?_⟩
    · have hi : i < o ∨ o + (q.2.2 + tot l) ≤ i := hi
      refine (i4 i (by omega)).trans ?_
      rw [e2, cpTo_out (by omega)]
    · rcases ha with ⟨h1, h2⟩ | ⟨h1, h2⟩
      · subst h1
        subst h2
        refine (i4 (o + 0 + i) (Or.inl (by show o + 0 + i < o + n; omega))).trans ?_
        rw [e2, Nat.add_zero]
        exact cpTo_in hi
      · have := i5 (off - q.2.2) a s n h2 i hi
        rw [show o + q.2.2 + (off - q.2.2) + i = o + off + i by omega] at this
        refine this.trans ?_
        rw [e1 a (hq _ (List.mem_cons_of_mem _ (At_mem h2).1))]
theorem gts_spec (c R : Nat) : ∀ (l : List (Nat × Nat × Nat)) (o : Nat) (m : MM), (∀ q, q ∈ l → q.1 ≠ R) → (l.map fun q => q.1).Nodup → (∀ b, b ∉ (l.map fun q => q.1) → (gts c R l o m).2.1 b = m.2.1 b) ∧ (gts c R l o m).2.2 = m.2.2 ∧ (∀ k, k ≠ c → (gts c R l o m).1 k = m.1 k) ∧ (∀ q, q ∈ l → ∀ i, i < q.2.1 ∨ q.2.1 + q.2.2 ≤ i → (gts c R l o m).2.1 q.1 i = m.2.1 q.1 i) ∧ ∀ off a s n, At l off a s n → ∀ i, i < n → (gts c R l o m).2.1 a (s + i) = m.2.1 R (o + off + i)
  | [], o, m, _, _ => ⟨fun _ _ => rfl, rfl, fun _ _ => rfl, (fun q hq => by cases hq), fun _ _ _ _ h => h.elim⟩
  | q :: l, o, m, hq, hn => by
    have hn2 := List.nodup_cons.mp hn
    obtain ⟨i1, i2, i3, i4, i5⟩ := gts_spec c R l (o + q.2.2) (gt c R m q.1 q.2.1 q.2.2 o) (fun p hp => hq p (List.mem_cons_of_mem _ hp)) hn2.2
    have e1 : ∀ b, b ≠ q.1 → (gt c R m q.1 q.2.1 q.2.2 o).2.1 b = m.2.1 b := fun b hb => if_neg hb
    have e2 : (gt c R m q.1 q.2.1 q.2.2 o).2.1 q.1 = cpTo (m.2.1 q.1) q.2.1 (fun i => m.2.1 R (o + i)) q.2.2 := if_pos rfl
    refine ⟨fun b hb => ?_, i2, fun k hk => (i3 k hk).trans (upd_ne _ _ hk), fun p hp i hi => ?_, fun off a s n ha i hi => ?_⟩
    · have hb2 : ¬ (b = q.1 ∨ b ∈ l.map fun q => q.1) := fun z => hb (List.mem_cons.mpr z)
      exact (i1 b (fun z => hb2 (Or.inr z))).trans (e1 b (fun z => hb2 (Or.inl z)))
    · rcases List.mem_cons.mp hp with rfl | hp
      · refine (congrFun (i1 p.1 hn2.1) i).trans ?_
        rw [e2, cpTo_out hi]
      · refine (i4 p hp i hi).trans ?_
        rw [e1 p.1 (fun z => hn2.1 (by show q.1 ∈ _; rw [← z]; exact List.mem_map_of_mem (f := fun q => q.1) hp))]
    · rcases ha with ⟨h1, h2⟩ | ⟨h1, h2⟩
      · subst h1
        subst h2
        have : (gts c R l (o + n) (gt c R m a s n o)).2.1 a = (gt c R m a s n o).2.1 a := i1 a hn2.1
        show (gts c R l (o + n) (gt c R m a s n o)).2.1 a (s + i) = _
        rw [this]
        refine (congrFun e2 (s + i)).trans ?_
        rw [Nat.add_zero]
        exact cpTo_in hi
      · have := i5 (off - q.2.2) a s n h2 i hi
        rw [show o + q.2.2 + (off - q.2.2) + i = o + off + i by omega] at this
        refine this.trans ?_
        rw [e1 R (fun z => hq q List.mem_cons_self z.symm)]
section GEN
variable {L : Nat} {xs : Nat → Int32} {sh : List Sh} {x : ST} {m : MM} {a n : Nat}
theorem Gn (hM : isMo sh) (hn : MSH[1 + a]? = some (.inl (0, n))) : sh[260 + a]? = some (.inl (0, n)) := by
  have := hM (1 + a) _ hn
  rw [show 259 + (1 + a) = 260 + a by omega] at this
  exact this
theorem Ga (hn : MSH[1 + a]? = some (.inl (0, n))) : a < 47 := by
  have : 1 + a < MSH.length := (List.getElem?_eq_some_iff.mp hn).1
  have e : MSH.length = 48 := rfl
  omega
theorem Ge (hM : isMo sh) (hn : MSH[1 + a]? = some (.inl (0, n))) {j : Nat} (hj : j < n) (h2 : n < 2 ^ 31) : eI (HP sh (pM x m)) (.ref (260 + a)) (nI j) = some (m.2.1 a j) := by
  rw [rA (Gn hM hn) hj h2, pM_A x m _ a rfl (Ga hn)]
theorem Gu (hM : isMo sh) (hn : MSH[1 + a]? = some (.inl (0, n))) {j : Nat} (hj : j < n) (h2 : n < 2 ^ 31) (v : Int32) : wI (HP sh (pM x m)) (.ref (260 + a)) (nI j) v = some (HP sh (pM x (mA m a j v))) := by
  rw [wA (Gn hM hn) hj h2, pM_A x m _ a rfl (Ga hn), pM_sA x m _ a j v rfl (Ga hn)]
theorem Gl (hM : isMo sh) (hn : MSH[1 + a]? = some (.inl (0, n))) : nA (HP sh (pM x m)) (.ref (260 + a)) = some (nI n) := lenA (by decide) (Gn hM hn)
theorem pt_0 {c R : Nat} {m : MM} {a s o : Nat} (h : m.1 c = nI o) : pt c R m a s 0 o = m := by
  unfold pt
  rw [cpTo_0, Nat.add_zero, ← h, upd_self]
  refine Prod.ext rfl (Prod.ext ?_ rfl)
  funext b
  show (if b = R then m.2.1 R else m.2.1 b) = _
  by_cases hb : b = R
  · rw [if_pos hb, hb]
  · rw [if_neg hb]
theorem gt_0 {c R : Nat} {m : MM} {a s o : Nat} (h : m.1 c = nI o) : gt c R m a s 0 o = m := by
  unfold gt
  rw [cpTo_0, Nat.add_zero, ← h, upd_self]
  refine Prod.ext rfl (Prod.ext ?_ rfl)
  funext b
  show (if b = a then m.2.1 a else m.2.1 b) = _
  by_cases hb : b = a
  · rw [if_pos hb, hb]
  · rw [if_neg hb]
theorem pt_1 {c R : Nat} {m : MM} {a s o i : Nat} : mI (mA (pt c R m a s i o) R (o + i) (m.2.1 a (s + i))) c (nI (o + i + 1)) = pt c R m a s (i + 1) o := by
  unfold pt mI mA
  rw [upd_upd]
  refine Prod.ext rfl (Prod.ext ?_ rfl)
  funext b
  show (if b = R then upd (if R = R then cpTo (m.2.1 R) o (fun i => m.2.1 a (s + i)) i else m.2.1 R) (o + i) (m.2.1 a (s + i)) else (if b = R then cpTo (m.2.1 R) o (fun i => m.2.1 a (s + i)) i else m.2.1 b)) = (if b = R then cpTo (m.2.1 R) o (fun i => m.2.1 a (s + i)) (i + 1) else m.2.1 b)
  by_cases hb : b = R
  · rw [if_pos hb, if_pos rfl, if_pos hb]
    exact cpTo_up (m.2.1 R) (fun i => m.2.1 a (s + i)) o i
  · rw [if_neg hb, if_neg hb, if_neg hb]
theorem gt_1 {c R : Nat} {m : MM} {a s o i : Nat} : mI (mA (gt c R m a s i o) a (s + i) (m.2.1 R (o + i))) c (nI (o + i + 1)) = gt c R m a s (i + 1) o := by
  unfold gt mI mA
  rw [upd_upd]
  refine Prod.ext rfl (Prod.ext ?_ rfl)
  funext b
  show (if b = a then upd (if a = a then cpTo (m.2.1 a) s (fun i => m.2.1 R (o + i)) i else m.2.1 a) (s + i) (m.2.1 R (o + i)) else (if b = a then cpTo (m.2.1 a) s (fun i => m.2.1 R (o + i)) i else m.2.1 b)) = (if b = a then cpTo (m.2.1 a) s (fun i => m.2.1 R (o + i)) (i + 1) else m.2.1 b)
  by_cases hb : b = a
  · rw [if_pos hb, if_pos rfl, if_pos hb]
    exact cpTo_up (m.2.1 a) (fun i => m.2.1 R (o + i)) s i
  · rw [if_neg hb, if_neg hb, if_neg hb]
theorem mA_self (m : MM) (a k : Nat) : mA m a k (m.2.1 a k) = m := by
  unfold mA
  rw [upd_self]
  refine Prod.ext rfl (Prod.ext ?_ rfl)
  funext b
  show (if b = a then m.2.1 a else m.2.1 b) = _
  by_cases hb : b = a
  · rw [if_pos hb, hb]
  · rw [if_neg hb]
theorem pt_c {c R : Nat} {m : MM} {a s n o : Nat} : (pt c R m a s n o).1 c = nI (o + n) := by
  show upd m.1 c (nI (o + n)) c = _
  exact upd_at _ _ _
theorem gt_c {c R : Nat} {m : MM} {a s n o : Nat} : (gt c R m a s n o).1 c = nI (o + n) := by
  show upd m.1 c (nI (o + n)) c = _
  exact upd_at _ _ _
theorem v_putR (d : Nat) (hM : isMo sh) {r o : Nat} (hr : r = 260 + a) (hn : MSH[1 + a]? = some (.inl (0, n))) (h2 : n < 2 ^ 31) (hz : m.1 62 = 0) (ho : m.1 61 = nI o) (hb : o + n ≤ 9500) (ha : a ≠ 45) : cV (ZZ L xs) (d + 1) mX13_carryRow [.ref 259, .ref r] (HP sh (pM x m)) = some (HP sh (pM x (pt 61 45 m a 0 n o))) := by
  subst hr
  have loop : ∀ (f i : Nat), f + i = n → RS (ZZ L xs) (d + 1) mX13_carryRow 2 [some (.ref 259), some (.ref (260 + a)), some (.int (nI i))] [] (HP sh (pM x (pt 61 45 m a 0 i o))) = some (HP sh (pM x (pt 61 45 m a 0 n o)), none) := by
    intro f
    induction f with
    | zero =>
      intro i hi
      have : i = n := by omega
      subst this
      rw [bX13_carryRow_2 (hv1 := rfl), Gl hM hn, some_bind', if_pos (nI_le (Nat.le_refl _) h2)]
    | succ f ih =>
      intro i hi
      have e1 : (pt 61 45 m a 0 i o).1 61 = nI (o + i) := pt_c
      have e2 : (pt 61 45 m a 0 i o).1 62 = 0 := hz
      have e3 : (pt 61 45 m a 0 i o).2.1 a i = m.2.1 a (0 + i) := by
        show (if a = 45 then _ else m.2.1 a) i = _
        rw [if_neg ha, Nat.zero_add]
      have e4 : (mA (pt 61 45 m a 0 i o) 45 (o + i) (m.2.1 a (0 + i))).1 61 = nI (o + i) := e1
      rw [bX13_carryRow_2 (hv1 := rfl), Gl hM hn, some_bind', if_neg (nI_ge (by omega) h2), M_goesBack hM (Or.inl e2), some_bind', e2, if_pos rfl, M_images hM, some_bind', M_imageAt hM, some_bind', e1, Ge hM hn (by omega) h2, some_bind', e3, Mu_images hM (by omega), some_bind', bX13_carryRow_42 (hv1 := rfl), M_imageAt hM, some_bind', e4, Mw_imageAt hM, some_bind', nI_1, nI_1, pt_1]
      exact ih (i + 1) (by omega)
  refine cV_of ?_
  show RS (ZZ L xs) (d + 1) mX13_carryRow 0 [some (.ref 259), some (.ref (260 + a)), none] [] _ = _
  rw [bX13_carryRow_0 (hv1 := rfl)]
  have := loop n 0 rfl
  rw [pt_0 ho] at this
  exact this
theorem v_getR (d : Nat) (hM : isMo sh) {r o : Nat} (hr : r = 260 + a) (hn : MSH[1 + a]? = some (.inl (0, n))) (h2 : n < 2 ^ 31) (hz : m.1 62 = 1) (ho : m.1 61 = nI o) (hb : o + n ≤ 9500) (ha : a ≠ 45) : cV (ZZ L xs) (d + 1) mX13_carryRow [.ref 259, .ref r] (HP sh (pM x m)) = some (HP sh (pM x (gt 61 45 m a 0 n o))) := by
  subst hr
  have loop : ∀ (f i : Nat), f + i = n → RS (ZZ L xs) (d + 1) mX13_carryRow 2 [some (.ref 259), some (.ref (260 + a)), some (.int (nI i))] [] (HP sh (pM x (gt 61 45 m a 0 i o))) = some (HP sh (pM x (gt 61 45 m a 0 n o)), none) := by
    intro f
    induction f with
    | zero =>
      intro i hi
      have : i = n := by omega
      subst this
      rw [bX13_carryRow_2 (hv1 := rfl), Gl hM hn, some_bind', if_pos (nI_le (Nat.le_refl _) h2)]
    | succ f ih =>
      intro i hi
      have e1 : (gt 61 45 m a 0 i o).1 61 = nI (o + i) := gt_c
      have e2 : (gt 61 45 m a 0 i o).1 62 = 1 := hz
      have e3 : (gt 61 45 m a 0 i o).2.1 45 (o + i) = m.2.1 45 (o + i) := by
        show (if 45 = a then _ else m.2.1 45) (o + i) = _
        rw [if_neg (fun z => ha z.symm)]
      have e4 : (mA (gt 61 45 m a 0 i o) a (0 + i) (m.2.1 45 (o + i))).1 61 = nI (o + i) := e1
      have e5 := gt_1 (c := 61) (R := 45) (m := m) (a := a) (s := 0) (o := o) (i := i)
      rw [Nat.zero_add] at e4 e5
      rw [bX13_carryRow_2 (hv1 := rfl), Gl hM hn, some_bind', if_neg (nI_ge (by omega) h2), M_goesBack hM (Or.inr e2), some_bind', e2, if_neg (by decide), M_images hM, some_bind', M_imageAt hM, some_bind', e1, Me_images hM (by omega), some_bind', e3, Gu hM hn (by omega) h2, some_bind', bX13_carryRow_42 (hv1 := rfl), M_imageAt hM, some_bind', e4, Mw_imageAt hM, some_bind', nI_1, nI_1, e5]
      exact ih (i + 1) (by omega)
  refine cV_of ?_
  show RS (ZZ L xs) (d + 1) mX13_carryRow 0 [some (.ref 259), some (.ref (260 + a)), none] [] _ = _
  rw [bX13_carryRow_0 (hv1 := rfl)]
  have := loop n 0 rfl
  rw [gt_0 ho] at this
  exact this
theorem i_mvP (d : Nat) (hM : isMo sh) {o : Nat} (hz : m.1 53 = 0) (ho : m.1 52 = nI o) (hb : o < 1520) (v : Int32) : cI (ZZ L xs) (d + 1) mX13_moves [.ref 259, .int v] (HP sh (pM x m)) = some (HP sh (pM x (mI (mA m 38 o v) 52 (nI (o + 1)))), v) := by
  refine cI_of ?_
  show RS (ZZ L xs) (d + 1) mX13_moves 0 [some (.ref 259), some (.int v), none] [] _ = _
  rw [bX13_moves_0, M_takesBack hM (Or.inl hz), some_bind', hz, if_pos rfl, bX13_moves_20, M_past hM, some_bind', M_pastAt hM, some_bind', ho, Mu_past hM (by omega), some_bind', M_pastAt hM, some_bind', mA_1, ho, Mw_pastAt hM, some_bind', nI_1]
theorem i_mvG (d : Nat) (hM : isMo sh) {o : Nat} (hz : m.1 53 = 1) (ho : m.1 52 = nI o) (hb : o < 1520) (v : Int32) : cI (ZZ L xs) (d + 1) mX13_moves [.ref 259, .int v] (HP sh (pM x m)) = some (HP sh (pM x (mI m 52 (nI (o + 1)))), m.2.1 38 o) := by
  refine cI_of ?_
  show RS (ZZ L xs) (d + 1) mX13_moves 0 [some (.ref 259), some (.int v), none] [] _ = _
  rw [bX13_moves_0, M_takesBack hM (Or.inr hz), some_bind', hz, if_neg (by decide), M_past hM, some_bind', M_pastAt hM, some_bind', ho, Me_past hM (by omega), some_bind', bX13_moves_20, M_past hM, some_bind', M_pastAt hM, some_bind', ho, Mu_past hM (by omega), some_bind', M_pastAt hM, some_bind', mA_self, ho, Mw_pastAt hM, some_bind', nI_1]
theorem v_mvRP (d : Nat) (hM : isMo sh) {r o : Nat} (hr : r = 260 + a) (hn : MSH[1 + a]? = some (.inl (0, n))) (h2 : n < 2 ^ 31) (hz : m.1 53 = 0) (ho : m.1 52 = nI o) (hb : o + n ≤ 1520) (ha : a ≠ 38) : cV (ZZ L xs) (d + 2) mX13_movesRow [.ref 259, .ref r] (HP sh (pM x m)) = some (HP sh (pM x (pt 52 38 m a 0 n o))) := by
  subst hr
  have loop : ∀ (f i : Nat), f + i = n → RS (ZZ L xs) (d + 2) mX13_movesRow 2 [some (.ref 259), some (.ref (260 + a)), some (.int (nI i))] [] (HP sh (pM x (pt 52 38 m a 0 i o))) = some (HP sh (pM x (pt 52 38 m a 0 n o)), none) := by
    intro f
    induction f with
    | zero =>
      intro i hi
      have : i = n := by omega
      subst this
      rw [bX13_movesRow_2 (hv1 := rfl), Gl hM hn, some_bind', if_pos (nI_le (Nat.le_refl _) h2)]
    | succ f ih =>
      intro i hi
      have e1 : (pt 52 38 m a 0 i o).1 52 = nI (o + i) := pt_c
      have e2 : (pt 52 38 m a 0 i o).1 53 = 0 := hz
      have e3 : (pt 52 38 m a 0 i o).2.1 a i = m.2.1 a (0 + i) := by
        show (if a = 38 then _ else m.2.1 a) i = _
        rw [if_neg ha, Nat.zero_add]
      have e6 : (pt 52 38 m a 0 (i + 1) o).2.1 a i = m.2.1 a (0 + i) := by
        show (if a = 38 then _ else m.2.1 a) i = _
        rw [if_neg ha, Nat.zero_add]
      rw [bX13_movesRow_2 (hv1 := rfl), Gl hM hn, some_bind', if_neg (nI_ge (by omega) h2), Ge hM hn (by omega) h2, some_bind', e3, M_is hM, some_bind', i_mvP d hM e2 e1 (by omega), some_bind', pt_1]
      show (wI (HP sh (pM x (pt 52 38 m a 0 (i + 1) o))) (.ref (260 + a)) (nI i) (m.2.1 a (0 + i))).bind _ = _
      rw [Gu hM hn (by omega) h2, some_bind', ← e6, mA_self, nI_1]
      exact ih (i + 1) (by omega)
  refine cV_of ?_
  show RS (ZZ L xs) (d + 2) mX13_movesRow 0 [some (.ref 259), some (.ref (260 + a)), none] [] _ = _
  rw [bX13_movesRow_0 (hv1 := rfl)]
  have := loop n 0 rfl
  rw [pt_0 ho] at this
  exact this
theorem v_mvRG (d : Nat) (hM : isMo sh) {r o : Nat} (hr : r = 260 + a) (hn : MSH[1 + a]? = some (.inl (0, n))) (h2 : n < 2 ^ 31) (hz : m.1 53 = 1) (ho : m.1 52 = nI o) (hb : o + n ≤ 1520) (ha : a ≠ 38) : cV (ZZ L xs) (d + 2) mX13_movesRow [.ref 259, .ref r] (HP sh (pM x m)) = some (HP sh (pM x (gt 52 38 m a 0 n o))) := by
  subst hr
  have loop : ∀ (f i : Nat), f + i = n → RS (ZZ L xs) (d + 2) mX13_movesRow 2 [some (.ref 259), some (.ref (260 + a)), some (.int (nI i))] [] (HP sh (pM x (gt 52 38 m a 0 i o))) = some (HP sh (pM x (gt 52 38 m a 0 n o)), none) := by
    intro f
    induction f with
    | zero =>
      intro i hi
      have : i = n := by omega
      subst this
      rw [bX13_movesRow_2 (hv1 := rfl), Gl hM hn, some_bind', if_pos (nI_le (Nat.le_refl _) h2)]
    | succ f ih =>
      intro i hi
      have e1 : (gt 52 38 m a 0 i o).1 52 = nI (o + i) := gt_c
      have e2 : (gt 52 38 m a 0 i o).1 53 = 1 := hz
      have e3 : (gt 52 38 m a 0 i o).2.1 38 (o + i) = m.2.1 38 (o + i) := by
        show (if 38 = a then _ else m.2.1 38) (o + i) = _
        rw [if_neg (fun z => ha z.symm)]
      have e5 := gt_1 (c := 52) (R := 38) (m := m) (a := a) (s := 0) (o := o) (i := i)
      rw [Nat.zero_add] at e5
      have e6 : mA (mI (gt 52 38 m a 0 i o) 52 (nI (o + i + 1))) a i (m.2.1 38 (o + i)) = mI (mA (gt 52 38 m a 0 i o) a i (m.2.1 38 (o + i))) 52 (nI (o + i + 1)) := rfl
      rw [bX13_movesRow_2 (hv1 := rfl), Gl hM hn, some_bind', if_neg (nI_ge (by omega) h2), Ge hM hn (by omega) h2, some_bind', M_is hM, some_bind', i_mvG d hM e2 e1 (by omega), some_bind']
      show (wI (HP sh (pM x (mI (gt 52 38 m a 0 i o) 52 (nI (o + i + 1))))) (.ref (260 + a)) (nI i) ((gt 52 38 m a 0 i o).2.1 38 (o + i))).bind _ = _
      rw [e3, Gu hM hn (by omega) h2, some_bind', e6, e5, nI_1]
      exact ih (i + 1) (by omega)
  refine cV_of ?_
  show RS (ZZ L xs) (d + 2) mX13_movesRow 0 [some (.ref 259), some (.ref (260 + a)), none] [] _ = _
  rw [bX13_movesRow_0 (hv1 := rfl)]
  have := loop n 0 rfl
  rw [gt_0 ho] at this
  exact this
end GEN
def RL1 : List (Nat × Nat × Nat) := [(0, 0, 10), (1, 0, 6), (2, 0, 6), (3, 0, 6), (4, 0, 6), (5, 0, 6), (6, 0, 5), (7, 0, 30), (8, 0, 8), (9, 0, 6)]
def RL2 : List (Nat × Nat × Nat) := [(10, 0, 5), (11, 0, 5), (12, 0, 5), (13, 0, 10), (14, 0, 10), (15, 0, 10), (16, 0, 6), (17, 0, 6), (18, 0, 8), (38, 0, 1520)]
def RL3 : List (Nat × Nat × Nat) := (0, 4, 3) :: [(1, 0, 6), (2, 0, 6), (3, 0, 6), (4, 0, 6), (5, 0, 6), (6, 0, 5), (7, 0, 30), (8, 0, 8)]
section CARRY
variable {L : Nat} {xs : Nat → Int32} {sh : List Sh} {x : ST} {m : MM}
theorem v_put4 (d : Nat) (hM : isMo sh) : cV (ZZ L xs) (d + 2) mX13_carriesAll [.ref 259, .int 4, .int 0] (HP sh (pM x m)) = some (HP sh (pM x (pts 61 45 RL1 7600 (mI (mI m 61 (nI 7600)) 62 0)))) := by
  refine cV_of ?_
  show RS (ZZ L xs) (d + 2) mX13_carriesAll 0 [some (.ref 259), some (.int (nI 4)), some (.int 0)] [] _ = _
  rw [bX13_carriesAll_0, nI_1900m, Mw_imageAt hM, some_bind', if_pos (by decide), Mw_goesBack hM, some_bind']
  rw [M_scalar hM, some_bind', M_is hM, some_bind', v_putR d hM (a := 0) (n := 10) (o := 1900 * 4) rfl rfl (by decide) rfl rfl (by omega) (by decide), some_bind']
  rw [M_at hM, some_bind', M_is hM, some_bind', v_putR d hM (a := 1) (n := 6) (o := 1900 * 4 + 10) rfl rfl (by decide) rfl rfl (by omega) (by decide), some_bind']
  rw [M_kind hM, some_bind', M_is hM, some_bind', v_putR d hM (a := 2) (n := 6) (o := 1900 * 4 + 10 + 6) rfl rfl (by decide) rfl rfl (by omega) (by decide), some_bind']
  rw [M_asks hM, some_bind', M_is hM, some_bind', v_putR d hM (a := 3) (n := 6) (o := 1900 * 4 + 10 + 6 + 6) rfl rfl (by decide) rfl rfl (by omega) (by decide), some_bind']
  rw [M_askedAll hM, some_bind', M_is hM, some_bind', v_putR d hM (a := 4) (n := 6) (o := 1900 * 4 + 10 + 6 + 6 + 6) rfl rfl (by decide) rfl rfl (by omega) (by decide), some_bind']
  rw [M_chains hM, some_bind', M_is hM, some_bind', v_putR d hM (a := 5) (n := 6) (o := 1900 * 4 + 10 + 6 + 6 + 6 + 6) rfl rfl (by decide) rfl rfl (by omega) (by decide), some_bind']
  rw [M_where hM, some_bind', M_is hM, some_bind', v_putR d hM (a := 6) (n := 5) (o := 1900 * 4 + 10 + 6 + 6 + 6 + 6 + 6) rfl rfl (by decide) rfl rfl (by omega) (by decide), some_bind']
  rw [M_knows hM, some_bind', M_is hM, some_bind', v_putR d hM (a := 7) (n := 30) (o := 1900 * 4 + 10 + 6 + 6 + 6 + 6 + 6 + 5) rfl rfl (by decide) rfl rfl (by omega) (by decide), some_bind']
  rw [M_open hM, some_bind', M_is hM, some_bind', v_putR d hM (a := 8) (n := 8) (o := 1900 * 4 + 10 + 6 + 6 + 6 + 6 + 6 + 5 + 30) rfl rfl (by decide) rfl rfl (by omega) (by decide), some_bind']
  rw [M_wrong hM, some_bind', M_is hM, some_bind', v_putR d hM (a := 9) (n := 6) (o := 1900 * 4 + 10 + 6 + 6 + 6 + 6 + 6 + 5 + 30 + 8) rfl rfl (by decide) rfl rfl (by omega) (by decide), some_bind']
  rw [if_neg (by decide)]
  rfl
def finput (m : MM) (k : Nat) : MM :=
  let m1 := pts 61 45 RL1 (1900 * k) (mI (mI m 61 (nI (1900 * k))) 62 0)
  let m2 := pt 61 45 (mA m1 39 0 (m1.1 51)) 39 0 1 (1900 * k + 89)
  pts 61 45 RL2 (1900 * k + 90) (mI m2 51 (m2.2.1 39 0))
theorem v_putK (d : Nat) (hM : isMo sh) {k : Nat} (hk : k < 4) : cV (ZZ L xs) (d + 2) mX13_carriesAll [.ref 259, .int (nI k), .int 0] (HP sh (pM x m)) = some (HP sh (pM x (finput m k))) := by
  refine cV_of ?_
  show RS (ZZ L xs) (d + 2) mX13_carriesAll 0 [some (.ref 259), some (.int (nI k)), some (.int 0)] [] _ = _
  rw [bX13_carriesAll_0, nI_1900m, Mw_imageAt hM, some_bind', if_pos (by decide), Mw_goesBack hM, some_bind']
  rw [M_scalar hM, some_bind', M_is hM, some_bind', v_putR d hM (a := 0) (n := 10) (o := 1900 * k) rfl rfl (by decide) rfl rfl (by omega) (by decide), some_bind']
  rw [M_at hM, some_bind', M_is hM, some_bind', v_putR d hM (a := 1) (n := 6) (o := 1900 * k + 10) rfl rfl (by decide) rfl rfl (by omega) (by decide), some_bind']
  rw [M_kind hM, some_bind', M_is hM, some_bind', v_putR d hM (a := 2) (n := 6) (o := 1900 * k + 10 + 6) rfl rfl (by decide) rfl rfl (by omega) (by decide), some_bind']
  rw [M_asks hM, some_bind', M_is hM, some_bind', v_putR d hM (a := 3) (n := 6) (o := 1900 * k + 10 + 6 + 6) rfl rfl (by decide) rfl rfl (by omega) (by decide), some_bind']
  rw [M_askedAll hM, some_bind', M_is hM, some_bind', v_putR d hM (a := 4) (n := 6) (o := 1900 * k + 10 + 6 + 6 + 6) rfl rfl (by decide) rfl rfl (by omega) (by decide), some_bind']
  rw [M_chains hM, some_bind', M_is hM, some_bind', v_putR d hM (a := 5) (n := 6) (o := 1900 * k + 10 + 6 + 6 + 6 + 6) rfl rfl (by decide) rfl rfl (by omega) (by decide), some_bind']
  rw [M_where hM, some_bind', M_is hM, some_bind', v_putR d hM (a := 6) (n := 5) (o := 1900 * k + 10 + 6 + 6 + 6 + 6 + 6) rfl rfl (by decide) rfl rfl (by omega) (by decide), some_bind']
  rw [M_knows hM, some_bind', M_is hM, some_bind', v_putR d hM (a := 7) (n := 30) (o := 1900 * k + 10 + 6 + 6 + 6 + 6 + 6 + 5) rfl rfl (by decide) rfl rfl (by omega) (by decide), some_bind']
  rw [M_open hM, some_bind', M_is hM, some_bind', v_putR d hM (a := 8) (n := 8) (o := 1900 * k + 10 + 6 + 6 + 6 + 6 + 6 + 5 + 30) rfl rfl (by decide) rfl rfl (by omega) (by decide), some_bind']
  rw [M_wrong hM, some_bind', M_is hM, some_bind', v_putR d hM (a := 9) (n := 6) (o := 1900 * k + 10 + 6 + 6 + 6 + 6 + 6 + 5 + 30 + 8) rfl rfl (by decide) rfl rfl (by omega) (by decide), some_bind']
  rw [if_pos (fun z => by
    have : nI k = nI 4 := z
    rw [nI_eq (by omega) (by omega)] at this
    omega), M_pastOf hM, some_bind', M_pastMany hM, some_bind', wI_l0, Mu_pastOf hM (by omega), some_bind']
  rw [M_pastOf hM, some_bind', M_is hM, some_bind', v_putR d hM (a := 39) (n := 1) (o := 1900 * k + 10 + 6 + 6 + 6 + 6 + 6 + 5 + 30 + 8 + 6) rfl rfl (by decide) rfl rfl (by omega) (by decide), some_bind', M_pastOf hM, some_bind', eI_l0, Me_pastOf hM (by omega), some_bind', Mw_pastMany hM, some_bind']
  rw [M_from hM, some_bind', M_is hM, some_bind', v_putR d hM (a := 10) (n := 5) (o := 1900 * k + 10 + 6 + 6 + 6 + 6 + 6 + 5 + 30 + 8 + 6 + 1) rfl rfl (by decide) rfl rfl (by omega) (by decide), some_bind']
  rw [M_to hM, some_bind', M_is hM, some_bind', v_putR d hM (a := 11) (n := 5) (o := 1900 * k + 10 + 6 + 6 + 6 + 6 + 6 + 5 + 30 + 8 + 6 + 1 + 5) rfl rfl (by decide) rfl rfl (by omega) (by decide), some_bind']
  rw [M_every hM, some_bind', M_is hM, some_bind', v_putR d hM (a := 12) (n := 5) (o := 1900 * k + 10 + 6 + 6 + 6 + 6 + 6 + 5 + 30 + 8 + 6 + 1 + 5 + 5) rfl rfl (by decide) rfl rfl (by omega) (by decide), some_bind']
  rw [M_noteHour hM, some_bind', M_is hM, some_bind', v_putR d hM (a := 13) (n := 10) (o := 1900 * k + 10 + 6 + 6 + 6 + 6 + 6 + 5 + 30 + 8 + 6 + 1 + 5 + 5 + 5) rfl rfl (by decide) rfl rfl (by omega) (by decide), some_bind']
  rw [M_noteWho hM, some_bind', M_is hM, some_bind', v_putR d hM (a := 14) (n := 10) (o := 1900 * k + 10 + 6 + 6 + 6 + 6 + 6 + 5 + 30 + 8 + 6 + 1 + 5 + 5 + 5 + 10) rfl rfl (by decide) rfl rfl (by omega) (by decide), some_bind']
  rw [M_noteWhom hM, some_bind', M_is hM, some_bind', v_putR d hM (a := 15) (n := 10) (o := 1900 * k + 10 + 6 + 6 + 6 + 6 + 6 + 5 + 30 + 8 + 6 + 1 + 5 + 5 + 5 + 10 + 10) rfl rfl (by decide) rfl rfl (by omega) (by decide), some_bind']
  rw [M_toldAt hM, some_bind', M_is hM, some_bind', v_putR d hM (a := 16) (n := 6) (o := 1900 * k + 10 + 6 + 6 + 6 + 6 + 6 + 5 + 30 + 8 + 6 + 1 + 5 + 5 + 5 + 10 + 10 + 10) rfl rfl (by decide) rfl rfl (by omega) (by decide), some_bind']
  rw [M_toldKind hM, some_bind', M_is hM, some_bind', v_putR d hM (a := 17) (n := 6) (o := 1900 * k + 10 + 6 + 6 + 6 + 6 + 6 + 5 + 30 + 8 + 6 + 1 + 5 + 5 + 5 + 10 + 10 + 10 + 6) rfl rfl (by decide) rfl rfl (by omega) (by decide), some_bind']
  rw [M_toldStreets hM, some_bind', M_is hM, some_bind', v_putR d hM (a := 18) (n := 8) (o := 1900 * k + 10 + 6 + 6 + 6 + 6 + 6 + 5 + 30 + 8 + 6 + 1 + 5 + 5 + 5 + 10 + 10 + 10 + 6 + 6) rfl rfl (by decide) rfl rfl (by omega) (by decide), some_bind']
  rw [M_past hM, some_bind', M_is hM, some_bind', v_putR d hM (a := 38) (n := 1520) (o := 1900 * k + 10 + 6 + 6 + 6 + 6 + 6 + 5 + 30 + 8 + 6 + 1 + 5 + 5 + 5 + 10 + 10 + 10 + 6 + 6 + 8) rfl rfl (by decide) rfl rfl (by omega) (by decide), some_bind']
  rfl
theorem v_mvput (d : Nat) (hM : isMo sh) {k : Nat} (hk : k < 20) : cV (ZZ L xs) (d + 3) mX13_movesAll [.ref 259, .int (nI k), .int 0] (HP sh (pM x m)) = some (HP sh (pM x (pts 52 38 RL3 (76 * k) (mI (mI m 52 (nI (76 * k))) 53 0)))) := by
  refine cV_of ?_
  have step : ∀ (i : Nat) (m : MM) (u1 u2 : Option Value), i < 3 → m.1 53 = 0 → m.1 52 = nI (76 * k) → RS (ZZ L xs) (d + 3) mX13_movesAll 15 [some (.ref 259), u1, u2, some (.int (nI (4 + i)))] [] (HP sh (pM x (pt 52 38 m 0 4 i (76 * k)))) = RS (ZZ L xs) (d + 3) mX13_movesAll 15 [some (.ref 259), none, none, some (.int (nI (4 + (i + 1))))] [] (HP sh (pM x (pt 52 38 m 0 4 (i + 1) (76 * k)))) := by
      intro i m u1 u2 hi e2' e1'
      have e1 : (pt 52 38 m 0 4 i (76 * k)).1 52 = nI (76 * k + i) := pt_c
      have e2 : (pt 52 38 m 0 4 i (76 * k)).1 53 = 0 := e2'
      have e3 : (pt 52 38 m 0 4 i (76 * k)).2.1 0 (4 + i) = m.2.1 0 (4 + i) := rfl
      have e6 : (pt 52 38 m 0 4 (i + 1) (76 * k)).2.1 0 (4 + i) = m.2.1 0 (4 + i) := rfl
      rw [bX13_movesAll_15, if_neg (show ¬ (7 : Int32) ≤ nI (4 + i) from nI_ge (b := 7) (by omega) (by decide)), M_scalar hM, some_bind', some_bind', Me_scalar hM (by omega), some_bind', e3, M_is hM, some_bind', i_mvP (d + 1) hM e2 e1 (by omega), some_bind', pt_1]
      show (wI (HP sh (pM x (pt 52 38 m 0 4 (i + 1) (76 * k)))) (.ref 260) (nI (4 + i)) (m.2.1 0 (4 + i))).bind _ = _
      rw [Mu_scalar hM (by omega), some_bind', ← e6, mA_self, nI_1]
      rfl

  show RS (ZZ L xs) (d + 3) mX13_movesAll 0 [some (.ref 259), some (.int (nI k)), some (.int 0), none] [] _ = _
  rw [bX13_movesAll_0, nI_76m, Mw_pastAt hM, some_bind', if_pos (by decide), Mw_takesBack hM, some_bind']
  have s0 := step 0 (mI (mI m 52 (nI (76 * k))) 53 0) (some (.int (nI k))) (some (.int 0)) (by decide) rfl rfl
  have s1 := step 1 (mI (mI m 52 (nI (76 * k))) 53 0) none none (by decide) rfl rfl
  have s2 := step 2 (mI (mI m 52 (nI (76 * k))) 53 0) none none (by decide) rfl rfl
  rw [pt_0 rfl] at s0
  refine Eq.trans s0 (Eq.trans s1 (Eq.trans s2 ?_))
  rw [bX13_movesAll_15, if_pos (by decide)]
  rw [M_at hM, some_bind', M_is hM, some_bind', v_mvRP d hM (a := 1) (n := 6) (o := 76 * k + 3) rfl rfl (by decide) rfl rfl (by omega) (by decide), some_bind']
  rw [M_kind hM, some_bind', M_is hM, some_bind', v_mvRP d hM (a := 2) (n := 6) (o := 76 * k + 3 + 6) rfl rfl (by decide) rfl rfl (by omega) (by decide), some_bind']
  rw [M_asks hM, some_bind', M_is hM, some_bind', v_mvRP d hM (a := 3) (n := 6) (o := 76 * k + 3 + 6 + 6) rfl rfl (by decide) rfl rfl (by omega) (by decide), some_bind']
  rw [M_askedAll hM, some_bind', M_is hM, some_bind', v_mvRP d hM (a := 4) (n := 6) (o := 76 * k + 3 + 6 + 6 + 6) rfl rfl (by decide) rfl rfl (by omega) (by decide), some_bind']
  rw [M_chains hM, some_bind', M_is hM, some_bind', v_mvRP d hM (a := 5) (n := 6) (o := 76 * k + 3 + 6 + 6 + 6 + 6) rfl rfl (by decide) rfl rfl (by omega) (by decide), some_bind']
  rw [M_where hM, some_bind', M_is hM, some_bind', v_mvRP d hM (a := 6) (n := 5) (o := 76 * k + 3 + 6 + 6 + 6 + 6 + 6) rfl rfl (by decide) rfl rfl (by omega) (by decide), some_bind']
  rw [M_knows hM, some_bind', M_is hM, some_bind', v_mvRP d hM (a := 7) (n := 30) (o := 76 * k + 3 + 6 + 6 + 6 + 6 + 6 + 5) rfl rfl (by decide) rfl rfl (by omega) (by decide), some_bind']
  rw [M_open hM, some_bind', M_is hM, some_bind', v_mvRP d hM (a := 8) (n := 8) (o := 76 * k + 3 + 6 + 6 + 6 + 6 + 6 + 5 + 30) rfl rfl (by decide) rfl rfl (by omega) (by decide), some_bind']
  rfl
theorem v_get4 (d : Nat) (hM : isMo sh) : cV (ZZ L xs) (d + 2) mX13_carriesAll [.ref 259, .int 4, .int 1] (HP sh (pM x m)) = some (HP sh (pM x (gts 61 45 RL1 7600 (mI (mI m 61 (nI 7600)) 62 1)))) := by
  refine cV_of ?_
  show RS (ZZ L xs) (d + 2) mX13_carriesAll 0 [some (.ref 259), some (.int (nI 4)), some (.int 1)] [] _ = _
  rw [bX13_carriesAll_0, nI_1900m, Mw_imageAt hM, some_bind', if_pos (by decide), Mw_goesBack hM, some_bind']
  rw [M_scalar hM, some_bind', M_is hM, some_bind', v_getR d hM (a := 0) (n := 10) (o := 1900 * 4) rfl rfl (by decide) rfl rfl (by omega) (by decide), some_bind']
  rw [M_at hM, some_bind', M_is hM, some_bind', v_getR d hM (a := 1) (n := 6) (o := 1900 * 4 + 10) rfl rfl (by decide) rfl rfl (by omega) (by decide), some_bind']
  rw [M_kind hM, some_bind', M_is hM, some_bind', v_getR d hM (a := 2) (n := 6) (o := 1900 * 4 + 10 + 6) rfl rfl (by decide) rfl rfl (by omega) (by decide), some_bind']
  rw [M_asks hM, some_bind', M_is hM, some_bind', v_getR d hM (a := 3) (n := 6) (o := 1900 * 4 + 10 + 6 + 6) rfl rfl (by decide) rfl rfl (by omega) (by decide), some_bind']
  rw [M_askedAll hM, some_bind', M_is hM, some_bind', v_getR d hM (a := 4) (n := 6) (o := 1900 * 4 + 10 + 6 + 6 + 6) rfl rfl (by decide) rfl rfl (by omega) (by decide), some_bind']
  rw [M_chains hM, some_bind', M_is hM, some_bind', v_getR d hM (a := 5) (n := 6) (o := 1900 * 4 + 10 + 6 + 6 + 6 + 6) rfl rfl (by decide) rfl rfl (by omega) (by decide), some_bind']
  rw [M_where hM, some_bind', M_is hM, some_bind', v_getR d hM (a := 6) (n := 5) (o := 1900 * 4 + 10 + 6 + 6 + 6 + 6 + 6) rfl rfl (by decide) rfl rfl (by omega) (by decide), some_bind']
  rw [M_knows hM, some_bind', M_is hM, some_bind', v_getR d hM (a := 7) (n := 30) (o := 1900 * 4 + 10 + 6 + 6 + 6 + 6 + 6 + 5) rfl rfl (by decide) rfl rfl (by omega) (by decide), some_bind']
  rw [M_open hM, some_bind', M_is hM, some_bind', v_getR d hM (a := 8) (n := 8) (o := 1900 * 4 + 10 + 6 + 6 + 6 + 6 + 6 + 5 + 30) rfl rfl (by decide) rfl rfl (by omega) (by decide), some_bind']
  rw [M_wrong hM, some_bind', M_is hM, some_bind', v_getR d hM (a := 9) (n := 6) (o := 1900 * 4 + 10 + 6 + 6 + 6 + 6 + 6 + 5 + 30 + 8) rfl rfl (by decide) rfl rfl (by omega) (by decide), some_bind']
  rw [if_neg (by decide)]
  rfl
def finget (m : MM) (k : Nat) : MM :=
  let m1 := gts 61 45 RL1 (1900 * k) (mI (mI m 61 (nI (1900 * k))) 62 1)
  let m2 := gt 61 45 (mA m1 39 0 (m1.1 51)) 39 0 1 (1900 * k + 89)
  gts 61 45 RL2 (1900 * k + 90) (mI m2 51 (m2.2.1 39 0))
theorem v_getK (d : Nat) (hM : isMo sh) {k : Nat} (hk : k < 4) : cV (ZZ L xs) (d + 2) mX13_carriesAll [.ref 259, .int (nI k), .int 1] (HP sh (pM x m)) = some (HP sh (pM x (finget m k))) := by
  refine cV_of ?_
  show RS (ZZ L xs) (d + 2) mX13_carriesAll 0 [some (.ref 259), some (.int (nI k)), some (.int 1)] [] _ = _
  rw [bX13_carriesAll_0, nI_1900m, Mw_imageAt hM, some_bind', if_pos (by decide), Mw_goesBack hM, some_bind']
  rw [M_scalar hM, some_bind', M_is hM, some_bind', v_getR d hM (a := 0) (n := 10) (o := 1900 * k) rfl rfl (by decide) rfl rfl (by omega) (by decide), some_bind']
  rw [M_at hM, some_bind', M_is hM, some_bind', v_getR d hM (a := 1) (n := 6) (o := 1900 * k + 10) rfl rfl (by decide) rfl rfl (by omega) (by decide), some_bind']
  rw [M_kind hM, some_bind', M_is hM, some_bind', v_getR d hM (a := 2) (n := 6) (o := 1900 * k + 10 + 6) rfl rfl (by decide) rfl rfl (by omega) (by decide), some_bind']
  rw [M_asks hM, some_bind', M_is hM, some_bind', v_getR d hM (a := 3) (n := 6) (o := 1900 * k + 10 + 6 + 6) rfl rfl (by decide) rfl rfl (by omega) (by decide), some_bind']
  rw [M_askedAll hM, some_bind', M_is hM, some_bind', v_getR d hM (a := 4) (n := 6) (o := 1900 * k + 10 + 6 + 6 + 6) rfl rfl (by decide) rfl rfl (by omega) (by decide), some_bind']
  rw [M_chains hM, some_bind', M_is hM, some_bind', v_getR d hM (a := 5) (n := 6) (o := 1900 * k + 10 + 6 + 6 + 6 + 6) rfl rfl (by decide) rfl rfl (by omega) (by decide), some_bind']
  rw [M_where hM, some_bind', M_is hM, some_bind', v_getR d hM (a := 6) (n := 5) (o := 1900 * k + 10 + 6 + 6 + 6 + 6 + 6) rfl rfl (by decide) rfl rfl (by omega) (by decide), some_bind']
  rw [M_knows hM, some_bind', M_is hM, some_bind', v_getR d hM (a := 7) (n := 30) (o := 1900 * k + 10 + 6 + 6 + 6 + 6 + 6 + 5) rfl rfl (by decide) rfl rfl (by omega) (by decide), some_bind']
  rw [M_open hM, some_bind', M_is hM, some_bind', v_getR d hM (a := 8) (n := 8) (o := 1900 * k + 10 + 6 + 6 + 6 + 6 + 6 + 5 + 30) rfl rfl (by decide) rfl rfl (by omega) (by decide), some_bind']
  rw [M_wrong hM, some_bind', M_is hM, some_bind', v_getR d hM (a := 9) (n := 6) (o := 1900 * k + 10 + 6 + 6 + 6 + 6 + 6 + 5 + 30 + 8) rfl rfl (by decide) rfl rfl (by omega) (by decide), some_bind']
  rw [if_pos (fun z => by
    have : nI k = nI 4 := z
    rw [nI_eq (by omega) (by omega)] at this
    omega), M_pastOf hM, some_bind', M_pastMany hM, some_bind', wI_l0, Mu_pastOf hM (by omega), some_bind']
  rw [M_pastOf hM, some_bind', M_is hM, some_bind', v_getR d hM (a := 39) (n := 1) (o := 1900 * k + 10 + 6 + 6 + 6 + 6 + 6 + 5 + 30 + 8 + 6) rfl rfl (by decide) rfl rfl (by omega) (by decide), some_bind', M_pastOf hM, some_bind', eI_l0, Me_pastOf hM (by omega), some_bind', Mw_pastMany hM, some_bind']
  rw [M_from hM, some_bind', M_is hM, some_bind', v_getR d hM (a := 10) (n := 5) (o := 1900 * k + 10 + 6 + 6 + 6 + 6 + 6 + 5 + 30 + 8 + 6 + 1) rfl rfl (by decide) rfl rfl (by omega) (by decide), some_bind']
  rw [M_to hM, some_bind', M_is hM, some_bind', v_getR d hM (a := 11) (n := 5) (o := 1900 * k + 10 + 6 + 6 + 6 + 6 + 6 + 5 + 30 + 8 + 6 + 1 + 5) rfl rfl (by decide) rfl rfl (by omega) (by decide), some_bind']
  rw [M_every hM, some_bind', M_is hM, some_bind', v_getR d hM (a := 12) (n := 5) (o := 1900 * k + 10 + 6 + 6 + 6 + 6 + 6 + 5 + 30 + 8 + 6 + 1 + 5 + 5) rfl rfl (by decide) rfl rfl (by omega) (by decide), some_bind']
  rw [M_noteHour hM, some_bind', M_is hM, some_bind', v_getR d hM (a := 13) (n := 10) (o := 1900 * k + 10 + 6 + 6 + 6 + 6 + 6 + 5 + 30 + 8 + 6 + 1 + 5 + 5 + 5) rfl rfl (by decide) rfl rfl (by omega) (by decide), some_bind']
  rw [M_noteWho hM, some_bind', M_is hM, some_bind', v_getR d hM (a := 14) (n := 10) (o := 1900 * k + 10 + 6 + 6 + 6 + 6 + 6 + 5 + 30 + 8 + 6 + 1 + 5 + 5 + 5 + 10) rfl rfl (by decide) rfl rfl (by omega) (by decide), some_bind']
  rw [M_noteWhom hM, some_bind', M_is hM, some_bind', v_getR d hM (a := 15) (n := 10) (o := 1900 * k + 10 + 6 + 6 + 6 + 6 + 6 + 5 + 30 + 8 + 6 + 1 + 5 + 5 + 5 + 10 + 10) rfl rfl (by decide) rfl rfl (by omega) (by decide), some_bind']
  rw [M_toldAt hM, some_bind', M_is hM, some_bind', v_getR d hM (a := 16) (n := 6) (o := 1900 * k + 10 + 6 + 6 + 6 + 6 + 6 + 5 + 30 + 8 + 6 + 1 + 5 + 5 + 5 + 10 + 10 + 10) rfl rfl (by decide) rfl rfl (by omega) (by decide), some_bind']
  rw [M_toldKind hM, some_bind', M_is hM, some_bind', v_getR d hM (a := 17) (n := 6) (o := 1900 * k + 10 + 6 + 6 + 6 + 6 + 6 + 5 + 30 + 8 + 6 + 1 + 5 + 5 + 5 + 10 + 10 + 10 + 6) rfl rfl (by decide) rfl rfl (by omega) (by decide), some_bind']
  rw [M_toldStreets hM, some_bind', M_is hM, some_bind', v_getR d hM (a := 18) (n := 8) (o := 1900 * k + 10 + 6 + 6 + 6 + 6 + 6 + 5 + 30 + 8 + 6 + 1 + 5 + 5 + 5 + 10 + 10 + 10 + 6 + 6) rfl rfl (by decide) rfl rfl (by omega) (by decide), some_bind']
  rw [M_past hM, some_bind', M_is hM, some_bind', v_getR d hM (a := 38) (n := 1520) (o := 1900 * k + 10 + 6 + 6 + 6 + 6 + 6 + 5 + 30 + 8 + 6 + 1 + 5 + 5 + 5 + 10 + 10 + 10 + 6 + 6 + 8) rfl rfl (by decide) rfl rfl (by omega) (by decide), some_bind']
  rfl
theorem v_mvget (d : Nat) (hM : isMo sh) {k : Nat} (hk : k < 20) : cV (ZZ L xs) (d + 3) mX13_movesAll [.ref 259, .int (nI k), .int 1] (HP sh (pM x m)) = some (HP sh (pM x (gts 52 38 RL3 (76 * k) (mI (mI m 52 (nI (76 * k))) 53 1)))) := by
  refine cV_of ?_
  have step : ∀ (i : Nat) (m : MM) (u1 u2 : Option Value), i < 3 → m.1 53 = 1 → m.1 52 = nI (76 * k) → RS (ZZ L xs) (d + 3) mX13_movesAll 15 [some (.ref 259), u1, u2, some (.int (nI (4 + i)))] [] (HP sh (pM x (gt 52 38 m 0 4 i (76 * k)))) = RS (ZZ L xs) (d + 3) mX13_movesAll 15 [some (.ref 259), none, none, some (.int (nI (4 + (i + 1))))] [] (HP sh (pM x (gt 52 38 m 0 4 (i + 1) (76 * k)))) := by
      intro i m u1 u2 hi e2' e1'
      have e1 : (gt 52 38 m 0 4 i (76 * k)).1 52 = nI (76 * k + i) := gt_c
      have e2 : (gt 52 38 m 0 4 i (76 * k)).1 53 = 1 := e2'
      have e3 : (gt 52 38 m 0 4 i (76 * k)).2.1 38 (76 * k + i) = m.2.1 38 (76 * k + i) := rfl
      have e6 : mA (mI (gt 52 38 m 0 4 i (76 * k)) 52 (nI (76 * k + i + 1))) 0 (4 + i) (m.2.1 38 (76 * k + i)) = mI (mA (gt 52 38 m 0 4 i (76 * k)) 0 (4 + i) (m.2.1 38 (76 * k + i))) 52 (nI (76 * k + i + 1)) := rfl
      rw [bX13_movesAll_15, if_neg (show ¬ (7 : Int32) ≤ nI (4 + i) from nI_ge (b := 7) (by omega) (by decide)), M_scalar hM, some_bind', some_bind', Me_scalar hM (by omega), some_bind', M_is hM, some_bind', i_mvG (d + 1) hM e2 e1 (by omega), some_bind']
      show (wI (HP sh (pM x (mI (gt 52 38 m 0 4 i (76 * k)) 52 (nI (76 * k + i + 1))))) (.ref 260) (nI (4 + i)) ((gt 52 38 m 0 4 i (76 * k)).2.1 38 (76 * k + i))).bind _ = _
      rw [e3, Mu_scalar hM (by omega), some_bind', e6, gt_1, nI_1]
      rfl

  show RS (ZZ L xs) (d + 3) mX13_movesAll 0 [some (.ref 259), some (.int (nI k)), some (.int 1), none] [] _ = _
  rw [bX13_movesAll_0, nI_76m, Mw_pastAt hM, some_bind', if_pos (by decide), Mw_takesBack hM, some_bind']
  have s0 := step 0 (mI (mI m 52 (nI (76 * k))) 53 1) (some (.int (nI k))) (some (.int 1)) (by decide) rfl rfl
  have s1 := step 1 (mI (mI m 52 (nI (76 * k))) 53 1) none none (by decide) rfl rfl
  have s2 := step 2 (mI (mI m 52 (nI (76 * k))) 53 1) none none (by decide) rfl rfl
  rw [gt_0 rfl] at s0
  refine Eq.trans s0 (Eq.trans s1 (Eq.trans s2 ?_))
  rw [bX13_movesAll_15, if_pos (by decide)]
  rw [M_at hM, some_bind', M_is hM, some_bind', v_mvRG d hM (a := 1) (n := 6) (o := 76 * k + 3) rfl rfl (by decide) rfl rfl (by omega) (by decide), some_bind']
  rw [M_kind hM, some_bind', M_is hM, some_bind', v_mvRG d hM (a := 2) (n := 6) (o := 76 * k + 3 + 6) rfl rfl (by decide) rfl rfl (by omega) (by decide), some_bind']
  rw [M_asks hM, some_bind', M_is hM, some_bind', v_mvRG d hM (a := 3) (n := 6) (o := 76 * k + 3 + 6 + 6) rfl rfl (by decide) rfl rfl (by omega) (by decide), some_bind']
  rw [M_askedAll hM, some_bind', M_is hM, some_bind', v_mvRG d hM (a := 4) (n := 6) (o := 76 * k + 3 + 6 + 6 + 6) rfl rfl (by decide) rfl rfl (by omega) (by decide), some_bind']
  rw [M_chains hM, some_bind', M_is hM, some_bind', v_mvRG d hM (a := 5) (n := 6) (o := 76 * k + 3 + 6 + 6 + 6 + 6) rfl rfl (by decide) rfl rfl (by omega) (by decide), some_bind']
  rw [M_where hM, some_bind', M_is hM, some_bind', v_mvRG d hM (a := 6) (n := 5) (o := 76 * k + 3 + 6 + 6 + 6 + 6 + 6) rfl rfl (by decide) rfl rfl (by omega) (by decide), some_bind']
  rw [M_knows hM, some_bind', M_is hM, some_bind', v_mvRG d hM (a := 7) (n := 30) (o := 76 * k + 3 + 6 + 6 + 6 + 6 + 6 + 5) rfl rfl (by decide) rfl rfl (by omega) (by decide), some_bind']
  rw [M_open hM, some_bind', M_is hM, some_bind', v_mvRG d hM (a := 8) (n := 8) (o := 76 * k + 3 + 6 + 6 + 6 + 6 + 6 + 5 + 30) rfl rfl (by decide) rfl rfl (by omega) (by decide), some_bind']
  rfl
end CARRY
