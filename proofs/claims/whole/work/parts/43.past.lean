/-! helpers; who owns a cell; the past of the class -/
theorem cV_of {Z : PT} {d : Nat} {M : MD} {as : List Value} {ph p : PH} (h : CL Z d M as ph = some (p, none)) : cV Z d M as ph = some p := by
  unfold cV
  rw [h]
  rfl
theorem cI_of {Z : PT} {d : Nat} {M : MD} {as : List Value} {ph p : PH} {v : Int32} (h : CL Z d M as ph = some (p, some (.int v))) : cI Z d M as ph = some (p, v) := by
  unfold cI
  rw [h]
  rfl
theorem cJ_of {Z : PT} {d : Nat} {M : MD} {as : List Value} {ph p : PH} {v : Int64} (h : CL Z d M as ph = some (p, some (.long v))) : cJ Z d M as ph = some (p, v) := by
  unfold cJ
  rw [h]
  rfl
theorem cR_of {Z : PT} {d : Nat} {M : MD} {as : List Value} {ph p : PH} {v : Value} (hv : isA v = true) (h : CL Z d M as ph = some (p, some v)) : cR Z d M as ph = some (p, v) := by
  unfold cR
  rw [h]
  show (if isA v = true then some (p, v) else none) = _
  rw [if_pos hv]
theorem rem_nI {a b : Nat} (ha : a < 2 ^ 31) (h0 : 0 < b) (hb : b < 2 ^ 31) : iRem (nI a) (nI b) = nI (a % b) := pk_rem ha h0 hb
theorem rem_20 {a : Nat} (ha : a < 2 ^ 31) : iRem (nI a) 20 = nI (a % 20) := rem_nI (b := 20) ha (by decide) (by decide)
theorem SQ_pSt (x : ST) (b : Nat) (s : SV) : SQ (gSt (pSt x b s) b) s := by
  refine ⟨?_, pSt_o x b s, fun j hj k _ => ?_⟩
  · show ((pSt x b s).1 b 0, (pSt x b s).1 b 1, (pSt x b s).1 b 2) = _
    rw [pSt_h, pSt_c, pSt_m]
  · show (pSt x b s).2.2.2.1 (b + 1 + j) k = _
    rw [pSt_A _ _ _ _ hj]
/-- the cell o belongs to the object c, of class k -/
def Own (sh : List Sh) (o c k : Nat) : Prop := c ≤ o ∧ (∃ q, sh[c]? = some (.inr (k, q))) ∧ ∀ i, c < i → i ≤ o → ∃ q, sh[i]? = some (.inl q)
theorem Own_uni {sh : List Sh} {o c k c' k' : Nat} (h : Own sh o c k) (g : Own sh o c' k') : c = c' ∧ k = k' := by
  obtain ⟨h1, ⟨q, h2⟩, h3⟩ := h
  obtain ⟨g1, ⟨r, g2⟩, g3⟩ := g
  rcases Nat.lt_trichotomy c c' with hl | hl | hl
  · obtain ⟨z, hz⟩ := h3 c' hl g1
    rw [g2] at hz
    cases hz
  · subst hl
    rw [h2] at g2
    cases g2
    exact ⟨rfl, rfl⟩
  · obtain ⟨z, hz⟩ := g3 c hl h1
    rw [h2] at hz
    cases hz
theorem Own_St {sh : List Sh} {b : Nat} (h : isSt sh b) {o : Nat} (h1 : b ≤ o) (h2 : o < b + 8) : Own sh o b 7 := by
  refine ⟨h1, ⟨_, h.1⟩, fun i hi hj => ?_⟩
  have := St_len h (i - (b + 1)) (by omega)
  rw [show b + 1 + (i - (b + 1)) = i by omega] at this
  exact ⟨_, this⟩
theorem To_len {sh : List Sh} {b : Nat} (h : isTo sh b) (j : Nat) (hj : j < 5) : ∃ q, sh[b + 1 + j]? = some (.inl q) := by
  match j, hj with
  | 0, _ => exact ⟨_, h.2.1⟩
  | 1, _ => exact ⟨_, h.2.2.1⟩
  | 2, _ => exact ⟨_, h.2.2.2.1⟩
  | 3, _ => exact ⟨_, h.2.2.2.2.1⟩
  | 4, _ => exact ⟨_, h.2.2.2.2.2⟩
theorem Ru_len {sh : List Sh} {b : Nat} (h : isRu sh b) (j : Nat) (hj : j < 6) : ∃ q, sh[b + 1 + j]? = some (.inl q) := by
  match j, hj with
  | 0, _ => exact ⟨_, h.2.1⟩
  | 1, _ => exact ⟨_, h.2.2.1⟩
  | 2, _ => exact ⟨_, h.2.2.2.1⟩
  | 3, _ => exact ⟨_, h.2.2.2.2.1⟩
  | 4, _ => exact ⟨_, h.2.2.2.2.2.1⟩
  | 5, _ => exact ⟨_, h.2.2.2.2.2.2⟩
theorem Own_To {sh : List Sh} {b : Nat} (h : isTo sh b) {o : Nat} (h1 : b ≤ o) (h2 : o < b + 6) : Own sh o b 9 := by
  refine ⟨h1, ⟨_, h.1⟩, fun i hi hj => ?_⟩
  have := To_len h (i - (b + 1)) (by omega)
  rw [show b + 1 + (i - (b + 1)) = i by omega] at this
  exact this
theorem Own_Ru {sh : List Sh} {b : Nat} (h : isRu sh b) {o : Nat} (h1 : b ≤ o) (h2 : o < b + 7) : Own sh o b 4 := by
  refine ⟨h1, ⟨_, h.1⟩, fun i hi hj => ?_⟩
  have := Ru_len h (i - (b + 1)) (by omega)
  rw [show b + 1 + (i - (b + 1)) = i by omega] at this
  exact this
/-- the cells of a scene that may be written are its own, its state's, its past's -/
theorem Own_Sc {sh : List Sh} {b : Nat} (h : isSc sh b) {o : Nat} (h1 : o = b ∨ b + 7 ≤ o ∧ o < b + 180) : ∃ c k, Own sh o c k ∧ (k = 6 ∧ c = b ∨ k = 7 ∨ k = 3) ∧ b ≤ c ∧ c < b + 180 := by
  obtain ⟨q1, q2, q3, q4, q5, q6, q7, q8⟩ := h
  rcases h1 with rfl | ⟨h1, h2⟩
  · exact ⟨o, 6, ⟨Nat.le_refl _, ⟨_, q1⟩, fun i hi hj => by omega⟩, Or.inl ⟨rfl, rfl⟩, by omega, by omega⟩
  · rcases Nat.lt_or_ge o (b + 15) with h3 | h3
    · exact ⟨b + 7, 7, Own_St q5 h1 (by omega), Or.inr (Or.inl rfl), by omega, by omega⟩
    · rcases Nat.lt_or_ge o (b + 17) with h4 | h4
      · refine ⟨b + 15, 3, ⟨h3, ⟨_, q6⟩, fun i hi hj => ?_⟩, Or.inr (Or.inr rfl), by omega, by omega⟩
        have : i = b + 15 + 1 := by omega
        subst this
        exact ⟨_, q7⟩
      · rcases Nat.lt_or_ge o (b + 177) with h5 | h5
        · have := Own_St (q8 ((o - (b + 17)) / 8) (by omega)) (o := o) (by omega) (by omega)
          exact ⟨_, 7, this, Or.inr (Or.inl rfl), by omega, by omega⟩
        · refine ⟨b + 169, 7, ⟨by omega, ?_, fun i hi hj => ?_⟩, Or.inr (Or.inl rfl), by omega, by omega⟩
          · have := (q8 19 (by decide)).1
            rw [show b + 15 + 2 + 8 * 19 = b + 169 by omega] at this
            exact ⟨_, this⟩
          · rcases Nat.lt_or_ge i (b + 177) with h6 | h6
            · have := (Own_St (q8 19 (by decide)) (o := i) (by omega) (by omega)).2.2 i (by omega) (Nat.le_refl _)
              exact this
            · have : i = b + 177 ∨ i = b + 178 ∨ i = b + 179 := by omega
              rcases this with rfl | rfl | rfl
              · exact ⟨_, q2⟩
              · exact ⟨_, q3⟩
              · exact ⟨_, q4⟩
def pushP (k : Nat) (P : Nat → SV) (s : SV) : Nat × (Nat → SV) := if k < 20 then (k + 1, fun i => if i = k then s else P i) else (20, fun i => if i = 19 then s else P (i + 1))
theorem Pa_st {sh : List Sh} {b : Nat} (h : isPa sh b) {j : Nat} (hj : j < 20) : isSt sh (b + 2 + 8 * j) := h.2.2 j hj
section PAST
variable {L : Nat} {xs : Nat → Int32} {sh : List Sh} {x : ST} {b k : Nat} {P : Nat → SV}
theorem Pae_kept (h : isPa sh b) (hp : PaOK x b k P) {y : ST} (hy : y.2.2.2.2.2 (b + 1) = x.2.2.2.2.2 (b + 1)) {j : Nat} (hj : j < 20) : eR (HP sh y) (.ref (b + 1)) (nI j) = some (.ref (b + 2 + 8 * j)) := by
  rw [rAR (by omega) h.2.1 hj (by decide), hy, hp.1 j hj]
  rfl
theorem v_clearP (d : Nat) (h : isPa sh b) (x : ST) : cV (ZZ L xs) (d + 1) mX3_clear [.ref b] (HP sh x) = some (HP sh (sI x b 0 0)) := by
  refine cV_of ?_
  show RS (ZZ L xs) (d + 1) mX3_clear 0 [some (.ref b)] [] _ = _
  rw [bX3_clear_0, Paw_size h, some_bind']
theorem v_push (d : Nat) (h : isPa sh b) (hp : PaOK x b k P) {s : Nat} (hs : isSt sh s) (hd : s + 8 ≤ b ∨ b + 162 ≤ s) : ∃ y, cV (ZZ L xs) (d + 2) mX3_push [.ref b, .ref s] (HP sh x) = some (HP sh y) ∧ Off (fun o => b ≤ o ∧ o < b + 162) x y ∧ PaOK y b (pushP k P (gSt x s)).1 (pushP k P (gSt x s)).2 := by
  obtain ⟨h1, h2, h3, nx, h4, h5, h6⟩ := id hp
  have hm : (if (20 : Int32) < nI k + 1 then (20 : Int32) else nI k + 1) = nI (if k < 20 then k + 1 else 20) := by
    rw [nI_1]
    by_cases hk : k < 20
    · have hq : ¬ (20 : Int32) < nI (k + 1) := by
        intro z
        have z : nI 20 < nI (k + 1) := z
        rw [nI_ltI (by omega) (by omega)] at z
        omega
      rw [if_pos hk, if_neg hq]
    · rw [if_neg hk, if_pos (show (20 : Int32) < nI (k + 1) from nI_lt (a := 20) (by omega) (by omega))]
      rfl
  have hst := Pa_st h h4
  refine ⟨sI (sI (pSt x (b + 2 + 8 * nx) (gSt x s)) b 1 (nI ((nx + 1) % 20))) b 0 (nI (if k < 20 then k + 1 else 20)), cV_of ?_, ?_, ?_⟩
  · show RS (ZZ L xs) (d + 2) mX3_push 0 [some (.ref b), some (.ref s)] [] _ = _
    rw [bX3_push_0 (hv1 := rfl), Pa_kept h, some_bind', Pa_next h, some_bind', h5, Pae_kept h hp rfl h4, some_bind', St_is hst, some_bind', v_copyS d hst hs (by omega), some_bind', Pa_next h, some_bind', pSt_In _ _ _ _ _ (by omega), h5, if_neg (by decide), nI_1, rem_20 (by omega), Paw_next h, some_bind', Pa_size h, some_bind']
    have e : (sI (pSt x (b + 2 + 8 * nx) (gSt x s)) b 1 (nI ((nx + 1) % 20))).1 b 0 = nI k := by
      show (if b = b ∧ 0 = 1 then _ else (pSt x (b + 2 + 8 * nx) (gSt x s)).1 b 0) = _
      rw [if_neg (by omega), pSt_In _ _ _ _ _ (by omega), h3]
    rw [e, hm, Paw_size h, some_bind']
  · exact Off_sI (Off_sI (Off_pSt (Off_refl _ _) (fun o q1 q2 => by omega) _) (by omega) _ _) (by omega) _ _
  · have hoff : Off (fun o => o = b) (pSt x (b + 2 + 8 * nx) (gSt x s)) (sI (sI (pSt x (b + 2 + 8 * nx) (gSt x s)) b 1 (nI ((nx + 1) % 20))) b 0 (nI (if k < 20 then k + 1 else 20))) := Off_sI (D := fun o => o = b) (Off_sI (D := fun o => o = b) (Off_refl _ _) rfl _ _) rfl _ _
    have hoff2 : Off (fun o => o = b ∨ b + 2 + 8 * nx ≤ o ∧ o < b + 2 + 8 * nx + 8) x (sI (sI (pSt x (b + 2 + 8 * nx) (gSt x s)) b 1 (nI ((nx + 1) % 20))) b 0 (nI (if k < 20 then k + 1 else 20))) := Off_sI (Off_sI (Off_pSt (Off_refl _ _) (by intro o q1 q2; omega) _) (by omega) _ _) (by omega) _ _
    have new : SQ (gSt (sI (sI (pSt x (b + 2 + 8 * nx) (gSt x s)) b 1 (nI ((nx + 1) % 20))) b 0 (nI (if k < 20 then k + 1 else 20))) (b + 2 + 8 * nx)) (gSt x s) := SQ_trans (gSt_off hoff (fun o q1 q2 => by omega)) (SQ_pSt _ _ _)
    have old : ∀ j, j < 20 → j ≠ nx → SQ (gSt (sI (sI (pSt x (b + 2 + 8 * nx) (gSt x s)) b 1 (nI ((nx + 1) % 20))) b 0 (nI (if k < 20 then k + 1 else 20))) (b + 2 + 8 * j)) (gSt x (b + 2 + 8 * j)) := fun j _ hj => gSt_off hoff2 (fun o q1 q2 => by omega)
    refine ⟨fun i hi => ?_, ?_, ?_, (nx + 1) % 20, by omega, ?_, fun i hi => ?_⟩
    · exact h1 i hi
    · unfold pushP
      split
      · show k + 1 ≤ 20
        omega
      · exact Nat.le_refl _
    · show (if b = b ∧ 0 = 0 then nI (if k < 20 then k + 1 else 20) else _) = _
      rw [if_pos ⟨rfl, rfl⟩]
      unfold pushP
      split <;> rfl
    · show (if b = b ∧ 1 = 0 then _ else (if b = b ∧ 1 = 1 then nI ((nx + 1) % 20) else _)) = _
      rw [if_neg (by omega), if_pos ⟨rfl, rfl⟩]
    · by_cases hk : k < 20
      · have ep : pushP k P (gSt x s) = (k + 1, fun i => if i = k then gSt x s else P i) := if_pos hk
        rw [ep] at hi ⊢
        have hi : i < k + 1 := hi
        show SQ (gSt _ (b + 2 + 8 * (((nx + 1) % 20 + 20 - (k + 1 - i)) % 20))) (if i = k then gSt x s else P i)
        by_cases hik : i = k
        · rw [if_pos hik, show ((nx + 1) % 20 + 20 - (k + 1 - i)) % 20 = nx by omega]
          exact new
        · rw [if_neg hik, show ((nx + 1) % 20 + 20 - (k + 1 - i)) % 20 = (nx + 20 - (k - i)) % 20 by omega]
          exact SQ_trans (old _ (by omega) (by omega)) (h6 i (by omega))
      · have ep : pushP k P (gSt x s) = (20, fun i => if i = 19 then gSt x s else P (i + 1)) := if_neg hk
        rw [ep] at hi ⊢
        have hi : i < 20 := hi
        show SQ (gSt _ (b + 2 + 8 * (((nx + 1) % 20 + 20 - (20 - i)) % 20))) (if i = 19 then gSt x s else P (i + 1))
        by_cases hik : i = 19
        · rw [if_pos hik, show ((nx + 1) % 20 + 20 - (20 - i)) % 20 = nx by omega]
          exact new
        · rw [if_neg hik, show ((nx + 1) % 20 + 20 - (20 - i)) % 20 = (nx + 20 - (k - (i + 1))) % 20 by omega]
          exact SQ_trans (old _ (by omega) (by omega)) (h6 (i + 1) (by omega))
theorem v_pop (d : Nat) (h : isPa sh b) (hp : PaOK x b (k + 1) P) {s : Nat} (hs : isSt sh s) (hd : s + 8 ≤ b ∨ b + 162 ≤ s) : ∃ y, cV (ZZ L xs) (d + 2) mX3_pop [.ref b, .ref s] (HP sh x) = some (HP sh y) ∧ Off (fun o => o = b ∨ s ≤ o ∧ o < s + 8) x y ∧ PaOK y b k P ∧ SQ (gSt y s) (P k) := by
  obtain ⟨h1, h2, h3, nx, h4, h5, h6⟩ := id hp
  have hne : ¬ nI (k + 1) = 0 := nI_ne0 (by omega) (by omega)
  have hrem : iRem (nI nx + 20 - 1) 20 = nI ((nx + 19) % 20) := by
    rw [show nI nx + 20 = nI (nx + 20) from nI_add nx 20, show nI (nx + 20) - 1 = nI (nx + 19) from nI_pred (nx + 19), rem_20 (by omega)]
  have hlt : (nx + 19) % 20 < 20 := Nat.mod_lt _ (by decide)
  have hst := Pa_st h hlt
  have e6 := h6 k (by omega)
  rw [show (nx + 20 - (k + 1 - k)) % 20 = (nx + 19) % 20 by omega] at e6
  have hoff0 : Off (fun o => o = b) x (sI (sI x b 1 (nI ((nx + 19) % 20))) b 0 (nI k)) := Off_sI (D := fun o => o = b) (Off_sI (D := fun o => o = b) (Off_refl _ _) rfl _ _) rfl _ _
  refine ⟨pSt (sI (sI x b 1 (nI ((nx + 19) % 20))) b 0 (nI k)) s (gSt (sI (sI x b 1 (nI ((nx + 19) % 20))) b 0 (nI k)) (b + 2 + 8 * ((nx + 19) % 20))), cV_of ?_, ?_, ?_, ?_⟩
  · show RS (ZZ L xs) (d + 2) mX3_pop 0 [some (.ref b), some (.ref s)] [] _ = _
    have e0 : (sI x b 1 (nI ((nx + 19) % 20))).1 b 0 = nI (k + 1) := by
      show (if b = b ∧ 0 = 1 then _ else x.1 b 0) = _
      rw [if_neg (by omega), h3]
    have e1 : (sI (sI x b 1 (nI ((nx + 19) % 20))) b 0 (nI k)).1 b 1 = nI ((nx + 19) % 20) := by
      show (if b = b ∧ 1 = 0 then _ else (if b = b ∧ 1 = 1 then nI ((nx + 19) % 20) else _)) = _
      rw [if_neg (by omega), if_pos ⟨rfl, rfl⟩]
    rw [bX3_pop_0 (hv1 := rfl), Pa_size h, some_bind', h3, if_pos hne, Pa_next h, some_bind', h5, if_neg (by decide), hrem, Paw_next h, some_bind', Pa_size h, some_bind', e0, nI_pred, Paw_size h, some_bind', Pa_kept h, some_bind', Pa_next h, some_bind', e1, Pae_kept h hp (y := sI (sI x b 1 (nI ((nx + 19) % 20))) b 0 (nI k)) rfl hlt, some_bind', St_is hs, some_bind', v_copyS d hs hst (by omega), some_bind']
  · exact Off_pSt (Off_mono hoff0 (fun o q => Or.inl q)) (fun o q1 q2 => Or.inr ⟨q1, q2⟩) _
  · have hoff1 : Off (fun o => s ≤ o ∧ o < s + 8) (sI (sI x b 1 (nI ((nx + 19) % 20))) b 0 (nI k)) (pSt (sI (sI x b 1 (nI ((nx + 19) % 20))) b 0 (nI k)) s (gSt (sI (sI x b 1 (nI ((nx + 19) % 20))) b 0 (nI k)) (b + 2 + 8 * ((nx + 19) % 20)))) := Off_pSt (Off_refl _ _) (fun o q1 q2 => ⟨q1, q2⟩) _
    refine PaOK_off hoff1 (fun o q1 q2 => by omega) ⟨fun i hi => h1 i hi, by omega, ?_, (nx + 19) % 20, hlt, ?_, fun i hi => ?_⟩
    · show (if b = b ∧ 0 = 0 then nI k else _) = _
      rw [if_pos ⟨rfl, rfl⟩]
    · show (if b = b ∧ 1 = 0 then _ else (if b = b ∧ 1 = 1 then nI ((nx + 19) % 20) else _)) = _
      rw [if_neg (by omega), if_pos ⟨rfl, rfl⟩]
    · refine SQ_trans (gSt_off hoff0 (fun o q1 q2 => by omega)) ?_
      have := h6 i (by omega)
      rw [show ((nx + 19) % 20 + 20 - (k - i)) % 20 = (nx + 20 - (k + 1 - i)) % 20 by omega]
      exact this
  · exact SQ_trans (SQ_pSt _ _ _) (SQ_trans (gSt_off hoff0 (fun o q1 q2 => by omega)) e6)
theorem v_copyP (d : Nat) (h : isPa sh b) {k0 : Nat} {P0 : Nat → SV} (hp0 : PaOK x b k0 P0) {c : Nat} (hc : isPa sh c) (hp : PaOK x c k P) (hd : b + 162 ≤ c ∨ c + 162 ≤ b) : ∃ y, cV (ZZ L xs) (d + 2) mX3_copyFrom [.ref b, .ref c] (HP sh x) = some (HP sh y) ∧ Off (fun o => b ≤ o ∧ o < b + 162) x y ∧ PaOK y b k P := by
  obtain ⟨h1, h2, h3, nx, h4, h5, h6⟩ := id hp
  have loop : ∀ (f i : Nat), f + i = k + 1 → 1 ≤ i → ∀ (y : ST) (u : Option Value), Off (fun o => b ≤ o ∧ o < b + 162) x y → y.1 b 0 = nI k → y.1 b 1 = nI nx → y.2.2.2.2.2 (b + 1) = x.2.2.2.2.2 (b + 1) → (∀ j, 1 ≤ j → j < i → SQ (gSt y (b + 2 + 8 * ((nx + 20 - j) % 20))) (gSt x (c + 2 + 8 * ((nx + 20 - j) % 20)))) → ∃ z, RS (ZZ L xs) (d + 2) mX3_copyFrom 18 [some (.ref b), some (.ref c), some (.int (nI i)), u] [] (HP sh y) = some (HP sh z, none) ∧ Off (fun o => b ≤ o ∧ o < b + 162) x z ∧ z.1 b 0 = nI k ∧ z.1 b 1 = nI nx ∧ z.2.2.2.2.2 (b + 1) = x.2.2.2.2.2 (b + 1) ∧ ∀ j, 1 ≤ j → j < k + 1 → SQ (gSt z (b + 2 + 8 * ((nx + 20 - j) % 20))) (gSt x (c + 2 + 8 * ((nx + 20 - j) % 20))) := by
    intro f
    induction f with
    | zero =>
      intro i hi hi1 y u o1 o2 o3 o4 o5
      have : i = k + 1 := by omega
      subst this
      refine ⟨y, ?_, o1, o2, o3, o4, o5⟩
      rw [bX3_copyFrom_18 (hv1 := rfl), Pa_size h, some_bind', o2, if_pos (nI_lt (by omega) (by omega))]
    | succ f ih =>
      intro i hi hi1 y u o1 o2 o3 o4 o5
      have hr : iRem (nI nx + 20 - nI i) 20 = nI ((nx + 20 - i) % 20) := by
        rw [show nI nx + 20 = nI (nx + 20) from nI_add nx 20, pk_sub (by omega), rem_20 (by omega)]
      have hl : (nx + 20 - i) % 20 < 20 := Nat.mod_lt _ (by decide)
      have o6 : y.2.2.2.2.2 (c + 1) = x.2.2.2.2.2 (c + 1) := (o1 (c + 1) (by omega)).2.2.2.2.2
      rw [bX3_copyFrom_18 (hv1 := rfl), Pa_size h, some_bind', o2, if_neg (nI_nlt (by omega) (by omega)), Pa_next h, some_bind', o3, if_neg (by decide), hr, Pa_kept h, some_bind', Pae_kept h hp0 o4 hl, some_bind', Pa_kept hc, some_bind', Pae_kept hc hp o6 hl, some_bind', St_is (Pa_st h hl), some_bind', v_copyS d (Pa_st h hl) (Pa_st hc hl) (by omega), some_bind', nI_1]
      have hoff : Off (fun o => b + 2 + 8 * ((nx + 20 - i) % 20) ≤ o ∧ o < b + 2 + 8 * ((nx + 20 - i) % 20) + 8) y (pSt y (b + 2 + 8 * ((nx + 20 - i) % 20)) (gSt y (c + 2 + 8 * ((nx + 20 - i) % 20)))) := Off_pSt (Off_refl _ _) (fun o q1 q2 => ⟨q1, q2⟩) _
      refine ih (i + 1) (by omega) (by omega) _ _ (Off_trans o1 (Off_mono hoff (fun o q => by omega))) ?_ ?_ o4 (fun j j1 j2 => ?_)
      · rw [pSt_In _ _ _ _ _ (by omega)]
        exact o2
      · rw [pSt_In _ _ _ _ _ (by omega)]
        exact o3
      · by_cases hj : j = i
        · subst hj
          exact SQ_trans (SQ_pSt _ _ _) (gSt_off o1 (fun o q1 q2 => by omega))
        · exact SQ_trans (gSt_off hoff (fun o q1 q2 => by omega)) (o5 j j1 (by omega))
  obtain ⟨z, z1, z2, z3, z4, z5, z6⟩ := loop k 1 rfl (Nat.le_refl _) (sI (sI x b 0 (nI k)) b 1 (nI nx)) none (Off_sI (Off_sI (Off_refl _ _) (by omega) _ _) (by omega) _ _) (by
      show (if b = b ∧ 0 = 1 then _ else (if b = b ∧ 0 = 0 then nI k else _)) = _
      rw [if_neg (by omega), if_pos ⟨rfl, rfl⟩]) (by
      show (if b = b ∧ 1 = 1 then nI nx else _) = _
      rw [if_pos ⟨rfl, rfl⟩]) rfl (fun j j1 j2 => by omega)
  refine ⟨z, cV_of ?_, z2, ⟨fun i hi => ?_, h2, z3, nx, h4, z4, fun i hi => ?_⟩⟩
  · show RS (ZZ L xs) (d + 2) mX3_copyFrom 0 [some (.ref b), some (.ref c), none, none] [] _ = _
    have e1 : (sI x b 0 (nI k)).1 c 1 = nI nx := by
      show (if c = b ∧ 1 = 0 then _ else x.1 c 1) = _
      rw [if_neg (by omega), h5]
    rw [bX3_copyFrom_0 (hv1 := rfl), Pa_size hc, some_bind', h3, Paw_size h, some_bind', Pa_next hc, some_bind', e1, Paw_next h, some_bind']
    exact z1
  · rw [z5]
    exact hp0.1 i hi
  · have := z6 (k - i) (by omega) (by omega)
    exact SQ_trans this (h6 i hi)
end PAST
