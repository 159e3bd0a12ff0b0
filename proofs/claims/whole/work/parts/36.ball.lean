/-! how far it is: reached in so many steps -/
def Bl (l : Int64) (i : Nat) : Nat → Nat → Prop
  | 0, j => j = i
  | n + 1, j => Bl l i n j ∨ ∃ k, k < 8 ∧ Bl l i n k ∧ aj l k j = true
theorem Bl_mono {l : Int64} {i j : Nat} {n m : Nat} (h : n ≤ m) (hb : Bl l i n j) : Bl l i m j := by
  induction h with
  | refl => exact hb
  | step _ ih => exact Or.inl ih
def isFar (l : Int64) (i j : Nat) (v : Int32) : Prop := (∃ n, n < 8 ∧ v = nI n ∧ Bl l i n j ∧ ∀ m, m < n → ¬ Bl l i m j) ∨ (v = 99 ∧ ∀ n, n < 8 → ¬ Bl l i n j)
theorem far_uni {l : Int64} {i j : Nat} {u v : Int32} (h1 : isFar l i j u) (h2 : isFar l i j v) : u = v := by
  rcases h1 with ⟨n, hn, rfl, b1, l1⟩ | ⟨rfl, q1⟩
  · rcases h2 with ⟨m, hm, rfl, b2, l2⟩ | ⟨rfl, q2⟩
    · rcases Nat.lt_trichotomy n m with h | h | h
      · exact absurd b1 (l2 n h)
      · rw [h]
      · exact absurd b2 (l1 m h)
    · exact absurd b1 (q2 n hn)
  · rcases h2 with ⟨m, hm, rfl, b2, l2⟩ | ⟨rfl, q2⟩
    · exact absurd b2 (q1 m hm)
    · rfl
theorem Bl_step {l : Int64} {i k j n : Nat} (hi : i < 8) (hk : k < 8) (ha : aj l k i = true) (h : Bl l i n j) : Bl l k (n + 1) j := by
  induction n generalizing j with
  | zero =>
    have : j = i := h
    subst this
    exact Or.inr ⟨k, hk, rfl, ha⟩
  | succ n ih =>
    rcases h with h | ⟨q, hq, h, hj⟩
    · exact Or.inl (ih h)
    · exact Or.inr ⟨q, hq, ih h, hj⟩
def symm8 (l : Int64) : Prop := ∀ i j, i < 8 → j < 8 → aj l i j = true → aj l j i = true
theorem Bl_sym {l : Int64} (hs : symm8 l) {n : Nat} : ∀ {i j : Nat}, i < 8 → j < 8 → Bl l i n j → Bl l j n i := by
  induction n with
  | zero =>
    intro i j _ _ h
    exact Eq.symm h
  | succ n ih =>
    intro i j hi hj h
    rcases h with h | ⟨k, hk, h, ha⟩
    · exact Or.inl (ih hi hj h)
    · exact Bl_step hk hj (hs k j hk hj ha) (ih hi hk h)
theorem far_sym {l : Int64} (hs : symm8 l) {i j : Nat} (hi : i < 8) (hj : j < 8) {v : Int32} (h : isFar l i j v) : isFar l j i v := by
  rcases h with ⟨n, hn, e, b1, l1⟩ | ⟨e, q1⟩
  · exact Or.inl ⟨n, hn, e, Bl_sym hs hi hj b1, fun m hm q => l1 m hm (Bl_sym hs hj hi q)⟩
  · exact Or.inr ⟨e, fun n hn q => q1 n hn (Bl_sym hs hj hi q)⟩
theorem msIn_1 (l : Int64) (e : Int32) (fr : Nat) (dd : Int32) : ∀ (f p : Nat), f + p = 8 → ∀ (A : Nat → Int32) (n : Int32), (∀ q, p ≤ q → q < 8 → bt e q = true → (msIn l e fr dd f p (A, n)).1 (fr * 8 + q) = dd) ∧ (∀ k, (∀ q, p ≤ q → q < 8 → bt e q = true → k ≠ fr * 8 + q) → (msIn l e fr dd f p (A, n)).1 k = A k) ∧ (∀ j, bt (msIn l e fr dd f p (A, n)).2 j = true ↔ bt n j = true ∨ ∃ q, p ≤ q ∧ q < 8 ∧ bt e q = true ∧ bt (nb l (nI q)) j = true) := by
  intro f
  induction f with
  | zero =>
    intro p hp A n
    refine ⟨fun q h1 h2 => absurd h2 (by omega), fun k _ => rfl, fun j => ⟨Or.inl, fun h => ?_⟩⟩
    rcases h with h | ⟨q, h1, h2, -⟩
    · exact h
    · omega
  | succ f ih =>
    intro p hp A n
    unfold msIn
    by_cases hb : bt e p = true
    · rw [if_pos ((bt_shr (by omega)).mpr hb)]
      obtain ⟨i1, i2, i3⟩ := ih (p + 1) (by omega) (upd A (fr * 8 + p) dd) (n ||| nb l (nI p))
      refine ⟨fun q h1 h2 h3 => ?_, fun k hk => ?_, fun j => ?_⟩
      · by_cases hq : q = p
        · subst hq
          rw [i2 _ (fun q' h1' h2' h3' => by omega), upd_at]
        · exact i1 q (by omega) h2 h3
      · rw [i2 k (fun q' h1' h2' h3' => hk q' (by omega) h2' h3'), upd_ne _ _ (hk p (Nat.le_refl _) (by omega) hb)]
      · rw [i3 j, bt_or, Bool.or_eq_true]
        constructor
        · rintro ((h | h) | ⟨q, h1, h2, h3, h4⟩)
          · exact Or.inl h
          · exact Or.inr ⟨p, Nat.le_refl _, by omega, hb, h⟩
          · exact Or.inr ⟨q, by omega, h2, h3, h4⟩
        · rintro (h | ⟨q, h1, h2, h3, h4⟩)
          · exact Or.inl (Or.inl h)
          · by_cases hq : q = p
            · subst hq
              exact Or.inl (Or.inr h4)
            · exact Or.inr ⟨q, by omega, h2, h3, h4⟩
    · rw [if_neg (fun q => hb ((bt_shr (by omega)).mp q))]
      obtain ⟨i1, i2, i3⟩ := ih (p + 1) (by omega) A n
      refine ⟨fun q h1 h2 h3 => ?_, fun k hk => ?_, fun j => ?_⟩
      · by_cases hq : q = p
        · subst hq
          exact absurd h3 hb
        · exact i1 q (by omega) h2 h3
      · exact i2 k (fun q' h1' h2' h3' => hk q' (by omega) h2' h3')
      · rw [i3 j]
        constructor
        · rintro (h | ⟨q, h1, h2, h3, h4⟩)
          · exact Or.inl h
          · exact Or.inr ⟨q, by omega, h2, h3, h4⟩
        · rintro (h | ⟨q, h1, h2, h3, h4⟩)
          · exact Or.inl h
          · by_cases hq : q = p
            · subst hq
              exact absurd h3 hb
            · exact Or.inr ⟨q, by omega, h2, h3, h4⟩
/-- what is known of a row at the distance dd -/
def rowAt (l : Int64) (fr dd : Nat) (A : Nat → Int32) : Prop := ∀ j, j < 8 → (∃ n, n < dd ∧ A (fr * 8 + j) = nI n ∧ Bl l fr n j ∧ ∀ m, m < n → ¬ Bl l fr m j) ∨ (A (fr * 8 + j) = 99 ∧ ∀ n, n < dd → ¬ Bl l fr n j)
theorem Bl_stop {l : Int64} {i dd : Nat} (h : ∀ j, j < 8 → Bl l i dd j → ∃ m, m < dd ∧ Bl l i m j) : ∀ (n : Nat), dd ≤ n → ∀ j, j < 8 → Bl l i n j → ∃ m, m < dd ∧ Bl l i m j := by
  intro n hn
  induction hn with
  | refl => exact h
  | step hn ih =>
    intro j hj hb
    rcases hb with hb | ⟨k, hk, hb, ha⟩
    · exact ih j hj hb
    · obtain ⟨m, hm, hb⟩ := ih k hk hb
      have h2 : Bl l i (m + 1) j := Or.inr ⟨k, hk, hb, ha⟩
      rcases Nat.lt_or_ge (m + 1) dd with h3 | h3
      · exact ⟨m + 1, h3, h2⟩
      · have : m + 1 = dd := by omega
        rw [this] at h2
        exact h j hj h2
theorem msD_1 (l : Int64) (fr : Nat) (hfr : fr < 8) : ∀ (f dd : Nat), f + dd = 8 → ∀ (se e : Int32) (A : Nat → Int32), (∀ j, j < 8 → (bt se j = true ↔ ∃ m, m < dd ∧ Bl l fr m j)) → (∀ j, j < 8 → (bt e j = true ↔ Bl l fr dd j ∧ ¬ ∃ m, m < dd ∧ Bl l fr m j)) → (∀ j, 8 ≤ j → j < 32 → bt e j = false) → rowAt l fr dd A → rowAt l fr 8 (msD l fr f dd se e A) ∧ ∀ k, (k < fr * 8 ∨ fr * 8 + 8 ≤ k) → msD l fr f dd se e A k = A k := by
  intro f
  induction f with
  | zero =>
    intro dd hd se e A hs he h8 hA
    have : dd = 8 := by omega
    subst this
    exact ⟨hA, fun k _ => rfl⟩
  | succ f ih =>
    intro dd hd se e A hs he h8 hA
    unfold msD
    by_cases h0 : e = 0
    · rw [if_pos h0]
      refine ⟨fun j hj => ?_, fun k _ => rfl⟩
      have hst : ∀ j, j < 8 → Bl l fr dd j → ∃ m, m < dd ∧ Bl l fr m j := by
        intro j hj hb
        apply Classical.byContradiction
        intro hn
        have := (he j hj).mpr ⟨hb, hn⟩
        rw [h0, bt_0] at this
        cases this
      rcases hA j hj with ⟨n, hn, q1, q2, q3⟩ | ⟨q1, q2⟩
      · exact Or.inl ⟨n, by omega, q1, q2, q3⟩
      · refine Or.inr ⟨q1, fun n hn hb => ?_⟩
        rcases Nat.lt_or_ge n dd with h | h
        · exact q2 n h hb
        · obtain ⟨m, hm, hb⟩ := Bl_stop hst n h j hj hb
          exact q2 m hm hb
    · rw [if_neg h0]
      obtain ⟨i1, i2, i3⟩ := msIn_1 l e fr (nI dd) 8 0 rfl A 0
      have hse : ∀ j, j < 8 → (bt (se ||| e) j = true ↔ ∃ m, m < dd + 1 ∧ Bl l fr m j) := by
        intro j hj
        rw [bt_or, Bool.or_eq_true, hs j hj, he j hj]
        constructor
        · rintro (⟨m, hm, hb⟩ | ⟨hb, -⟩)
          · exact ⟨m, by omega, hb⟩
          · exact ⟨dd, by omega, hb⟩
        · rintro ⟨m, hm, hb⟩
          by_cases hq : ∃ m, m < dd ∧ Bl l fr m j
          · exact Or.inl hq
          · have : m = dd := by
              rcases Nat.lt_or_ge m dd with h | h
              · exact absurd ⟨m, h, hb⟩ hq
              · omega
            subst this
            exact Or.inr ⟨hb, hq⟩
      have key := ih (dd + 1) (by omega) (se ||| e) ((msIn l e fr (nI dd) 8 0 (A, 0)).2 &&& ((se ||| e) ^^^ (-1))) (msIn l e fr (nI dd) 8 0 (A, 0)).1 hse
      have k1 : ∀ j, j < 8 → (bt ((msIn l e fr (nI dd) 8 0 (A, 0)).2 &&& ((se ||| e) ^^^ (-1))) j = true ↔ Bl l fr (dd + 1) j ∧ ¬ ∃ m, m < dd + 1 ∧ Bl l fr m j) := by
        intro j hj
        rw [bt_and, bt_not _ (by omega), Bool.and_eq_true, i3 j, Bool.not_eq_true', ← Bool.not_eq_true, hse j hj]
        constructor
        · rintro ⟨h | ⟨q, -, hq, hb, hn⟩, h2⟩
          · rw [bt_0] at h
            cases h
          · rw [bt_nb l hq (by omega)] at hn
            simp only [hj, decide_true, Bool.true_and] at hn
            exact ⟨Or.inr ⟨q, hq, ((he q hq).mp hb).1, hn⟩, h2⟩
        · rintro ⟨hb, h2⟩
          refine ⟨Or.inr ?_, h2⟩
          rcases hb with hb | ⟨k, hk, hb, ha⟩
          · exact absurd ⟨dd, by omega, hb⟩ h2
          · refine ⟨k, by omega, hk, (he k hk).mpr ⟨hb, ?_⟩, ?_⟩
            · rintro ⟨m, hm, hb⟩
              exact h2 ⟨m + 1, by omega, Or.inr ⟨k, hk, hb, ha⟩⟩
            · rw [bt_nb l hk (by omega)]
              simp [hj, ha]
      have k2 : ∀ j, 8 ≤ j → j < 32 → bt ((msIn l e fr (nI dd) 8 0 (A, 0)).2 &&& ((se ||| e) ^^^ (-1))) j = false := by
        intro j h1 h2
        rw [bt_and]
        have : bt (msIn l e fr (nI dd) 8 0 (A, 0)).2 j = false := by
          rw [← Bool.not_eq_true, i3 j]
          rintro (h | ⟨q, -, hq, hb, hn⟩)
          · rw [bt_0] at h
            cases h
          · rw [bt_nb l hq h2] at hn
            simp [show ¬ j < 8 by omega] at hn
        rw [this]
        rfl
      have k3 : rowAt l fr (dd + 1) (msIn l e fr (nI dd) 8 0 (A, 0)).1 := by
        intro j hj
        by_cases hb : bt e j = true
        · obtain ⟨b1, b2⟩ := (he j hj).mp hb
          exact Or.inl ⟨dd, by omega, i1 j (by omega) hj hb, b1, fun m hm q => b2 ⟨m, hm, q⟩⟩
        · have e1 := i2 (fr * 8 + j) (fun q _ hq hbq => by
            intro hqq
            have : q = j := by omega
            subst this
            exact hb hbq)
          rw [e1]
          rcases hA j hj with ⟨n, hn, q1, q2, q3⟩ | ⟨q1, q2⟩
          · exact Or.inl ⟨n, by omega, q1, q2, q3⟩
          · refine Or.inr ⟨q1, fun n hn hbn => ?_⟩
            rcases Nat.lt_or_ge n dd with h | h
            · exact q2 n h hbn
            · have : n = dd := by omega
              subst this
              exact hb ((he j hj).mpr ⟨hbn, fun ⟨m, hm, q⟩ => q2 m hm q⟩)
      obtain ⟨r1, r2⟩ := key k1 k2 k3
      refine ⟨r1, fun k hk => ?_⟩
      rw [r2 k hk]
      exact i2 k (fun q _ hq _ => by omega)
theorem msF_1 (l : Int64) : ∀ (f fr : Nat), f + fr = 8 → ∀ (A : Nat → Int32), (∀ i, i < fr → rowAt l i 8 A) → (∀ k, fr * 8 ≤ k → k < 64 → A k = 99) → ∀ i, i < 8 → rowAt l i 8 (msF l f fr A) := by
  intro f
  induction f with
  | zero =>
    intro fr hf A h1 _ i hi
    exact h1 i (by omega)
  | succ f ih =>
    intro fr hf A h1 h2 i hi
    unfold msF
    obtain ⟨r1, r2⟩ := msD_1 l fr (by omega) 8 0 rfl 0 (iShl 1 (nI fr)) A (fun j hj => by
        rw [bt_0]
        exact ⟨fun h => (by cases h), fun ⟨m, hm, _⟩ => (by omega)⟩) (fun j hj => by
        rw [bt_shl (by omega) (by omega)]
        have e0 : Bl l fr 0 j ↔ j = fr := Iff.rfl
        rw [decide_eq_true_iff, e0]
        exact ⟨fun h => ⟨h, fun ⟨m, hm, _⟩ => (by omega)⟩, fun h => h.1⟩) (fun j hj hj2 => by
        rw [bt_shl (by omega) hj2]
        exact decide_eq_false (by omega)) (fun j hj => Or.inr ⟨h2 _ (by omega) (by omega), fun n hn => by omega⟩)
    refine ih (fr + 1) (by omega) _ (fun i' hi' => ?_) (fun k hk hk2 => ?_) i hi
    · by_cases hq : i' = fr
      · subst hq
        exact r1
      · intro j hj
        rw [r2 (i' * 8 + j) (by omega)]
        exact h1 i' (by omega) j hj
    · rw [r2 k (by omega)]
      exact h2 k (by omega) hk2
theorem dst_far (l : Int64) {i j : Nat} (hi : i < 8) (hj : j < 8) : isFar l i j (farS (dst l) (nI i) (nI j)) := by
  have h := msF_1 l 8 0 rfl (flF 99 64 (fun _ => 0)) (fun i hi => by omega) (fun k _ hk => if_pos hk) i hi j hj
  have e : farS (dst l) (nI i) (nI j) = dst l (i * 8 + j) := by
    unfold farS
    rw [if_neg, nI_clamp (by omega), nI_clamp (by omega)]
    rintro (h | h | h | h)
    · exact nI_pos (n := i) (by omega) h
    · exact nI_ge (a := i) (b := 8) hi (by decide) h
    · exact nI_pos (n := j) (by omega) h
    · exact nI_ge (a := j) (b := 8) hj (by decide) h
  rw [e]
  exact h
