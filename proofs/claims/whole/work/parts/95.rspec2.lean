/-! tests: what they come to -/
def E3 (l : EL) (ho ha : Bool) (A O C : (Nat → Int64) → Int64) : Prop := (∀ u st, rp u l st = some (C u :: ((if ha = true then [A u] else []) ++ ((if ho = true then [O u] else []) ++ st)))) ∧ (∀ u, T01 (A u) ∧ T01 (O u) ∧ T01 (C u)) ∧ okL l ∧ l ≠ []
def chv (ha : Bool) (A C : (Nat → Int64) → Int64) : (Nat → Int64) → Int64 := fun u => if ha = true then A u &&& C u else C u
theorem T01_and {a b : Int64} (h : T01 a) (g : T01 b) : T01 (a &&& b) := by
  rcases h with rfl | rfl <;> rcases g with rfl | rfl <;> unfold T01 <;> decide
theorem T01_or {a b : Int64} (h : T01 a) (g : T01 b) : T01 (a ||| b) := by
  rcases h with rfl | rfl <;> rcases g with rfl | rfl <;> unfold T01 <;> decide
theorem T01_not {a : Int64} (h : T01 a) : T01 (1 - a) := by
  rcases h with rfl | rfl <;> unfold T01 <;> decide
theorem chv_T {ha : Bool} {A C : (Nat → Int64) → Int64} {u : Nat → Int64} (h : T01 (A u)) (g : T01 (C u)) : T01 (chv ha A C u) := by
  unfold chv
  split
  · exact T01_and h g
  · exact g
theorem fl_ok (b : Bool) {k : Nat} (h : k ≤ 15) (h1 : k ≠ 1) : okL (fl b k) := by
  unfold fl
  split
  · exact okL_1 h (fun z => absurd z h1)
  · intro q hq
    cases hq
theorem E3_a {l : EL} {ho ha : Bool} {A O C : (Nat → Int64) → Int64} (h : E3 l ho ha A O C) (u : Nat → Int64) (st : List Int64) : rp u (l ++ fl ha 10) st = some (chv ha A C u :: ((if ho = true then [O u] else []) ++ st)) := by
  rw [rp_app, h.1, some_bind']
  unfold fl chv
  cases ha with
  | true => exact rp_b (k := 10) ⟨by decide, by decide, by decide, by decide⟩ _ _ _
  | false => rfl
theorem E3_o {l : EL} {ho ha : Bool} {A O C : (Nat → Int64) → Int64} (h : E3 l ho ha A O C) (u : Nat → Int64) (st : List Int64) : rp u (l ++ fl ha 10 ++ fl ho 11) st = some ((if ho = true then O u ||| chv ha A C u else chv ha A C u) :: st) := by
  rw [rp_app, E3_a h, some_bind']
  unfold fl
  cases ho with
  | true => exact rp_b (k := 11) ⟨by decide, by decide, by decide, by decide⟩ _ _ _
  | false => rfl
def fnv (ho ha : Bool) (A O C : (Nat → Int64) → Int64) : (Nat → Int64) → Int64 := fun u => if ho = true then O u ||| chv ha A C u else chv ha A C u
theorem fnv_T {l : EL} {ho ha : Bool} {A O C : (Nat → Int64) → Int64} (h : E3 l ho ha A O C) (u : Nat → Int64) : T01 (fnv ho ha A O C u) := by
  unfold fnv
  obtain ⟨a, b, c⟩ := h.2.1 u
  split
  · exact T01_or b (chv_T a c)
  · exact chv_T a c
theorem E3_and {l l1 : EL} {ho ha : Bool} {A O C : (Nat → Int64) → Int64} (h : E3 l ho ha A O C) (h1 : WT l1) : E3 (l ++ fl ha 10 ++ l1) ho true (chv ha A C) O (fun u => evl u l1) := by
  refine ⟨fun u st => ?_, fun u => ⟨chv_T (h.2.1 u).1 (h.2.1 u).2.2, (h.2.1 u).2.1, h1.2.2 u⟩, okL_app (okL_app h.2.2.1 (fl_ok _ (by decide) (by decide))) h1.1.2, by simp [h1.2.1]⟩
  rw [rp_app, E3_a h, some_bind', WF_s h1.1]
  rfl
theorem E3_or {l l1 : EL} {ho ha : Bool} {A O C : (Nat → Int64) → Int64} (h : E3 l ho ha A O C) (h1 : WT l1) : E3 (l ++ fl ha 10 ++ fl ho 11 ++ l1) true false A (fnv ho ha A O C) (fun u => evl u l1) := by
  refine ⟨fun u st => ?_, fun u => ⟨(h.2.1 u).1, fnv_T h u, h1.2.2 u⟩, okL_app (okL_app (okL_app h.2.2.1 (fl_ok _ (by decide) (by decide))) (fl_ok _ (by decide) (by decide))) h1.1.2, by simp [h1.2.1]⟩
  rw [rp_app, E3_o h, some_bind', WF_s h1.1]
  rfl
theorem E3_end {l : EL} {ho ha : Bool} {A O C : (Nat → Int64) → Int64} (h : E3 l ho ha A O C) : WT (l ++ fl ha 10 ++ fl ho 11) ∧ ∀ u, evl u (l ++ fl ha 10 ++ fl ho 11) = fnv ho ha A O C u := by
  have e : ∀ u, evl u (l ++ fl ha 10 ++ fl ho 11) = fnv ho ha A O C u := fun u => evl_of (E3_o h u)
  refine ⟨⟨⟨fun u => ⟨_, E3_o h u⟩, okL_app (okL_app h.2.2.1 (fl_ok _ (by decide) (by decide))) (fl_ok _ (by decide) (by decide))⟩, by simp [h.2.2.2], fun u => ?_⟩, e⟩
  rw [e]
  exact fnv_T h u
theorem E3_beg {l : EL} (h : WT l) : E3 l false false (fun _ => 0) (fun _ => 0) (fun u => evl u l) := ⟨fun u st => WF_s h.1 u st, fun u => ⟨Or.inl rfl, Or.inl rfl, h.2.2 u⟩, h.1.2, h.2.1⟩
theorem fl_len (b : Bool) (k : Nat) : (fl b k).length ≤ 1 := by
  unfold fl
  split
  · exact Nat.le_refl 1
  · exact Nat.zero_le 1
/-- a reader of facts as it must be -/
def okF (T : TP) (F : Nat → Nat → Er) : Prop := ∀ s c q, c ≤ 60 → F s c = .inr q → WT q.2.2 ∧ bnd T s c 3 q
theorem wd_lt {T : TP} {s : Nat} {w : List Nat} (hw : 2 ≤ w.length) (h : wdIs T s w = true) : s + 2 ≤ nx' T s ∧ s < T.1 := by
  have hne : w ≠ [] := fun q => by rw [q] at hw; exact absurd hw (by decide)
  obtain ⟨h1, h2⟩ := wdIs_en hne h
  have := rn_le isB T (en T s)
  refine ⟨by unfold nx'; omega, Nat.lt_of_not_le (fun q => by have := kd_0.mpr q; omega)⟩
theorem elp_in {T : TP} {F : Nat → Nat → Er} (hF : okF T F) : ∀ (f s c : Nat) (l : EL) (ho ha : Bool) (A O C : (Nat → Int64) → Int64) (q : Nat × Nat × EL), s ≤ T.1 → c ≤ 60 → E3 l ho ha A O C → elp F T f s c l ho ha = .inr q → WT q.2.2 ∧ s ≤ q.1 ∧ q.1 ≤ T.1 ∧ c ≤ q.2.1 ∧ q.2.1 ≤ 60 ∧ 3 * q.2.2.length + s + 4 * c ≤ 3 * (l.length + (fl ha 10).length + (fl ho 11).length) + q.1 + 4 * q.2.1
  | 0, s, c, l, ho, ha, A, O, C, q, hs, hc, hE, h => by
    cases h
    refine ⟨(E3_end hE).1, Nat.le_refl _, hs, Nat.le_refl _, hc, ?_⟩
    rw [List.length_append, List.length_append]
    exact Nat.le_refl _
  | f + 1, s, c, l, ho, ha, A, O, C, q, hs, hc, hE, h => by
    have h : (if wdIs T s wAnd = true then sB (F (nx' T s) c) fun q => elp F T f q.1 q.2.1 (l ++ fl ha 10 ++ q.2.2) ho true else if wdIs T s wOr = true then sB (F (nx' T s) c) fun q => elp F T f q.1 q.2.1 (l ++ fl ha 10 ++ fl ho 11 ++ q.2.2) true false else .inr (s, c, l ++ fl ha 10 ++ fl ho 11)) = Sum.inr q := h
    by_cases h1 : wdIs T s wAnd = true
    · rw [if_pos h1] at h
      obtain ⟨r, g1, g2⟩ := sB_inr h
      obtain ⟨a1, a2, a3, a4, a5, a6⟩ := hF _ _ _ hc g1
      have hw := wd_lt (by decide) h1
      obtain ⟨c1, c2, c3, c4, c5, c6⟩ := elp_in hF f _ _ _ _ _ _ _ _ q a3 a5 (E3_and hE a1) g2
      rw [List.length_append, List.length_append] at c6
      have z : (fl true 10).length = 1 := rfl
      exact ⟨c1, by omega, c3, by omega, c5, by omega⟩
    · rw [if_neg h1] at h
      by_cases h2 : wdIs T s wOr = true
      · rw [if_pos h2] at h
        obtain ⟨r, g1, g2⟩ := sB_inr h
        obtain ⟨a1, a2, a3, a4, a5, a6⟩ := hF _ _ _ hc g1
        have hw := wd_lt (by decide) h2
        obtain ⟨c1, c2, c3, c4, c5, c6⟩ := elp_in hF f _ _ _ _ _ _ _ _ q a3 a5 (E3_or hE a1) g2
        rw [List.length_append, List.length_append, List.length_append] at c6
        have z : (fl true 11).length = 1 := rfl
        have z2 : (fl false 10).length = 0 := rfl
        exact ⟨c1, by omega, c3, by omega, c5, by omega⟩
      · rw [if_neg h2] at h
        cases h
        refine ⟨(E3_end hE).1, Nat.le_refl _, hs, Nat.le_refl _, hc, ?_⟩
        rw [List.length_append, List.length_append]
        exact Nat.le_refl _
theorem pE_in {T : TP} {F : Nat → Nat → Er} (hF : okF T F) {s c : Nat} {q : Nat × Nat × EL} (hc : c ≤ 60) (h : pE F T s c = .inr q) : WT q.2.2 ∧ bnd T s c 3 q := by
  obtain ⟨r, h1, h2⟩ := sB_inr h
  obtain ⟨a1, a2, a3, a4, a5, a6⟩ := hF _ _ _ hc h1
  obtain ⟨c1, c2, c3, c4, c5, c6⟩ := elp_in hF 61 _ _ _ _ _ _ _ _ q a3 a5 (E3_beg a1) h2
  have z : (fl false 10).length = 0 := rfl
  have z2 : (fl false 11).length = 0 := rfl
  unfold bnd
  exact ⟨c1, by omega, c3, by omega, c5, by omega⟩
theorem WT_N {l : EL} (h : WT l) : WT (l ++ [(9, 0)]) := ⟨WF_N h.1, by simp, fun u => by rw [evl_N h.1]; exact T01_not (h.2.2 u)⟩
theorem pFa_in {T : TP} : ∀ g, okF T (pFa T g)
  | 0 => fun s c q hc h => by
    have h : (if wdIs T s wNot = true ∨ Bt T s = 91 then .inl (ft s 2) else pC T s c) = Sum.inr q := h
    by_cases h1 : wdIs T s wNot = true ∨ Bt T s = 91
    · rw [if_pos h1] at h
      cases h
    · rw [if_neg h1] at h
      exact pC_in hc h
  | g + 1 => fun s c q hc h => by
    have h : (if wdIs T s wNot = true then sB (pFa T g (nx' T s) c) fun q => .inr (q.1, q.2.1, q.2.2 ++ [(9, 0)]) else if Bt T s = 91 then sB (pE (pFa T g) T (nx' T s) c) fun q => if Bt T q.1 = 93 then .inr (nx' T q.1, q.2.1, q.2.2) else .inl (ft q.1 0) else pC T s c) = Sum.inr q := h
    by_cases h1 : wdIs T s wNot = true
    · rw [if_pos h1] at h
      obtain ⟨r, g1, g2⟩ := sB_inr h
      obtain ⟨a1, a2, a3, a4, a5, a6⟩ := pFa_in g _ _ _ hc g1
      have hne : wNot ≠ [] := by decide
      obtain ⟨w1, w2⟩ := wdIs_en hne h1
      have w3 := rn_le isB T (en T s)
      have w4 : nx' T s = rn isB T (en T s) := rfl
      have w5 : wNot.length = 3 := rfl
      cases g2
      refine ⟨WT_N a1, ?_⟩
      unfold bnd
      rw [List.length_append]
      have z : [((9, 0) : Nat × Nat)].length = 1 := rfl
      rw [z]
      refine ⟨by show s < r.1; omega, a3, a4, a5, ?_⟩
      show 3 * (r.2.2.length + 1) + 3 + s + 4 * c ≤ r.1 + 4 * r.2.1
      omega
    · rw [if_neg h1] at h
      by_cases h2 : Bt T s = 91
      · rw [if_pos h2] at h
        obtain ⟨r, g1, g2⟩ := sB_inr h
        obtain ⟨a1, a2, a3, a4, a5, a6⟩ := pE_in (pFa_in g) hc g1
        have hlt := nx_lt (Bt_s (T := T) (s := s) (by omega))
        by_cases h3 : Bt T r.1 = 93
        · rw [if_pos h3] at g2
          have hlt2 := nx_lt (Bt_s (T := T) (s := r.1) (by omega))
          have hle := nx_le a3
          cases g2
          refine ⟨a1, ?_⟩
          unfold bnd
          refine ⟨by show s < nx' T r.1; omega, hle.2, a4, a5, ?_⟩
          show 3 * r.2.2.length + 3 + s + 4 * c ≤ nx' T r.1 + 4 * r.2.1
          omega
        · rw [if_neg h3] at g2
          cases g2
      · rw [if_neg h2] at h
        exact pC_in hc h
/-- a clause -/
def okC (q : EL × EL) : Prop := WF q.1 ∧ (q.2 = [] ∨ WT q.2)
theorem pR_in {T : TP} {n s c : Nat} {q : Nat × Nat × EL × EL} (hc : c ≤ 60) (h : pR T n s c = .inr q) : okC q.2.2 ∧ n ≠ 12 ∧ wdIs T s wAsk = true ∧ s < q.1 ∧ q.1 ≤ T.1 ∧ c < q.2.1 ∧ q.2.1 ≤ 60 ∧ 3 * (q.2.2.1.length + q.2.2.2.length) + s + 4 * c ≤ q.1 + 4 * q.2.1 := by
  unfold pR at h
  by_cases h1 : wdIs T s wAsk = true
  · rw [if_pos h1] at h
    have hw := wd_lt (by decide) h1
    by_cases h12 : n = 12
    · rw [if_pos h12] at h
      cases h
    · rw [if_neg h12] at h
      obtain ⟨r, g1, g2⟩ := sB_inr h
      obtain ⟨a1, a2, a3, a4, a5, a6⟩ := pS_in hc g1
      by_cases h2 : wdIs T r.1 wIf = true
      · rw [if_pos h2] at g2
        obtain ⟨t, k1, k2⟩ := sB_inr g2
        have hw2 := wd_lt (by decide) h2
        obtain ⟨b1, b2, b3, b4, b5, b6⟩ := pE_in (pFa_in 10) a5 k1
        cases k2
        refine ⟨⟨a1, Or.inr b1⟩, h12, h1, by show s < t.1; omega, b3, by show c < t.2.1; omega, b5, ?_⟩
        show 3 * (r.2.2.length + t.2.2.length) + s + 4 * c ≤ t.1 + 4 * t.2.1
        omega
      · rw [if_neg h2] at g2
        cases g2
        refine ⟨⟨a1, Or.inl rfl⟩, h12, h1, by show s < r.1; omega, a3, a4, a5, ?_⟩
        show 3 * (r.2.2.length + 0) + s + 4 * c ≤ r.1 + 4 * r.2.1
        omega
  · rw [if_neg h1] at h
    cases h
def rdl (u : Nat → Int64) : List (EL × EL) → Int64
  | [] => 0
  | q :: cl => if q.2.length = 0 ∨ evl u q.2 = 1 then evl u q.1 else rdl u cl
def uW (wd : Nat → Int32) : Nat → Int64 := fun k => if k < 12 then (wd k).toInt64 else 0
def rDn (cl : List (EL × EL)) (wd : Nat → Int32) : Int64 := rdl (uW wd) cl
theorem cgF_r (cl : List (EL × EL)) : cgF (rDn cl) := fun u v h => by
  have : uW u = uW v := by
    funext k
    unfold uW
    by_cases hk : k < 12
    · rw [if_pos hk, if_pos hk, h k hk]
    · rw [if_neg hk, if_neg hk]
  unfold rDn
  rw [this]
