/-! shapes of the objects, and what is read and written there (by program) -/
section ACC
variable {sh : List Sh} {b : Nat}
def isSt (sh : List Sh) (b : Nat) : Prop := sh[b]? = some (.inr (7, [(0, 0), (0, 0), (0, 0), (1, 0), (2, b + 1), (2, b + 2), (2, b + 3), (2, b + 4), (2, b + 5), (2, b + 6), (2, b + 7)])) ∧ sh[b + 1]? = some (.inl (0, 6)) ∧ sh[b + 2]? = some (.inl (0, 6)) ∧ sh[b + 3]? = some (.inl (0, 6)) ∧ sh[b + 4]? = some (.inl (0, 6)) ∧ sh[b + 5]? = some (.inl (0, 6)) ∧ sh[b + 6]? = some (.inl (0, 5)) ∧ sh[b + 7]? = some (.inl (0, 30))
theorem St_hour (h : isSt sh b) (x : ST) : fI (HP sh x) (.ref b) 7 0 = some (x.1 b 0) := rI h.1 (q := 0) rfl
theorem Stw_hour (h : isSt sh b) (x : ST) (v : Int32) : fP (HP sh x) (.ref b) 7 0 (.int v) = some (HP sh (sI x b 0 v)) := wI' h.1 (q := 0) rfl
theorem St_chain (h : isSt sh b) (x : ST) : fI (HP sh x) (.ref b) 7 1 = some (x.1 b 1) := rI h.1 (q := 0) rfl
theorem Stw_chain (h : isSt sh b) (x : ST) (v : Int32) : fP (HP sh x) (.ref b) 7 1 (.int v) = some (HP sh (sI x b 1 v)) := wI' h.1 (q := 0) rfl
theorem St_come (h : isSt sh b) (x : ST) : fI (HP sh x) (.ref b) 7 2 = some (x.1 b 2) := rI h.1 (q := 0) rfl
theorem Stw_come (h : isSt sh b) (x : ST) (v : Int32) : fP (HP sh x) (.ref b) 7 2 (.int v) = some (HP sh (sI x b 2 v)) := wI' h.1 (q := 0) rfl
theorem St_open (h : isSt sh b) (x : ST) : fL (HP sh x) (.ref b) 7 3 = some (x.2.1 b 3) := rJ h.1 (q := 0) rfl
theorem Stw_open (h : isSt sh b) (x : ST) (v : Int64) : fP (HP sh x) (.ref b) 7 3 (.long v) = some (HP sh (sJL x b 3 v)) := wJ' h.1 (q := 0) rfl
theorem St_place (h : isSt sh b) (x : ST) : fR (HP sh x) (.ref b) 7 4 = some (.ref (b + 1)) := rF h.1 (q := b + 1) rfl
theorem St_kind (h : isSt sh b) (x : ST) : fR (HP sh x) (.ref b) 7 5 = some (.ref (b + 2)) := rF h.1 (q := b + 2) rfl
theorem St_asked (h : isSt sh b) (x : ST) : fR (HP sh x) (.ref b) 7 6 = some (.ref (b + 3)) := rF h.1 (q := b + 3) rfl
theorem St_total (h : isSt sh b) (x : ST) : fR (HP sh x) (.ref b) 7 7 = some (.ref (b + 4)) := rF h.1 (q := b + 4) rfl
theorem St_chains (h : isSt sh b) (x : ST) : fR (HP sh x) (.ref b) 7 8 = some (.ref (b + 5)) := rF h.1 (q := b + 5) rfl
theorem St_at (h : isSt sh b) (x : ST) : fR (HP sh x) (.ref b) 7 9 = some (.ref (b + 6)) := rF h.1 (q := b + 6) rfl
theorem St_before (h : isSt sh b) (x : ST) : fR (HP sh x) (.ref b) 7 10 = some (.ref (b + 7)) := rF h.1 (q := b + 7) rfl
theorem St_is (h : isSt sh b) (x : ST) : iO (HP sh x) (.ref b) 7 = some b := iO_HP h.1
def isTo (sh : List Sh) (b : Nat) : Prop := sh[b]? = some (.inr (9, [(0, 0), (0, 0), (0, 0), (0, 0), (1, 0), (0, 0), (2, b + 1), (2, b + 2), (2, b + 3), (2, b + 4), (2, b + 5)])) ∧ sh[b + 1]? = some (.inl (0, 6)) ∧ sh[b + 2]? = some (.inl (0, 6)) ∧ sh[b + 3]? = some (.inl (0, 5)) ∧ sh[b + 4]? = some (.inl (0, 5)) ∧ sh[b + 5]? = some (.inl (0, 5))
theorem To_places (h : isTo sh b) (x : ST) : fI (HP sh x) (.ref b) 9 0 = some (x.1 b 0) := rI h.1 (q := 0) rfl
theorem Tow_places (h : isTo sh b) (x : ST) (v : Int32) : fP (HP sh x) (.ref b) 9 0 (.int v) = some (HP sh (sI x b 0 v)) := wI' h.1 (q := 0) rfl
theorem To_term (h : isTo sh b) (x : ST) : fI (HP sh x) (.ref b) 9 1 = some (x.1 b 1) := rI h.1 (q := 0) rfl
theorem Tow_term (h : isTo sh b) (x : ST) (v : Int32) : fP (HP sh x) (.ref b) 9 1 (.int v) = some (HP sh (sI x b 1 v)) := wI' h.1 (q := 0) rfl
theorem To_people (h : isTo sh b) (x : ST) : fI (HP sh x) (.ref b) 9 2 = some (x.1 b 2) := rI h.1 (q := 0) rfl
theorem Tow_people (h : isTo sh b) (x : ST) (v : Int32) : fP (HP sh x) (.ref b) 9 2 (.int v) = some (HP sh (sI x b 2 v)) := wI' h.1 (q := 0) rfl
theorem To_strangers (h : isTo sh b) (x : ST) : fI (HP sh x) (.ref b) 9 3 = some (x.1 b 3) := rI h.1 (q := 0) rfl
theorem Tow_strangers (h : isTo sh b) (x : ST) (v : Int32) : fP (HP sh x) (.ref b) 9 3 (.int v) = some (HP sh (sI x b 3 v)) := wI' h.1 (q := 0) rfl
theorem To_streets (h : isTo sh b) (x : ST) : fL (HP sh x) (.ref b) 9 4 = some (x.2.1 b 4) := rJ h.1 (q := 0) rfl
theorem Tow_streets (h : isTo sh b) (x : ST) (v : Int64) : fP (HP sh x) (.ref b) 9 4 (.long v) = some (HP sh (sJL x b 4 v)) := wJ' h.1 (q := 0) rfl
theorem To_wrong (h : isTo sh b) (x : ST) : fI (HP sh x) (.ref b) 9 5 = some (x.1 b 5) := rI h.1 (q := 0) rfl
theorem Tow_wrong (h : isTo sh b) (x : ST) (v : Int32) : fP (HP sh x) (.ref b) 9 5 (.int v) = some (HP sh (sI x b 5 v)) := wI' h.1 (q := 0) rfl
theorem To_place (h : isTo sh b) (x : ST) : fR (HP sh x) (.ref b) 9 6 = some (.ref (b + 1)) := rF h.1 (q := b + 1) rfl
theorem To_kind (h : isTo sh b) (x : ST) : fR (HP sh x) (.ref b) 9 7 = some (.ref (b + 2)) := rF h.1 (q := b + 2) rfl
theorem To_from (h : isTo sh b) (x : ST) : fR (HP sh x) (.ref b) 9 8 = some (.ref (b + 3)) := rF h.1 (q := b + 3) rfl
theorem To_to (h : isTo sh b) (x : ST) : fR (HP sh x) (.ref b) 9 9 = some (.ref (b + 4)) := rF h.1 (q := b + 4) rfl
theorem To_every (h : isTo sh b) (x : ST) : fR (HP sh x) (.ref b) 9 10 = some (.ref (b + 5)) := rF h.1 (q := b + 5) rfl
theorem To_is (h : isTo sh b) (x : ST) : iO (HP sh x) (.ref b) 9 = some b := iO_HP h.1
def isRu (sh : List Sh) (b : Nat) : Prop := sh[b]? = some (.inr (4, [(0, 0), (2, b + 1), (2, b + 2), (0, 0), (2, b + 3), (2, b + 4), (0, 0), (0, 0), (2, b + 5), (2, b + 6)])) ∧ sh[b + 1]? = some (.inl (0, 60)) ∧ sh[b + 2]? = some (.inl (0, 60)) ∧ sh[b + 3]? = some (.inl (0, 60)) ∧ sh[b + 4]? = some (.inl (0, 60)) ∧ sh[b + 5]? = some (.inl (0, 256)) ∧ sh[b + 6]? = some (.inl (0, 256))
theorem Ru_values (h : isRu sh b) (x : ST) : fI (HP sh x) (.ref b) 4 0 = some (x.1 b 0) := rI h.1 (q := 0) rfl
theorem Ruw_values (h : isRu sh b) (x : ST) (v : Int32) : fP (HP sh x) (.ref b) 4 0 (.int v) = some (HP sh (sI x b 0 v)) := wI' h.1 (q := 0) rfl
theorem Ru_join (h : isRu sh b) (x : ST) : fR (HP sh x) (.ref b) 4 1 = some (.ref (b + 1)) := rF h.1 (q := b + 1) rfl
theorem Ru_value (h : isRu sh b) (x : ST) : fR (HP sh x) (.ref b) 4 2 = some (.ref (b + 2)) := rF h.1 (q := b + 2) rfl
theorem Ru_sums (h : isRu sh b) (x : ST) : fI (HP sh x) (.ref b) 4 3 = some (x.1 b 3) := rI h.1 (q := 0) rfl
theorem Ruw_sums (h : isRu sh b) (x : ST) (v : Int32) : fP (HP sh x) (.ref b) 4 3 (.int v) = some (HP sh (sI x b 3 v)) := wI' h.1 (q := 0) rfl
theorem Ru_sumFrom (h : isRu sh b) (x : ST) : fR (HP sh x) (.ref b) 4 4 = some (.ref (b + 3)) := rF h.1 (q := b + 3) rfl
theorem Ru_sumTo (h : isRu sh b) (x : ST) : fR (HP sh x) (.ref b) 4 5 = some (.ref (b + 4)) := rF h.1 (q := b + 4) rfl
theorem Ru_facts (h : isRu sh b) (x : ST) : fI (HP sh x) (.ref b) 4 6 = some (x.1 b 6) := rI h.1 (q := 0) rfl
theorem Ruw_facts (h : isRu sh b) (x : ST) (v : Int32) : fP (HP sh x) (.ref b) 4 6 (.int v) = some (HP sh (sI x b 6 v)) := wI' h.1 (q := 0) rfl
theorem Ru_steps (h : isRu sh b) (x : ST) : fI (HP sh x) (.ref b) 4 7 = some (x.1 b 7) := rI h.1 (q := 0) rfl
theorem Ruw_steps (h : isRu sh b) (x : ST) (v : Int32) : fP (HP sh x) (.ref b) 4 7 (.int v) = some (HP sh (sI x b 7 v)) := wI' h.1 (q := 0) rfl
theorem Ru_step (h : isRu sh b) (x : ST) : fR (HP sh x) (.ref b) 4 8 = some (.ref (b + 5)) := rF h.1 (q := b + 5) rfl
theorem Ru_with (h : isRu sh b) (x : ST) : fR (HP sh x) (.ref b) 4 9 = some (.ref (b + 6)) := rF h.1 (q := b + 6) rfl
theorem Ru_is (h : isRu sh b) (x : ST) : iO (HP sh x) (.ref b) 4 = some b := iO_HP h.1
def isPa (sh : List Sh) (b : Nat) : Prop := sh[b]? = some (.inr (3, [(0, 0), (0, 0), (2, b + 1)])) ∧ sh[b + 1]? = some (.inl (5, 20)) ∧ (∀ i, i < 20 → isSt sh (b + 2 + 8 * i))
theorem Pa_size (h : isPa sh b) (x : ST) : fI (HP sh x) (.ref b) 3 0 = some (x.1 b 0) := rI h.1 (q := 0) rfl
theorem Paw_size (h : isPa sh b) (x : ST) (v : Int32) : fP (HP sh x) (.ref b) 3 0 (.int v) = some (HP sh (sI x b 0 v)) := wI' h.1 (q := 0) rfl
theorem Pa_next (h : isPa sh b) (x : ST) : fI (HP sh x) (.ref b) 3 1 = some (x.1 b 1) := rI h.1 (q := 0) rfl
theorem Paw_next (h : isPa sh b) (x : ST) (v : Int32) : fP (HP sh x) (.ref b) 3 1 (.int v) = some (HP sh (sI x b 1 v)) := wI' h.1 (q := 0) rfl
theorem Pa_kept (h : isPa sh b) (x : ST) : fR (HP sh x) (.ref b) 3 2 = some (.ref (b + 1)) := rF h.1 (q := b + 1) rfl
theorem Pa_is (h : isPa sh b) (x : ST) : iO (HP sh x) (.ref b) 3 = some b := iO_HP h.1
def isTa (sh : List Sh) (b : Nat) : Prop := sh[b]? = some (.inr (8, [(2, b + 1), (0, 0), (0, 0), (0, 0), (0, 0), (0, 0), (0, 0)])) ∧ sh[b + 1]? = some (.inl (0, 400))
theorem Ta_bytes (h : isTa sh b) (x : ST) : fR (HP sh x) (.ref b) 8 0 = some (.ref (b + 1)) := rF h.1 (q := b + 1) rfl
theorem Ta_length (h : isTa sh b) (x : ST) : fI (HP sh x) (.ref b) 8 1 = some (x.1 b 1) := rI h.1 (q := 0) rfl
theorem Taw_length (h : isTa sh b) (x : ST) (v : Int32) : fP (HP sh x) (.ref b) 8 1 (.int v) = some (HP sh (sI x b 1 v)) := wI' h.1 (q := 0) rfl
theorem Ta_kind (h : isTa sh b) (x : ST) : fI (HP sh x) (.ref b) 8 2 = some (x.1 b 2) := rI h.1 (q := 0) rfl
theorem Taw_kind (h : isTa sh b) (x : ST) (v : Int32) : fP (HP sh x) (.ref b) 8 2 (.int v) = some (HP sh (sI x b 2 v)) := wI' h.1 (q := 0) rfl
theorem Ta_taken (h : isTa sh b) (x : ST) : fI (HP sh x) (.ref b) 8 3 = some (x.1 b 3) := rI h.1 (q := 0) rfl
theorem Taw_taken (h : isTa sh b) (x : ST) (v : Int32) : fP (HP sh x) (.ref b) 8 3 (.int v) = some (HP sh (sI x b 3 v)) := wI' h.1 (q := 0) rfl
theorem Ta_fault (h : isTa sh b) (x : ST) : fI (HP sh x) (.ref b) 8 4 = some (x.1 b 4) := rI h.1 (q := 0) rfl
theorem Taw_fault (h : isTa sh b) (x : ST) (v : Int32) : fP (HP sh x) (.ref b) 8 4 (.int v) = some (HP sh (sI x b 4 v)) := wI' h.1 (q := 0) rfl
theorem Ta_start (h : isTa sh b) (x : ST) : fI (HP sh x) (.ref b) 8 5 = some (x.1 b 5) := rI h.1 (q := 0) rfl
theorem Taw_start (h : isTa sh b) (x : ST) (v : Int32) : fP (HP sh x) (.ref b) 8 5 (.int v) = some (HP sh (sI x b 5 v)) := wI' h.1 (q := 0) rfl
theorem Ta_behind (h : isTa sh b) (x : ST) : fI (HP sh x) (.ref b) 8 6 = some (x.1 b 6) := rI h.1 (q := 0) rfl
theorem Taw_behind (h : isTa sh b) (x : ST) (v : Int32) : fP (HP sh x) (.ref b) 8 6 (.int v) = some (HP sh (sI x b 6 v)) := wI' h.1 (q := 0) rfl
theorem Ta_is (h : isTa sh b) (x : ST) : iO (HP sh x) (.ref b) 8 = some b := iO_HP h.1
def isSc (sh : List Sh) (b : Nat) : Prop := sh[b]? = some (.inr (6, [(3, 0), (2, b + 7), (2, b + 15), (0, 0), (0, 0), (0, 0), (2, b + 177), (2, b + 178), (2, b + 179)])) ∧ sh[b + 177]? = some (.inl (0, 10)) ∧ sh[b + 178]? = some (.inl (0, 10)) ∧ sh[b + 179]? = some (.inl (0, 10)) ∧ isSt sh (b + 7) ∧ isPa sh (b + 15)
theorem Sc_town (h : isSc sh b) (x : ST) (hv : isR (x.2.2.1 b 0) = true) : fR (HP sh x) (.ref b) 6 0 = some (x.2.2.1 b 0) := rR h.1 (q := 0) rfl hv
theorem Scw_town (h : isSc sh b) (x : ST) (v : Value) : fP (HP sh x) (.ref b) 6 0 v = some (HP sh (sR x b 0 v)) := wR' h.1 (q := 0) rfl
theorem Sc_state (h : isSc sh b) (x : ST) : fR (HP sh x) (.ref b) 6 1 = some (.ref (b + 7)) := rF h.1 (q := b + 7) rfl
theorem Sc_past (h : isSc sh b) (x : ST) : fR (HP sh x) (.ref b) 6 2 = some (.ref (b + 15)) := rF h.1 (q := b + 15) rfl
theorem Sc_force (h : isSc sh b) (x : ST) : fI (HP sh x) (.ref b) 6 3 = some (x.1 b 3) := rI h.1 (q := 0) rfl
theorem Scw_force (h : isSc sh b) (x : ST) (v : Int32) : fP (HP sh x) (.ref b) 6 3 (.int v) = some (HP sh (sI x b 3 v)) := wI' h.1 (q := 0) rfl
theorem Sc_x (h : isSc sh b) (x : ST) : fI (HP sh x) (.ref b) 6 4 = some (x.1 b 4) := rI h.1 (q := 0) rfl
theorem Scw_x (h : isSc sh b) (x : ST) (v : Int32) : fP (HP sh x) (.ref b) 6 4 (.int v) = some (HP sh (sI x b 4 v)) := wI' h.1 (q := 0) rfl
theorem Sc_notes (h : isSc sh b) (x : ST) : fI (HP sh x) (.ref b) 6 5 = some (x.1 b 5) := rI h.1 (q := 0) rfl
theorem Scw_notes (h : isSc sh b) (x : ST) (v : Int32) : fP (HP sh x) (.ref b) 6 5 (.int v) = some (HP sh (sI x b 5 v)) := wI' h.1 (q := 0) rfl
theorem Sc_noteHour (h : isSc sh b) (x : ST) : fR (HP sh x) (.ref b) 6 6 = some (.ref (b + 177)) := rF h.1 (q := b + 177) rfl
theorem Sc_noteStranger (h : isSc sh b) (x : ST) : fR (HP sh x) (.ref b) 6 7 = some (.ref (b + 178)) := rF h.1 (q := b + 178) rfl
theorem Sc_notePerson (h : isSc sh b) (x : ST) : fR (HP sh x) (.ref b) 6 8 = some (.ref (b + 179)) := rF h.1 (q := b + 179) rfl
theorem Sc_is (h : isSc sh b) (x : ST) : iO (HP sh x) (.ref b) 6 = some b := iO_HP h.1
def isCk (sh : List Sh) (b : Nat) : Prop := sh[b]? = some (.inr (0, [(2, b + 1), (2, b + 3), (2, b + 4), (3, 0), (3, 0), (0, 0)])) ∧ sh[b + 3]? = some (.inl (0, 5)) ∧ sh[b + 4]? = some (.inl (0, 12)) ∧ isWays sh (b + 1)
theorem Ck_ways (h : isCk sh b) (x : ST) : fR (HP sh x) (.ref b) 0 0 = some (.ref (b + 1)) := rF h.1 (q := b + 1) rfl
theorem Ck_whom (h : isCk sh b) (x : ST) : fR (HP sh x) (.ref b) 0 1 = some (.ref (b + 3)) := rF h.1 (q := b + 3) rfl
theorem Ck_words (h : isCk sh b) (x : ST) : fR (HP sh x) (.ref b) 0 2 = some (.ref (b + 4)) := rF h.1 (q := b + 4) rfl
theorem Ck_town (h : isCk sh b) (x : ST) (hv : isR (x.2.2.1 b 3) = true) : fR (HP sh x) (.ref b) 0 3 = some (x.2.2.1 b 3) := rR h.1 (q := 0) rfl hv
theorem Ckw_town (h : isCk sh b) (x : ST) (v : Value) : fP (HP sh x) (.ref b) 0 3 v = some (HP sh (sR x b 3 v)) := wR' h.1 (q := 0) rfl
theorem Ck_rule (h : isCk sh b) (x : ST) (hv : isR (x.2.2.1 b 4) = true) : fR (HP sh x) (.ref b) 0 4 = some (x.2.2.1 b 4) := rR h.1 (q := 0) rfl hv
theorem Ckw_rule (h : isCk sh b) (x : ST) (v : Value) : fP (HP sh x) (.ref b) 0 4 v = some (HP sh (sR x b 4 v)) := wR' h.1 (q := 0) rfl
theorem Ck_wrong (h : isCk sh b) (x : ST) : fI (HP sh x) (.ref b) 0 5 = some (x.1 b 5) := rI h.1 (q := 0) rfl
theorem Ckw_wrong (h : isCk sh b) (x : ST) (v : Int32) : fP (HP sh x) (.ref b) 0 5 (.int v) = some (HP sh (sI x b 5 v)) := wI' h.1 (q := 0) rfl
theorem Ck_is (h : isCk sh b) (x : ST) : iO (HP sh x) (.ref b) 0 = some b := iO_HP h.1
def isWM (sh : List Sh) (b : Nat) : Prop := sh[b]? = some (.inr (12, [(2, 1), (2, 194), (2, 195), (2, 196), (0, 0), (3, 0), (2, 3), (2, 204), (2, 183), (2, 205), (2, 249)]))
theorem WM_tape (h : isWM sh b) (x : ST) : fR (HP sh x) (.ref b) 12 0 = some (.ref (1)) := rF h (q := 1) rfl
theorem WM_townReader (h : isWM sh b) (x : ST) : fR (HP sh x) (.ref b) 12 1 = some (.ref (194)) := rF h (q := 194) rfl
theorem WM_ruleReader (h : isWM sh b) (x : ST) : fR (HP sh x) (.ref b) 12 2 = some (.ref (195)) := rF h (q := 195) rfl
theorem WM_rules (h : isWM sh b) (x : ST) : fR (HP sh x) (.ref b) 12 3 = some (.ref (196)) := rF h (q := 196) rfl
theorem WM_ruleCount (h : isWM sh b) (x : ST) : fI (HP sh x) (.ref b) 12 4 = some (x.1 b 4) := rI h (q := 0) rfl
theorem WMw_ruleCount (h : isWM sh b) (x : ST) (v : Int32) : fP (HP sh x) (.ref b) 12 4 (.int v) = some (HP sh (sI x b 4 v)) := wI' h (q := 0) rfl
theorem WM_blankRule (h : isWM sh b) (x : ST) (hv : isR (x.2.2.1 b 5) = true) : fR (HP sh x) (.ref b) 12 5 = some (x.2.2.1 b 5) := rR h (q := 0) rfl hv
theorem WMw_blankRule (h : isWM sh b) (x : ST) (v : Value) : fP (HP sh x) (.ref b) 12 5 v = some (HP sh (sR x b 5 v)) := wR' h (q := 0) rfl
theorem WM_now (h : isWM sh b) (x : ST) : fR (HP sh x) (.ref b) 12 6 = some (.ref (3)) := rF h (q := 3) rfl
theorem WM_images (h : isWM sh b) (x : ST) : fR (HP sh x) (.ref b) 12 7 = some (.ref (204)) := rF h (q := 204) rfl
theorem WM_clock (h : isWM sh b) (x : ST) : fR (HP sh x) (.ref b) 12 8 = some (.ref (183)) := rF h (q := 183) rfl
theorem WM_outlook (h : isWM sh b) (x : ST) : fR (HP sh x) (.ref b) 12 9 = some (.ref (205)) := rF h (q := 205) rfl
theorem WM_history (h : isWM sh b) (x : ST) : fR (HP sh x) (.ref b) 12 10 = some (.ref (249)) := rF h (q := 249) rfl
theorem WM_is (h : isWM sh b) (x : ST) : iO (HP sh x) (.ref b) 12 = some b := iO_HP h
def isTR (sh : List Sh) (b : Nat) : Prop := sh[b]? = some (.inr (10, [(2, 1)]))
theorem TR_tape (h : isTR sh b) (x : ST) : fR (HP sh x) (.ref b) 10 0 = some (.ref (1)) := rF h (q := 1) rfl
theorem TR_is (h : isTR sh b) (x : ST) : iO (HP sh x) (.ref b) 10 = some b := iO_HP h
def isRR (sh : List Sh) (b : Nat) : Prop := sh[b]? = some (.inr (5, [(2, 1), (3, 0)]))
theorem RR_tape (h : isRR sh b) (x : ST) : fR (HP sh x) (.ref b) 5 0 = some (.ref (1)) := rF h (q := 1) rfl
theorem RR_rule (h : isRR sh b) (x : ST) (hv : isR (x.2.2.1 b 1) = true) : fR (HP sh x) (.ref b) 5 1 = some (x.2.2.1 b 1) := rR h (q := 0) rfl hv
theorem RRw_rule (h : isRR sh b) (x : ST) (v : Value) : fP (HP sh x) (.ref b) 5 1 v = some (HP sh (sR x b 1 v)) := wR' h (q := 0) rfl
theorem RR_is (h : isRR sh b) (x : ST) : iO (HP sh x) (.ref b) 5 = some b := iO_HP h
def isOl (sh : List Sh) (b : Nat) : Prop := sh[b]? = some (.inr (2, [(2, 3), (2, 183), (2, b + 1), (2, b + 9), (2, b + 10), (2, b + 11), (0, 0), (0, 0), (0, 0), (0, 0), (0, 0)])) ∧ isSt sh (b + 1) ∧ sh[b + 9]? = some (.inl (5, 4)) ∧ sh[b + 10]? = some (.inl (0, 64)) ∧ sh[b + 11]? = some (.inl (0, 64)) ∧ isSt sh (b + 12) ∧ isSt sh (b + 20) ∧ isSt sh (b + 28) ∧ isSt sh (b + 36)
theorem Ol_now (h : isOl sh b) (x : ST) : fR (HP sh x) (.ref b) 2 0 = some (.ref (3)) := rF h.1 (q := 3) rfl
theorem Ol_clock (h : isOl sh b) (x : ST) : fR (HP sh x) (.ref b) 2 1 = some (.ref (183)) := rF h.1 (q := 183) rfl
theorem Ol_trial (h : isOl sh b) (x : ST) : fR (HP sh x) (.ref b) 2 2 = some (.ref (b + 1)) := rF h.1 (q := b + 1) rfl
theorem Ol_turns (h : isOl sh b) (x : ST) : fR (HP sh x) (.ref b) 2 3 = some (.ref (b + 9)) := rF h.1 (q := b + 9) rfl
theorem Ol_gainOfOne (h : isOl sh b) (x : ST) : fR (HP sh x) (.ref b) 2 4 = some (.ref (b + 10)) := rF h.1 (q := b + 10) rfl
theorem Ol_gainOfOther (h : isOl sh b) (x : ST) : fR (HP sh x) (.ref b) 2 5 = some (.ref (b + 11)) := rF h.1 (q := b + 11) rfl
theorem Ol_one (h : isOl sh b) (x : ST) : fI (HP sh x) (.ref b) 2 6 = some (x.1 b 6) := rI h.1 (q := 0) rfl
theorem Olw_one (h : isOl sh b) (x : ST) (v : Int32) : fP (HP sh x) (.ref b) 2 6 (.int v) = some (HP sh (sI x b 6 v)) := wI' h.1 (q := 0) rfl
theorem Ol_other (h : isOl sh b) (x : ST) : fI (HP sh x) (.ref b) 2 7 = some (x.1 b 7) := rI h.1 (q := 0) rfl
theorem Olw_other (h : isOl sh b) (x : ST) (v : Int32) : fP (HP sh x) (.ref b) 2 7 (.int v) = some (HP sh (sI x b 7 v)) := wI' h.1 (q := 0) rfl
theorem Ol_turnCount (h : isOl sh b) (x : ST) : fI (HP sh x) (.ref b) 2 8 = some (x.1 b 8) := rI h.1 (q := 0) rfl
theorem Olw_turnCount (h : isOl sh b) (x : ST) (v : Int32) : fP (HP sh x) (.ref b) 2 8 (.int v) = some (HP sh (sI x b 8 v)) := wI' h.1 (q := 0) rfl
theorem Ol_firstMove (h : isOl sh b) (x : ST) : fI (HP sh x) (.ref b) 2 9 = some (x.1 b 9) := rI h.1 (q := 0) rfl
theorem Olw_firstMove (h : isOl sh b) (x : ST) (v : Int32) : fP (HP sh x) (.ref b) 2 9 (.int v) = some (HP sh (sI x b 9 v)) := wI' h.1 (q := 0) rfl
theorem Ol_x (h : isOl sh b) (x : ST) : fI (HP sh x) (.ref b) 2 10 = some (x.1 b 10) := rI h.1 (q := 0) rfl
theorem Olw_x (h : isOl sh b) (x : ST) (v : Int32) : fP (HP sh x) (.ref b) 2 10 (.int v) = some (HP sh (sI x b 10 v)) := wI' h.1 (q := 0) rfl
theorem Ol_is (h : isOl sh b) (x : ST) : iO (HP sh x) (.ref b) 2 = some b := iO_HP h.1
def isHi (sh : List Sh) (b : Nat) : Prop := sh[b]? = some (.inr (1, [(2, 3), (2, 183), (2, b + 1), (2, b + 9)])) ∧ isSt sh (b + 1) ∧ sh[b + 9]? = some (.inl (0, 35))
theorem Hi_now (h : isHi sh b) (x : ST) : fR (HP sh x) (.ref b) 1 0 = some (.ref (3)) := rF h.1 (q := 3) rfl
theorem Hi_clock (h : isHi sh b) (x : ST) : fR (HP sh x) (.ref b) 1 1 = some (.ref (183)) := rF h.1 (q := 183) rfl
theorem Hi_trial (h : isHi sh b) (x : ST) : fR (HP sh x) (.ref b) 1 2 = some (.ref (b + 1)) := rF h.1 (q := b + 1) rfl
theorem Hi_answers (h : isHi sh b) (x : ST) : fR (HP sh x) (.ref b) 1 3 = some (.ref (b + 9)) := rF h.1 (q := b + 9) rfl
theorem Hi_is (h : isHi sh b) (x : ST) : iO (HP sh x) (.ref b) 1 = some b := iO_HP h.1
end ACC
