section NOTESX
variable {L : Nat} {xs : Nat → Int32} {W : WD}
theorem nI_m1lt {l h : Nat} (hl : l < 2 ^ 30) (hh : h < 2 ^ 30) : nI l - 1 < nI h ↔ l ≤ h := by
  rw [Int32.lt_iff_toInt_lt, nI_m1i (by omega), nI_toInt (by omega)]
  omega
section
variable {sh : List Sh} {z : ST} {s : SV} {R : Option ((Nat → Int32) → Int64)} {wr : Int32}
theorem Q_beg (d : Nat) {b : Nat} (hb : trq b) (h : QT L xs sh W b R wr z s) : ∃ (t : Nat) (z' : ST), fR (HP sh z) (.ref 3) 6 0 = some (.ref t) ∧ cV (ZZ L xs) (d + 2) mX7_begin [.ref b, .ref t] (HP sh z) = some (HP sh z') ∧ Off (fun o => b ≤ o ∧ o < b + 8) z z' ∧ QT L xs sh W b R wr z' (begW W.2.1.1.1) := by
  obtain ⟨t, t1, t2, t3, t0, t4⟩ := X_town h.1
  have ho : Off (fun o => b ≤ o ∧ o < b + 8) z (pSt z b (begW (gTo z t))) := Off_pSt (Off_refl _ _) (by intro o q1 q2; omega) _
  refine ⟨t, pSt z b (begW (gTo z t)), t4, v_begin d (isSt_trq h.1.1 hb) t1 (by unfold trq at hb; omega) z, ho, QT_of hb h (Off_mono ho (fun o q => Or.inl q)) ?_ ?_⟩
  · rw [gCk_Dt hb ho]
    exact h.1.2.2.1
  · rw [t3]
    exact SQ_pSt _ _ _
theorem X_notes (hx : XI L xs sh z W) : z.1 3 5 = nI W.2.1.2.2.2.2.1 ∧ ∀ j, j < 3 → ∀ i, i < W.2.1.2.2.2.2.1 → z.2.2.2.1 (3 + 177 + j) i = W.2.1.2.2.2.2.2 j i := hx.2.2.2.2.1.2.2.2.2.2.2
theorem i_notes (d : Nat) (hv : VW W) (h : QT L xs sh W 250 R wr z s) : ∃ (z' : ST) (s' : SV), cI (ZZ L xs) (d + 5) mX1_notesAreSo [.ref 249] (HP sh z) = some (HP sh z', fiV W R wr) ∧ Off (Dt 250) z z' ∧ QT L xs sh W 250 R wr z' s' := by
  have h5 : W.2.1.1.2.2.2 ≤ 5 := hv.2.1.1.1.1.2.2.2
  have hnn : W.2.1.2.2.2.2.1 ≤ 10 := hv.2.1.1.2.2.2.2.1
  have hb : trq 250 := Or.inr (Or.inr (Or.inr (Or.inr (Or.inr rfl))))
  have hS : isSc sh 3 := h.1.1.1.2.2.1
  have hC : isCk sh 183 := h.1.1.1.2.2.2
  have hH : isHi sh 249 := h.1.1.2.2.2.1
  have hB : isSt sh 250 := hH.2.1
  -- the last hour that is noted
  have last : ∀ (f i : Nat), f + i = W.2.1.2.2.2.2.1 → ∀ (l : Nat) (u3 : Option Value), l ≤ 61 → (∀ j, j < i → noH W j < l) → ∃ l', l' ≤ 61 ∧ (∀ j, j < W.2.1.2.2.2.2.1 → noH W j < l') ∧ RS (ZZ L xs) (d + 5) mX1_notesAreSo 4 [some (.ref 249), some (.int (nI l - 1)), some (.int (nI i)), u3] [] (HP sh z) = RS (ZZ L xs) (d + 5) mX1_notesAreSo 4 [some (.ref 249), some (.int (nI l' - 1)), some (.int (nI W.2.1.2.2.2.2.1)), none] [] (HP sh z) := by
    intro f
    induction f with
    | zero =>
      intro i hi l u3 hl hj
      refine ⟨l, hl, fun j h => hj j (by omega), ?_⟩
      have : i = W.2.1.2.2.2.2.1 := by omega
      rw [this, bX1_notesAreSo_4, bX1_notesAreSo_4]
    | succ f ih =>
      intro i hi l u3 hl hj
      obtain ⟨n1, n2, n3, n4⟩ := no_n hv (i := i) (by omega)
      obtain ⟨x1, x2⟩ := X_notes h.1
      have r0 : z.2.2.2.1 180 i = nI (noH W i) := (x2 0 (by decide) i (by omega)).trans n1
      by_cases e : l ≤ noH W i
      · obtain ⟨l', p1, p2, p3⟩ := ih (i + 1) (by omega) (noH W i + 1) none (by omega) (fun j hj2 => by
          by_cases q : j = i
          · rw [q]
            omega
          · have := hj j (by omega)
            omega)
        refine ⟨l', p1, p2, ?_⟩
        rw [bX1_notesAreSo_4]
        simp (disch := omega) only [Hi_now hH, Hi_clock hH, Hi_trial hH, Hi_answers hH, Hi_is hH, Hie_answers hH, Hiu_answers hH, Sc_state hS, Sc_past hS, Sc_force hS, Sc_x hS, Sc_notes hS, Sc_noteHour hS, Sc_noteStranger hS, Sc_notePerson hS, Scw_town hS, Scw_force hS, Scw_x hS, Scw_notes hS, Sc_is hS, Sce_noteHour hS, Sce_noteStranger hS, Sce_notePerson hS, Scu_noteHour hS, Scu_noteStranger hS, Scu_notePerson hS, St_hour hB, St_chain hB, St_come hB, St_open hB, St_place hB, St_kind hB, St_asked hB, St_total hB, St_chains hB, St_at hB, St_before hB, Stw_hour hB, Stw_chain hB, Stw_come hB, Stw_open hB, St_is hB, Ste_place hB, Ste_kind hB, Ste_asked hB, Ste_total hB, Ste_chains hB, Ste_at hB, Ste_before hB, Stu_place hB, Stu_kind hB, Stu_asked hB, Stu_total hB, Stu_chains hB, Stu_at hB, Stu_before hB, Ck_ways hC, Ck_whom hC, Ck_words hC, Ck_wrong hC, Ckw_town hC, Ckw_rule hC, Ckw_wrong hC, Ck_is hC, Cke_whom hC, Cke_words hC, Cku_whom hC, Cku_words hC, some_bind', x1]
        rw [if_neg (nI_ge (by omega) (by omega))]
        simp (disch := omega) only [Hi_now hH, Hi_clock hH, Hi_trial hH, Hi_answers hH, Hi_is hH, Hie_answers hH, Hiu_answers hH, Sc_state hS, Sc_past hS, Sc_force hS, Sc_x hS, Sc_notes hS, Sc_noteHour hS, Sc_noteStranger hS, Sc_notePerson hS, Scw_town hS, Scw_force hS, Scw_x hS, Scw_notes hS, Sc_is hS, Sce_noteHour hS, Sce_noteStranger hS, Sce_notePerson hS, Scu_noteHour hS, Scu_noteStranger hS, Scu_notePerson hS, St_hour hB, St_chain hB, St_come hB, St_open hB, St_place hB, St_kind hB, St_asked hB, St_total hB, St_chains hB, St_at hB, St_before hB, Stw_hour hB, Stw_chain hB, Stw_come hB, Stw_open hB, St_is hB, Ste_place hB, Ste_kind hB, Ste_asked hB, Ste_total hB, Ste_chains hB, Ste_at hB, Ste_before hB, Stu_place hB, Stu_kind hB, Stu_asked hB, Stu_total hB, Stu_chains hB, Stu_at hB, Stu_before hB, Ck_ways hC, Ck_whom hC, Ck_words hC, Ck_wrong hC, Ckw_town hC, Ckw_rule hC, Ckw_wrong hC, Ck_is hC, Cke_whom hC, Cke_words hC, Cku_whom hC, Cku_words hC, some_bind', r0]
        rw [if_pos ((nI_m1lt (by omega) (by omega)).mpr e), nI_1, ← p3, nI_pred]
      · obtain ⟨l', p1, p2, p3⟩ := ih (i + 1) (by omega) l none hl (fun j hj2 => by
          by_cases q : j = i
          · rw [q]
            omega
          · exact hj j (by omega))
        refine ⟨l', p1, p2, ?_⟩
        rw [bX1_notesAreSo_4]
        simp (disch := omega) only [Hi_now hH, Hi_clock hH, Hi_trial hH, Hi_answers hH, Hi_is hH, Hie_answers hH, Hiu_answers hH, Sc_state hS, Sc_past hS, Sc_force hS, Sc_x hS, Sc_notes hS, Sc_noteHour hS, Sc_noteStranger hS, Sc_notePerson hS, Scw_town hS, Scw_force hS, Scw_x hS, Scw_notes hS, Sc_is hS, Sce_noteHour hS, Sce_noteStranger hS, Sce_notePerson hS, Scu_noteHour hS, Scu_noteStranger hS, Scu_notePerson hS, St_hour hB, St_chain hB, St_come hB, St_open hB, St_place hB, St_kind hB, St_asked hB, St_total hB, St_chains hB, St_at hB, St_before hB, Stw_hour hB, Stw_chain hB, Stw_come hB, Stw_open hB, St_is hB, Ste_place hB, Ste_kind hB, Ste_asked hB, Ste_total hB, Ste_chains hB, Ste_at hB, Ste_before hB, Stu_place hB, Stu_kind hB, Stu_asked hB, Stu_total hB, Stu_chains hB, Stu_at hB, Stu_before hB, Ck_ways hC, Ck_whom hC, Ck_words hC, Ck_wrong hC, Ckw_town hC, Ckw_rule hC, Ckw_wrong hC, Ck_is hC, Cke_whom hC, Cke_words hC, Cku_whom hC, Cku_words hC, some_bind', x1]
        rw [if_neg (nI_ge (by omega) (by omega))]
        simp (disch := omega) only [Hi_now hH, Hi_clock hH, Hi_trial hH, Hi_answers hH, Hi_is hH, Hie_answers hH, Hiu_answers hH, Sc_state hS, Sc_past hS, Sc_force hS, Sc_x hS, Sc_notes hS, Sc_noteHour hS, Sc_noteStranger hS, Sc_notePerson hS, Scw_town hS, Scw_force hS, Scw_x hS, Scw_notes hS, Sc_is hS, Sce_noteHour hS, Sce_noteStranger hS, Sce_notePerson hS, Scu_noteHour hS, Scu_noteStranger hS, Scu_notePerson hS, St_hour hB, St_chain hB, St_come hB, St_open hB, St_place hB, St_kind hB, St_asked hB, St_total hB, St_chains hB, St_at hB, St_before hB, Stw_hour hB, Stw_chain hB, Stw_come hB, Stw_open hB, St_is hB, Ste_place hB, Ste_kind hB, Ste_asked hB, Ste_total hB, Ste_chains hB, Ste_at hB, Ste_before hB, Stu_place hB, Stu_kind hB, Stu_asked hB, Stu_total hB, Stu_chains hB, Stu_at hB, Stu_before hB, Ck_ways hC, Ck_whom hC, Ck_words hC, Ck_wrong hC, Ckw_town hC, Ckw_rule hC, Ckw_wrong hC, Ck_is hC, Cke_whom hC, Cke_words hC, Cku_whom hC, Cku_words hC, some_bind', r0]
        rw [if_neg (fun q => e ((nI_m1lt (by omega) (by omega)).mp q)), nI_1, ← p3]
  obtain ⟨l, l1, l2, l3⟩ := last W.2.1.2.2.2.2.1 0 (by omega) 0 none (by omega) (fun j hj => absurd hj (by omega))
  -- the notes of an hour
  have inner : ∀ (f i : Nat), f + i = W.2.1.2.2.2.2.1 → ∀ (z1 : ST) (s1 : SV) (hh : Nat), hh ≤ 60 → QT L xs sh W 250 R wr z1 s1 → (∀ k, k < W.2.1.1.2.2.2 → z1.2.2.2.1 186 k = noW W R wr hh k) → (∀ j, j < i → noH W j = hh → noO W R wr j) → (RS (ZZ L xs) (d + 5) mX1_notesAreSo 70 [some (.ref 249), some (.int (nI l - 1)), some (.int (nI hh)), some (.int (nI i))] [] (HP sh z1) = some (HP sh z1, some (.int (fiV W R wr)))) ∨ ((∀ j, j < W.2.1.2.2.2.2.1 → noH W j = hh → noO W R wr j) ∧ ∃ u3 : Option Value, RS (ZZ L xs) (d + 5) mX1_notesAreSo 70 [some (.ref 249), some (.int (nI l - 1)), some (.int (nI hh)), some (.int (nI i))] [] (HP sh z1) = RS (ZZ L xs) (d + 5) mX1_notesAreSo 51 [some (.ref 249), some (.int (nI l - 1)), some (.int (nI (hh + 1))), u3] [] (HP sh z1)) := by
    intro f
    induction f with
    | zero =>
      intro i hi z1 s1 hh hhl q hw hj
      obtain ⟨x1, x2⟩ := X_notes q.1
      refine Or.inr ⟨fun j h1 h2 => hj j (by omega) h2, some (.int (nI i)), ?_⟩
      rw [bX1_notesAreSo_70]
      simp (disch := omega) only [Hi_now hH, Hi_clock hH, Hi_trial hH, Hi_answers hH, Hi_is hH, Hie_answers hH, Hiu_answers hH, Sc_state hS, Sc_past hS, Sc_force hS, Sc_x hS, Sc_notes hS, Sc_noteHour hS, Sc_noteStranger hS, Sc_notePerson hS, Scw_town hS, Scw_force hS, Scw_x hS, Scw_notes hS, Sc_is hS, Sce_noteHour hS, Sce_noteStranger hS, Sce_notePerson hS, Scu_noteHour hS, Scu_noteStranger hS, Scu_notePerson hS, St_hour hB, St_chain hB, St_come hB, St_open hB, St_place hB, St_kind hB, St_asked hB, St_total hB, St_chains hB, St_at hB, St_before hB, Stw_hour hB, Stw_chain hB, Stw_come hB, Stw_open hB, St_is hB, Ste_place hB, Ste_kind hB, Ste_asked hB, Ste_total hB, Ste_chains hB, Ste_at hB, Ste_before hB, Stu_place hB, Stu_kind hB, Stu_asked hB, Stu_total hB, Stu_chains hB, Stu_at hB, Stu_before hB, Ck_ways hC, Ck_whom hC, Ck_words hC, Ck_wrong hC, Ckw_town hC, Ckw_rule hC, Ckw_wrong hC, Ck_is hC, Cke_whom hC, Cke_words hC, Cku_whom hC, Cku_words hC, some_bind', x1]
      rw [if_pos (nI_le (by omega) (by omega)), nI_1]
    | succ f ih =>
      intro i hi z1 s1 hh hhl q hw hj
      obtain ⟨x1, x2⟩ := X_notes q.1
      obtain ⟨n1, n2, n3, n4⟩ := no_n hv (i := i) (by omega)
      have r0 : z1.2.2.2.1 180 i = nI (noH W i) := (x2 0 (by decide) i (by omega)).trans n1
      have r1 : z1.2.2.2.1 181 i = nI (noG W i) := (x2 1 (by decide) i (by omega)).trans n3
      have r2 : z1.2.2.2.1 182 i = W.2.1.2.2.2.2.2 2 i := x2 2 (by decide) i (by omega)
      have hwg := hw _ n4
      rw [bX1_notesAreSo_70]
      simp (disch := omega) only [Hi_now hH, Hi_clock hH, Hi_trial hH, Hi_answers hH, Hi_is hH, Hie_answers hH, Hiu_answers hH, Sc_state hS, Sc_past hS, Sc_force hS, Sc_x hS, Sc_notes hS, Sc_noteHour hS, Sc_noteStranger hS, Sc_notePerson hS, Scw_town hS, Scw_force hS, Scw_x hS, Scw_notes hS, Sc_is hS, Sce_noteHour hS, Sce_noteStranger hS, Sce_notePerson hS, Scu_noteHour hS, Scu_noteStranger hS, Scu_notePerson hS, St_hour hB, St_chain hB, St_come hB, St_open hB, St_place hB, St_kind hB, St_asked hB, St_total hB, St_chains hB, St_at hB, St_before hB, Stw_hour hB, Stw_chain hB, Stw_come hB, Stw_open hB, St_is hB, Ste_place hB, Ste_kind hB, Ste_asked hB, Ste_total hB, Ste_chains hB, Ste_at hB, Ste_before hB, Stu_place hB, Stu_kind hB, Stu_asked hB, Stu_total hB, Stu_chains hB, Stu_at hB, Stu_before hB, Ck_ways hC, Ck_whom hC, Ck_words hC, Ck_wrong hC, Ckw_town hC, Ckw_rule hC, Ckw_wrong hC, Ck_is hC, Cke_whom hC, Cke_words hC, Cku_whom hC, Cku_words hC, some_bind', x1]
      rw [if_neg (nI_ge (by omega) (by omega))]
      simp (disch := omega) only [Hi_now hH, Hi_clock hH, Hi_trial hH, Hi_answers hH, Hi_is hH, Hie_answers hH, Hiu_answers hH, Sc_state hS, Sc_past hS, Sc_force hS, Sc_x hS, Sc_notes hS, Sc_noteHour hS, Sc_noteStranger hS, Sc_notePerson hS, Scw_town hS, Scw_force hS, Scw_x hS, Scw_notes hS, Sc_is hS, Sce_noteHour hS, Sce_noteStranger hS, Sce_notePerson hS, Scu_noteHour hS, Scu_noteStranger hS, Scu_notePerson hS, St_hour hB, St_chain hB, St_come hB, St_open hB, St_place hB, St_kind hB, St_asked hB, St_total hB, St_chains hB, St_at hB, St_before hB, Stw_hour hB, Stw_chain hB, Stw_come hB, Stw_open hB, St_is hB, Ste_place hB, Ste_kind hB, Ste_asked hB, Ste_total hB, Ste_chains hB, Ste_at hB, Ste_before hB, Stu_place hB, Stu_kind hB, Stu_asked hB, Stu_total hB, Stu_chains hB, Stu_at hB, Stu_before hB, Ck_ways hC, Ck_whom hC, Ck_words hC, Ck_wrong hC, Ckw_town hC, Ckw_rule hC, Ckw_wrong hC, Ck_is hC, Cke_whom hC, Cke_words hC, Cku_whom hC, Cku_words hC, some_bind', r0]
      by_cases e : noH W i = hh
      · rw [if_neg (fun z => z (by rw [e]))]
        simp (disch := omega) only [Hi_now hH, Hi_clock hH, Hi_trial hH, Hi_answers hH, Hi_is hH, Hie_answers hH, Hiu_answers hH, Sc_state hS, Sc_past hS, Sc_force hS, Sc_x hS, Sc_notes hS, Sc_noteHour hS, Sc_noteStranger hS, Sc_notePerson hS, Scw_town hS, Scw_force hS, Scw_x hS, Scw_notes hS, Sc_is hS, Sce_noteHour hS, Sce_noteStranger hS, Sce_notePerson hS, Scu_noteHour hS, Scu_noteStranger hS, Scu_notePerson hS, St_hour hB, St_chain hB, St_come hB, St_open hB, St_place hB, St_kind hB, St_asked hB, St_total hB, St_chains hB, St_at hB, St_before hB, Stw_hour hB, Stw_chain hB, Stw_come hB, Stw_open hB, St_is hB, Ste_place hB, Ste_kind hB, Ste_asked hB, Ste_total hB, Ste_chains hB, Ste_at hB, Ste_before hB, Stu_place hB, Stu_kind hB, Stu_asked hB, Stu_total hB, Stu_chains hB, Stu_at hB, Stu_before hB, Ck_ways hC, Ck_whom hC, Ck_words hC, Ck_wrong hC, Ckw_town hC, Ckw_rule hC, Ckw_wrong hC, Ck_is hC, Cke_whom hC, Cke_words hC, Cku_whom hC, Cku_words hC, some_bind', r1, r2, hwg]
        by_cases ok : noO W R wr i
        · rw [if_pos (show noW W R wr hh (noG W i) = _ by rw [← e]; exact ok), bX1_notesAreSo_125, nI_1]
          exact ih (i + 1) (by omega) z1 s1 hh hhl q hw (fun j h1 h2 => by
            by_cases qq : j = i
            · rw [qq]
              exact ok
            · exact hj j (by omega) h2)
        · refine Or.inl ?_
          rw [if_neg (show ¬ noW W R wr hh (noG W i) = _ by rw [← e]; exact ok), if_pos (by decide), show fiV W R wr = 0 from fiF_0 ok _ 0 (Nat.zero_le _) (by omega)]
      · rw [if_pos (fun z => e ((nI_eq (by omega) (by omega)).mp z)), bX1_notesAreSo_125, nI_1]
        exact ih (i + 1) (by omega) z1 s1 hh hhl q hw (fun j h1 h2 => by
          by_cases qq : j = i
          · rw [qq] at h2
            exact absurd h2 e
          · exact hj j (by omega) h2)
  have outer : ∀ (f hh : Nat), f + hh = l → ∀ (z1 : ST) (u3 : Option Value), QT L xs sh W 250 R wr z1 (noS W R wr hh) → (∀ j, j < W.2.1.2.2.2.2.1 → noH W j < hh → noO W R wr j) → ∃ (z' : ST) (s' : SV), RS (ZZ L xs) (d + 5) mX1_notesAreSo 51 [some (.ref 249), some (.int (nI l - 1)), some (.int (nI hh)), u3] [] (HP sh z1) = some (HP sh z', some (.int (fiV W R wr))) ∧ Off (Dt 250) z1 z' ∧ QT L xs sh W 250 R wr z' s' := by
    intro f
    induction f with
    | zero =>
      intro hh hhh z1 u3 q hj
      refine ⟨z1, _, ?_, Off_refl _ _, q⟩
      rw [bX1_notesAreSo_51, if_pos ((nI_m1lt (by omega) (by omega)).mpr (by omega)), if_pos (by decide), show fiV W R wr = 1 from fiF_1 _ 0 (fun j _ h2 => hj j (by omega) (by have := l2 j (by omega); omega))]
    | succ f ih =>
      intro hh hhh z1 u3 q hj
      obtain ⟨g, g1, g2, g3, g4⟩ := Q_pass (L := L) (xs := xs) d hv hb q
      have g3 : QT L xs sh W 250 R wr g (noS W R wr (hh + 1)) := by
        unfold noS
        rw [roS_s]
        exact g3
      rw [bX1_notesAreSo_51, if_neg (fun z => by have := (nI_m1lt (by omega) (by omega)).mp z; omega)]
      simp only [Hi_now hH, Hi_clock hH, Hi_trial hH, Hi_answers hH, Hi_is hH, Hie_answers hH, Hiu_answers hH, Sc_state hS, Sc_past hS, Sc_force hS, Sc_x hS, Sc_notes hS, Sc_noteHour hS, Sc_noteStranger hS, Sc_notePerson hS, Scw_town hS, Scw_force hS, Scw_x hS, Scw_notes hS, Sc_is hS, Sce_noteHour hS, Sce_noteStranger hS, Sce_notePerson hS, Scu_noteHour hS, Scu_noteStranger hS, Scu_notePerson hS, St_hour hB, St_chain hB, St_come hB, St_open hB, St_place hB, St_kind hB, St_asked hB, St_total hB, St_chains hB, St_at hB, St_before hB, Stw_hour hB, Stw_chain hB, Stw_come hB, Stw_open hB, St_is hB, Ste_place hB, Ste_kind hB, Ste_asked hB, Ste_total hB, Ste_chains hB, Ste_at hB, Ste_before hB, Stu_place hB, Stu_kind hB, Stu_asked hB, Stu_total hB, Stu_chains hB, Stu_at hB, Stu_before hB, Ck_ways hC, Ck_whom hC, Ck_words hC, Ck_wrong hC, Ckw_town hC, Ckw_rule hC, Ckw_wrong hC, Ck_is hC, Cke_whom hC, Cke_words hC, Cku_whom hC, Cku_words hC, some_bind', g1]
      rcases inner W.2.1.2.2.2.2.1 0 (by omega) g _ hh (by omega) g3 g4 (fun j h => absurd h (by omega)) with p | ⟨p, v3, p1⟩
      · exact ⟨g, _, p, g2, g3⟩
      · obtain ⟨z', s', q1, q2, q3⟩ := ih (hh + 1) (by omega) g v3 g3 (fun j h1 h2 => by
          by_cases e : noH W j = hh
          · exact p j h1 e
          · exact hj j h1 (by omega))
        exact ⟨z', s', p1.trans q1, Off_trans g2 q2, q3⟩
  obtain ⟨t, zb, b0, b1, b2, b3⟩ := Q_beg (L := L) (xs := xs) (d + 2) hb h
  obtain ⟨z', s', p1, p2, p3⟩ := outer l 0 (by omega) zb none b3 (fun j _ h2 => absurd h2 (by omega))
  obtain ⟨x1, x2⟩ := X_notes h.1
  refine ⟨z', s', cI_of ?_, Off_trans (Off_mono b2 (fun o q => Or.inl q)) p2, p3⟩
  show RS (ZZ L xs) (d + 5) mX1_notesAreSo 0 [some (.ref 249), none, none, none] [] _ = _
  rw [bX1_notesAreSo_0]
  refine Eq.trans (show _ = RS (ZZ L xs) (d + 5) mX1_notesAreSo 4 [some (.ref 249), some (.int (nI 0 - 1)), some (.int (nI 0)), none] [] (HP sh z) from rfl) (l3.trans ?_)
  rw [bX1_notesAreSo_4]
  simp only [Hi_now hH, Hi_clock hH, Hi_trial hH, Hi_answers hH, Hi_is hH, Hie_answers hH, Hiu_answers hH, Sc_state hS, Sc_past hS, Sc_force hS, Sc_x hS, Sc_notes hS, Sc_noteHour hS, Sc_noteStranger hS, Sc_notePerson hS, Scw_town hS, Scw_force hS, Scw_x hS, Scw_notes hS, Sc_is hS, Sce_noteHour hS, Sce_noteStranger hS, Sce_notePerson hS, Scu_noteHour hS, Scu_noteStranger hS, Scu_notePerson hS, St_hour hB, St_chain hB, St_come hB, St_open hB, St_place hB, St_kind hB, St_asked hB, St_total hB, St_chains hB, St_at hB, St_before hB, Stw_hour hB, Stw_chain hB, Stw_come hB, Stw_open hB, St_is hB, Ste_place hB, Ste_kind hB, Ste_asked hB, Ste_total hB, Ste_chains hB, Ste_at hB, Ste_before hB, Stu_place hB, Stu_kind hB, Stu_asked hB, Stu_total hB, Stu_chains hB, Stu_at hB, Stu_before hB, Ck_ways hC, Ck_whom hC, Ck_words hC, Ck_wrong hC, Ckw_town hC, Ckw_rule hC, Ckw_wrong hC, Ck_is hC, Cke_whom hC, Cke_words hC, Cku_whom hC, Cku_words hC, some_bind', x1]
  rw [if_pos (nI_le (by omega) (by omega)), b0]
  simp only [Hi_now hH, Hi_clock hH, Hi_trial hH, Hi_answers hH, Hi_is hH, Hie_answers hH, Hiu_answers hH, Sc_state hS, Sc_past hS, Sc_force hS, Sc_x hS, Sc_notes hS, Sc_noteHour hS, Sc_noteStranger hS, Sc_notePerson hS, Scw_town hS, Scw_force hS, Scw_x hS, Scw_notes hS, Sc_is hS, Sce_noteHour hS, Sce_noteStranger hS, Sce_notePerson hS, Scu_noteHour hS, Scu_noteStranger hS, Scu_notePerson hS, St_hour hB, St_chain hB, St_come hB, St_open hB, St_place hB, St_kind hB, St_asked hB, St_total hB, St_chains hB, St_at hB, St_before hB, Stw_hour hB, Stw_chain hB, Stw_come hB, Stw_open hB, St_is hB, Ste_place hB, Ste_kind hB, Ste_asked hB, Ste_total hB, Ste_chains hB, Ste_at hB, Ste_before hB, Stu_place hB, Stu_kind hB, Stu_asked hB, Stu_total hB, Stu_chains hB, Stu_at hB, Stu_before hB, Ck_ways hC, Ck_whom hC, Ck_words hC, Ck_wrong hC, Ckw_town hC, Ckw_rule hC, Ckw_wrong hC, Ck_is hC, Cke_whom hC, Cke_words hC, Cku_whom hC, Cku_words hC, some_bind', b1]
  exact p1
end
end NOTESX
