/-! elements of the rows (by program) -/
section ARR
variable {sh : List Sh} {b : Nat}
theorem Stn_place (h : isSt sh b) : sh[b + 1]? = some (.inl (0, 6)) := h.2.1
theorem Ste_place (h : isSt sh b) (x : ST) {j : Nat} (hj : j < 6) : eI (HP sh x) (.ref (b + 1)) (nI j) = some (x.2.2.2.1 (b + 1) j) := rA (Stn_place h) hj (by decide)
theorem Stu_place (h : isSt sh b) (x : ST) {j : Nat} (hj : j < 6) (v : Int32) : wI (HP sh x) (.ref (b + 1)) (nI j) v = some (HP sh (sA x (b + 1) (upd (x.2.2.2.1 (b + 1)) j v))) := wA (Stn_place h) hj (by decide)
theorem Stn_kind (h : isSt sh b) : sh[b + 2]? = some (.inl (0, 6)) := h.2.2.1
theorem Ste_kind (h : isSt sh b) (x : ST) {j : Nat} (hj : j < 6) : eI (HP sh x) (.ref (b + 2)) (nI j) = some (x.2.2.2.1 (b + 2) j) := rA (Stn_kind h) hj (by decide)
theorem Stu_kind (h : isSt sh b) (x : ST) {j : Nat} (hj : j < 6) (v : Int32) : wI (HP sh x) (.ref (b + 2)) (nI j) v = some (HP sh (sA x (b + 2) (upd (x.2.2.2.1 (b + 2)) j v))) := wA (Stn_kind h) hj (by decide)
theorem Stn_asked (h : isSt sh b) : sh[b + 3]? = some (.inl (0, 6)) := h.2.2.2.1
theorem Ste_asked (h : isSt sh b) (x : ST) {j : Nat} (hj : j < 6) : eI (HP sh x) (.ref (b + 3)) (nI j) = some (x.2.2.2.1 (b + 3) j) := rA (Stn_asked h) hj (by decide)
theorem Stu_asked (h : isSt sh b) (x : ST) {j : Nat} (hj : j < 6) (v : Int32) : wI (HP sh x) (.ref (b + 3)) (nI j) v = some (HP sh (sA x (b + 3) (upd (x.2.2.2.1 (b + 3)) j v))) := wA (Stn_asked h) hj (by decide)
theorem Stn_total (h : isSt sh b) : sh[b + 4]? = some (.inl (0, 6)) := h.2.2.2.2.1
theorem Ste_total (h : isSt sh b) (x : ST) {j : Nat} (hj : j < 6) : eI (HP sh x) (.ref (b + 4)) (nI j) = some (x.2.2.2.1 (b + 4) j) := rA (Stn_total h) hj (by decide)
theorem Stu_total (h : isSt sh b) (x : ST) {j : Nat} (hj : j < 6) (v : Int32) : wI (HP sh x) (.ref (b + 4)) (nI j) v = some (HP sh (sA x (b + 4) (upd (x.2.2.2.1 (b + 4)) j v))) := wA (Stn_total h) hj (by decide)
theorem Stn_chains (h : isSt sh b) : sh[b + 5]? = some (.inl (0, 6)) := h.2.2.2.2.2.1
theorem Ste_chains (h : isSt sh b) (x : ST) {j : Nat} (hj : j < 6) : eI (HP sh x) (.ref (b + 5)) (nI j) = some (x.2.2.2.1 (b + 5) j) := rA (Stn_chains h) hj (by decide)
theorem Stu_chains (h : isSt sh b) (x : ST) {j : Nat} (hj : j < 6) (v : Int32) : wI (HP sh x) (.ref (b + 5)) (nI j) v = some (HP sh (sA x (b + 5) (upd (x.2.2.2.1 (b + 5)) j v))) := wA (Stn_chains h) hj (by decide)
theorem Stn_at (h : isSt sh b) : sh[b + 6]? = some (.inl (0, 5)) := h.2.2.2.2.2.2.1
theorem Ste_at (h : isSt sh b) (x : ST) {j : Nat} (hj : j < 5) : eI (HP sh x) (.ref (b + 6)) (nI j) = some (x.2.2.2.1 (b + 6) j) := rA (Stn_at h) hj (by decide)
theorem Stu_at (h : isSt sh b) (x : ST) {j : Nat} (hj : j < 5) (v : Int32) : wI (HP sh x) (.ref (b + 6)) (nI j) v = some (HP sh (sA x (b + 6) (upd (x.2.2.2.1 (b + 6)) j v))) := wA (Stn_at h) hj (by decide)
theorem Stn_before (h : isSt sh b) : sh[b + 7]? = some (.inl (0, 30)) := h.2.2.2.2.2.2.2
theorem Ste_before (h : isSt sh b) (x : ST) {j : Nat} (hj : j < 30) : eI (HP sh x) (.ref (b + 7)) (nI j) = some (x.2.2.2.1 (b + 7) j) := rA (Stn_before h) hj (by decide)
theorem Stu_before (h : isSt sh b) (x : ST) {j : Nat} (hj : j < 30) (v : Int32) : wI (HP sh x) (.ref (b + 7)) (nI j) v = some (HP sh (sA x (b + 7) (upd (x.2.2.2.1 (b + 7)) j v))) := wA (Stn_before h) hj (by decide)
theorem Ton_place (h : isTo sh b) : sh[b + 1]? = some (.inl (0, 6)) := h.2.1
theorem Toe_place (h : isTo sh b) (x : ST) {j : Nat} (hj : j < 6) : eI (HP sh x) (.ref (b + 1)) (nI j) = some (x.2.2.2.1 (b + 1) j) := rA (Ton_place h) hj (by decide)
theorem Tou_place (h : isTo sh b) (x : ST) {j : Nat} (hj : j < 6) (v : Int32) : wI (HP sh x) (.ref (b + 1)) (nI j) v = some (HP sh (sA x (b + 1) (upd (x.2.2.2.1 (b + 1)) j v))) := wA (Ton_place h) hj (by decide)
theorem Ton_kind (h : isTo sh b) : sh[b + 2]? = some (.inl (0, 6)) := h.2.2.1
theorem Toe_kind (h : isTo sh b) (x : ST) {j : Nat} (hj : j < 6) : eI (HP sh x) (.ref (b + 2)) (nI j) = some (x.2.2.2.1 (b + 2) j) := rA (Ton_kind h) hj (by decide)
theorem Tou_kind (h : isTo sh b) (x : ST) {j : Nat} (hj : j < 6) (v : Int32) : wI (HP sh x) (.ref (b + 2)) (nI j) v = some (HP sh (sA x (b + 2) (upd (x.2.2.2.1 (b + 2)) j v))) := wA (Ton_kind h) hj (by decide)
theorem Ton_from (h : isTo sh b) : sh[b + 3]? = some (.inl (0, 5)) := h.2.2.2.1
theorem Toe_from (h : isTo sh b) (x : ST) {j : Nat} (hj : j < 5) : eI (HP sh x) (.ref (b + 3)) (nI j) = some (x.2.2.2.1 (b + 3) j) := rA (Ton_from h) hj (by decide)
theorem Tou_from (h : isTo sh b) (x : ST) {j : Nat} (hj : j < 5) (v : Int32) : wI (HP sh x) (.ref (b + 3)) (nI j) v = some (HP sh (sA x (b + 3) (upd (x.2.2.2.1 (b + 3)) j v))) := wA (Ton_from h) hj (by decide)
theorem Ton_to (h : isTo sh b) : sh[b + 4]? = some (.inl (0, 5)) := h.2.2.2.2.1
theorem Toe_to (h : isTo sh b) (x : ST) {j : Nat} (hj : j < 5) : eI (HP sh x) (.ref (b + 4)) (nI j) = some (x.2.2.2.1 (b + 4) j) := rA (Ton_to h) hj (by decide)
theorem Tou_to (h : isTo sh b) (x : ST) {j : Nat} (hj : j < 5) (v : Int32) : wI (HP sh x) (.ref (b + 4)) (nI j) v = some (HP sh (sA x (b + 4) (upd (x.2.2.2.1 (b + 4)) j v))) := wA (Ton_to h) hj (by decide)
theorem Ton_every (h : isTo sh b) : sh[b + 5]? = some (.inl (0, 5)) := h.2.2.2.2.2
theorem Toe_every (h : isTo sh b) (x : ST) {j : Nat} (hj : j < 5) : eI (HP sh x) (.ref (b + 5)) (nI j) = some (x.2.2.2.1 (b + 5) j) := rA (Ton_every h) hj (by decide)
theorem Tou_every (h : isTo sh b) (x : ST) {j : Nat} (hj : j < 5) (v : Int32) : wI (HP sh x) (.ref (b + 5)) (nI j) v = some (HP sh (sA x (b + 5) (upd (x.2.2.2.1 (b + 5)) j v))) := wA (Ton_every h) hj (by decide)
theorem Run_join (h : isRu sh b) : sh[b + 1]? = some (.inl (0, 60)) := h.2.1
theorem Rue_join (h : isRu sh b) (x : ST) {j : Nat} (hj : j < 60) : eI (HP sh x) (.ref (b + 1)) (nI j) = some (x.2.2.2.1 (b + 1) j) := rA (Run_join h) hj (by decide)
theorem Ruu_join (h : isRu sh b) (x : ST) {j : Nat} (hj : j < 60) (v : Int32) : wI (HP sh x) (.ref (b + 1)) (nI j) v = some (HP sh (sA x (b + 1) (upd (x.2.2.2.1 (b + 1)) j v))) := wA (Run_join h) hj (by decide)
theorem Run_value (h : isRu sh b) : sh[b + 2]? = some (.inl (0, 60)) := h.2.2.1
theorem Rue_value (h : isRu sh b) (x : ST) {j : Nat} (hj : j < 60) : eI (HP sh x) (.ref (b + 2)) (nI j) = some (x.2.2.2.1 (b + 2) j) := rA (Run_value h) hj (by decide)
theorem Ruu_value (h : isRu sh b) (x : ST) {j : Nat} (hj : j < 60) (v : Int32) : wI (HP sh x) (.ref (b + 2)) (nI j) v = some (HP sh (sA x (b + 2) (upd (x.2.2.2.1 (b + 2)) j v))) := wA (Run_value h) hj (by decide)
theorem Run_sumFrom (h : isRu sh b) : sh[b + 3]? = some (.inl (0, 60)) := h.2.2.2.1
theorem Rue_sumFrom (h : isRu sh b) (x : ST) {j : Nat} (hj : j < 60) : eI (HP sh x) (.ref (b + 3)) (nI j) = some (x.2.2.2.1 (b + 3) j) := rA (Run_sumFrom h) hj (by decide)
theorem Ruu_sumFrom (h : isRu sh b) (x : ST) {j : Nat} (hj : j < 60) (v : Int32) : wI (HP sh x) (.ref (b + 3)) (nI j) v = some (HP sh (sA x (b + 3) (upd (x.2.2.2.1 (b + 3)) j v))) := wA (Run_sumFrom h) hj (by decide)
theorem Run_sumTo (h : isRu sh b) : sh[b + 4]? = some (.inl (0, 60)) := h.2.2.2.2.1
theorem Rue_sumTo (h : isRu sh b) (x : ST) {j : Nat} (hj : j < 60) : eI (HP sh x) (.ref (b + 4)) (nI j) = some (x.2.2.2.1 (b + 4) j) := rA (Run_sumTo h) hj (by decide)
theorem Ruu_sumTo (h : isRu sh b) (x : ST) {j : Nat} (hj : j < 60) (v : Int32) : wI (HP sh x) (.ref (b + 4)) (nI j) v = some (HP sh (sA x (b + 4) (upd (x.2.2.2.1 (b + 4)) j v))) := wA (Run_sumTo h) hj (by decide)
theorem Run_step (h : isRu sh b) : sh[b + 5]? = some (.inl (0, 256)) := h.2.2.2.2.2.1
theorem Rue_step (h : isRu sh b) (x : ST) {j : Nat} (hj : j < 256) : eI (HP sh x) (.ref (b + 5)) (nI j) = some (x.2.2.2.1 (b + 5) j) := rA (Run_step h) hj (by decide)
theorem Ruu_step (h : isRu sh b) (x : ST) {j : Nat} (hj : j < 256) (v : Int32) : wI (HP sh x) (.ref (b + 5)) (nI j) v = some (HP sh (sA x (b + 5) (upd (x.2.2.2.1 (b + 5)) j v))) := wA (Run_step h) hj (by decide)
theorem Run_with (h : isRu sh b) : sh[b + 6]? = some (.inl (0, 256)) := h.2.2.2.2.2.2
theorem Rue_with (h : isRu sh b) (x : ST) {j : Nat} (hj : j < 256) : eI (HP sh x) (.ref (b + 6)) (nI j) = some (x.2.2.2.1 (b + 6) j) := rA (Run_with h) hj (by decide)
theorem Ruu_with (h : isRu sh b) (x : ST) {j : Nat} (hj : j < 256) (v : Int32) : wI (HP sh x) (.ref (b + 6)) (nI j) v = some (HP sh (sA x (b + 6) (upd (x.2.2.2.1 (b + 6)) j v))) := wA (Run_with h) hj (by decide)
theorem Tan_bytes (h : isTa sh b) : sh[b + 1]? = some (.inl (0, 400)) := h.2
theorem Tae_bytes (h : isTa sh b) (x : ST) {j : Nat} (hj : j < 400) : eI (HP sh x) (.ref (b + 1)) (nI j) = some (x.2.2.2.1 (b + 1) j) := rA (Tan_bytes h) hj (by decide)
theorem Tau_bytes (h : isTa sh b) (x : ST) {j : Nat} (hj : j < 400) (v : Int32) : wI (HP sh x) (.ref (b + 1)) (nI j) v = some (HP sh (sA x (b + 1) (upd (x.2.2.2.1 (b + 1)) j v))) := wA (Tan_bytes h) hj (by decide)
theorem Scn_noteHour (h : isSc sh b) : sh[b + 177]? = some (.inl (0, 10)) := h.2.1
theorem Sce_noteHour (h : isSc sh b) (x : ST) {j : Nat} (hj : j < 10) : eI (HP sh x) (.ref (b + 177)) (nI j) = some (x.2.2.2.1 (b + 177) j) := rA (Scn_noteHour h) hj (by decide)
theorem Scu_noteHour (h : isSc sh b) (x : ST) {j : Nat} (hj : j < 10) (v : Int32) : wI (HP sh x) (.ref (b + 177)) (nI j) v = some (HP sh (sA x (b + 177) (upd (x.2.2.2.1 (b + 177)) j v))) := wA (Scn_noteHour h) hj (by decide)
theorem Scn_noteStranger (h : isSc sh b) : sh[b + 178]? = some (.inl (0, 10)) := h.2.2.1
theorem Sce_noteStranger (h : isSc sh b) (x : ST) {j : Nat} (hj : j < 10) : eI (HP sh x) (.ref (b + 178)) (nI j) = some (x.2.2.2.1 (b + 178) j) := rA (Scn_noteStranger h) hj (by decide)
theorem Scu_noteStranger (h : isSc sh b) (x : ST) {j : Nat} (hj : j < 10) (v : Int32) : wI (HP sh x) (.ref (b + 178)) (nI j) v = some (HP sh (sA x (b + 178) (upd (x.2.2.2.1 (b + 178)) j v))) := wA (Scn_noteStranger h) hj (by decide)
theorem Scn_notePerson (h : isSc sh b) : sh[b + 179]? = some (.inl (0, 10)) := h.2.2.2.1
theorem Sce_notePerson (h : isSc sh b) (x : ST) {j : Nat} (hj : j < 10) : eI (HP sh x) (.ref (b + 179)) (nI j) = some (x.2.2.2.1 (b + 179) j) := rA (Scn_notePerson h) hj (by decide)
theorem Scu_notePerson (h : isSc sh b) (x : ST) {j : Nat} (hj : j < 10) (v : Int32) : wI (HP sh x) (.ref (b + 179)) (nI j) v = some (HP sh (sA x (b + 179) (upd (x.2.2.2.1 (b + 179)) j v))) := wA (Scn_notePerson h) hj (by decide)
theorem Ckn_whom (h : isCk sh b) : sh[b + 3]? = some (.inl (0, 5)) := h.2.1
theorem Cke_whom (h : isCk sh b) (x : ST) {j : Nat} (hj : j < 5) : eI (HP sh x) (.ref (b + 3)) (nI j) = some (x.2.2.2.1 (b + 3) j) := rA (Ckn_whom h) hj (by decide)
theorem Cku_whom (h : isCk sh b) (x : ST) {j : Nat} (hj : j < 5) (v : Int32) : wI (HP sh x) (.ref (b + 3)) (nI j) v = some (HP sh (sA x (b + 3) (upd (x.2.2.2.1 (b + 3)) j v))) := wA (Ckn_whom h) hj (by decide)
theorem Ckn_words (h : isCk sh b) : sh[b + 4]? = some (.inl (0, 12)) := h.2.2.1
theorem Cke_words (h : isCk sh b) (x : ST) {j : Nat} (hj : j < 12) : eI (HP sh x) (.ref (b + 4)) (nI j) = some (x.2.2.2.1 (b + 4) j) := rA (Ckn_words h) hj (by decide)
theorem Cku_words (h : isCk sh b) (x : ST) {j : Nat} (hj : j < 12) (v : Int32) : wI (HP sh x) (.ref (b + 4)) (nI j) v = some (HP sh (sA x (b + 4) (upd (x.2.2.2.1 (b + 4)) j v))) := wA (Ckn_words h) hj (by decide)
theorem Oln_gainOfOne (h : isOl sh b) : sh[b + 10]? = some (.inl (0, 64)) := h.2.2.2.1
theorem Ole_gainOfOne (h : isOl sh b) (x : ST) {j : Nat} (hj : j < 64) : eI (HP sh x) (.ref (b + 10)) (nI j) = some (x.2.2.2.1 (b + 10) j) := rA (Oln_gainOfOne h) hj (by decide)
theorem Olu_gainOfOne (h : isOl sh b) (x : ST) {j : Nat} (hj : j < 64) (v : Int32) : wI (HP sh x) (.ref (b + 10)) (nI j) v = some (HP sh (sA x (b + 10) (upd (x.2.2.2.1 (b + 10)) j v))) := wA (Oln_gainOfOne h) hj (by decide)
theorem Oln_gainOfOther (h : isOl sh b) : sh[b + 11]? = some (.inl (0, 64)) := h.2.2.2.2.1
theorem Ole_gainOfOther (h : isOl sh b) (x : ST) {j : Nat} (hj : j < 64) : eI (HP sh x) (.ref (b + 11)) (nI j) = some (x.2.2.2.1 (b + 11) j) := rA (Oln_gainOfOther h) hj (by decide)
theorem Olu_gainOfOther (h : isOl sh b) (x : ST) {j : Nat} (hj : j < 64) (v : Int32) : wI (HP sh x) (.ref (b + 11)) (nI j) v = some (HP sh (sA x (b + 11) (upd (x.2.2.2.1 (b + 11)) j v))) := wA (Oln_gainOfOther h) hj (by decide)
theorem Hin_answers (h : isHi sh b) : sh[b + 9]? = some (.inl (0, 35)) := h.2.2
theorem Hie_answers (h : isHi sh b) (x : ST) {j : Nat} (hj : j < 35) : eI (HP sh x) (.ref (b + 9)) (nI j) = some (x.2.2.2.1 (b + 9) j) := rA (Hin_answers h) hj (by decide)
theorem Hiu_answers (h : isHi sh b) (x : ST) {j : Nat} (hj : j < 35) (v : Int32) : wI (HP sh x) (.ref (b + 9)) (nI j) v = some (HP sh (sA x (b + 9) (upd (x.2.2.2.1 (b + 9)) j v))) := wA (Hin_answers h) hj (by decide)
end ARR
