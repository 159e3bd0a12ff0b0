/-! more cells; images -/
section EXT
variable {sh sh' : List Sh} {b : Nat}
theorem isSt_ext (h : Ext sh sh') (g : isSt sh b) : isSt sh' b := ⟨h _ _ g.1, h _ _ g.2.1, h _ _ g.2.2.1, h _ _ g.2.2.2.1, h _ _ g.2.2.2.2.1, h _ _ g.2.2.2.2.2.1, h _ _ g.2.2.2.2.2.2.1, h _ _ g.2.2.2.2.2.2.2⟩
theorem isTo_ext (h : Ext sh sh') (g : isTo sh b) : isTo sh' b := ⟨h _ _ g.1, h _ _ g.2.1, h _ _ g.2.2.1, h _ _ g.2.2.2.1, h _ _ g.2.2.2.2.1, h _ _ g.2.2.2.2.2⟩
theorem isRu_ext (h : Ext sh sh') (g : isRu sh b) : isRu sh' b := ⟨h _ _ g.1, h _ _ g.2.1, h _ _ g.2.2.1, h _ _ g.2.2.2.1, h _ _ g.2.2.2.2.1, h _ _ g.2.2.2.2.2.1, h _ _ g.2.2.2.2.2.2⟩
theorem isPa_ext (h : Ext sh sh') (g : isPa sh b) : isPa sh' b := ⟨h _ _ g.1, h _ _ g.2.1, fun i hi => isSt_ext h (g.2.2 i hi)⟩
theorem isSc_ext (h : Ext sh sh') (g : isSc sh b) : isSc sh' b := ⟨h _ _ g.1, h _ _ g.2.1, h _ _ g.2.2.1, h _ _ g.2.2.2.1, isSt_ext h g.2.2.2.2.1, isPa_ext h g.2.2.2.2.2⟩
theorem isXS_ext (h : Ext sh sh') (g : isXS sh) : isXS sh' := by
  obtain ⟨⟨a1, a2, a3, a4⟩, ⟨b1, b2, b3, b4⟩, c1, c2, c3⟩ := g
  exact ⟨⟨h _ _ a1, ⟨h _ _ a2.1, h _ _ a2.2⟩, isSc_ext h a3, ⟨h _ _ a4.1, h _ _ a4.2.1, h _ _ a4.2.2.1, h _ _ a4.2.2.2.1, h _ _ a4.2.2.2.2⟩⟩, ⟨h _ _ b1, h _ _ b2, h _ _ b3, h _ _ b4⟩, ⟨h _ _ c1.1, isSt_ext h c1.2.1, h _ _ c1.2.2.1, h _ _ c1.2.2.2.1, h _ _ c1.2.2.2.2.1, isSt_ext h c1.2.2.2.2.2.1, isSt_ext h c1.2.2.2.2.2.2.1, isSt_ext h c1.2.2.2.2.2.2.2.1, isSt_ext h c1.2.2.2.2.2.2.2.2⟩, ⟨h _ _ c2.1, isSt_ext h c2.2.1, h _ _ c2.2.2⟩, fun i s hs => h _ _ (c3 i s hs)⟩
theorem Ext_app (sh e : List Sh) : Ext sh (sh ++ e) := fun i s h => by
  rw [List.getElem?_append_left (List.getElem?_eq_some_iff.mp h).1]
  exact h
theorem Ext_at {e : List Sh} (i : Nat) {s : Sh} (h : e[i]? = some s) : (sh ++ e)[sh.length + i]? = some s := by
  rw [List.getElem?_append_right (by omega), Nat.add_sub_cancel_left]
  exact h
theorem len_of {i : Nat} {s : Sh} (h : sh[i]? = some s) : i < sh.length := (List.getElem?_eq_some_iff.mp h).1
theorem isXS_len (g : isXS sh) : 307 ≤ sh.length := len_of (g.2.2.2.2 47 _ rfl)
variable {L : Nat} {xs : Nat → Int32} {x y : ST} {W : WD}
theorem XSc_ext {c : SCN} (h : Ext sh sh') (ho : Off (fun o => sh.length ≤ o) x y) (g : XSc sh x b c) : XSc sh' y b c := by
  have hl : b + 180 ≤ sh.length := by
    have := len_of g.1.2.2.2.1
    omega
  obtain ⟨a1, ⟨t, t1, t2, t3, t4⟩, a⟩ := XSc_off ho (fun o q => by omega) (fun t o ht _ q1 q2 => by
    have := len_of ht.2.2.2.2.2
    omega) g
  exact ⟨isSc_ext h a1, ⟨t, t1, isTo_ext h t2, t3, t4⟩, a⟩
theorem RuD_ext {r : Nat} {f : (Nat → Int32) → Int64} (h : Ext sh sh') (g : RuD L xs sh x r f) : RuD L xs sh' x r f := ⟨isRu_ext h g.1, g.2⟩
theorem XI_ext (h : Ext sh sh') (ho : Off (fun o => sh.length ≤ o) x y) (g : XI L xs sh x W) : XI L xs sh' y W := by
  obtain ⟨a1, a2, a3, a4, a5, ⟨a6, a6'⟩, a7, a8, r, a9, a10, a11, a12⟩ := g
  have hl := isXS_len a1
  have e204 := (ho 204 (by omega)).2.2.2.2.2
  have e196 := (ho 196 (by omega)).2.2.2.2.2
  refine ⟨isXS_ext h a1, XTa_off ho (by omega) (by omega) a2, ?_, XTu_off ho (by omega) a4, XSc_ext h ho a5, ⟨fun k hk => ⟨fun hg => ?_, fun c hg => ?_⟩, fun j k q q' hj hk hjk q1 q2 => ?_⟩, ?_, fun i hi => ?_, r, ?_, isRu_ext h a10, a11, fun i hi => ?_⟩
  · rw [gCk_off ho (fun o q1 q2 => by omega)]
    exact a3
  · rw [e204]
    exact (a6 k hk).1 hg
  · obtain ⟨q, q1, q2, q3⟩ := (a6 k hk).2 c hg
    exact ⟨q, by rw [e204]; exact q1, q2, XSc_ext h ho q3⟩
  · rw [e204] at q1 q2
    exact a6' j k q q' hj hk hjk q1 q2
  · rw [(ho 0 (by omega)).1]
    exact a7
  · obtain ⟨q, q1, q2, q3⟩ := a8 i hi
    refine ⟨q, by rw [e196]; exact q1, q2, RuD_ext h (RuD_off ho (fun o w1 w2 => ?_) q3)⟩
    have := len_of q3.1.2.2.2.2.2.2
    omega
  · rw [(ho 0 (by omega)).2.2.1]
    exact a9
  · rw [e196]
    exact a12 i hi
end EXT
theorem slS_app (a b : List Sh) : slS (a ++ b) = slS a + slS b := by
  unfold slS
  rw [List.map_append, List.sum_append]
theorem shSc_len (b : Nat) : (shSc b).length = 180 := by
  unfold shSc shPa
  rw [List.length_append, List.length_append, List.length_append, List.length_append, List.length_append, shPs_len]
  rfl
theorem shPs_sl (b : Nat) : ∀ i, slS (shPs b i) = 76 * i
  | 0 => rfl
  | i + 1 => by
    show slS (shPs b i ++ shSt (b + 2 + 8 * i)) = _
    rw [slS_app, shPs_sl b i]
    show 76 * i + 76 = _
    omega
theorem shSc_sl (b : Nat) : slS (shSc b) ≤ 2000 := by
  unfold shSc shPa
  rw [slS_app, slS_app, slS_app, slS_app, slS_app, shPs_sl]
  show 9 + (38 + (76 + (3 + 20 + 76 * 20 + 30))) ≤ 2000
  decide
theorem isSc_new (sh : List Sh) : isSc (sh ++ shSc sh.length) sh.length ∧ isTo (sh ++ shSc sh.length) (sh.length + 1) := by
  have hps : ∀ b k i, i < k → ∀ q, q < 8 → (shPs b k)[8 * i + q]? = (shSt (b + 2 + 8 * i))[q]? := by
    intro b k
    induction k with
    | zero => intro i hi; omega
    | succ k ih =>
      intro i hi q hq
      show (shPs b k ++ shSt (b + 2 + 8 * k))[8 * i + q]? = _
      rcases Nat.lt_or_ge i k with h | h
      · rw [List.getElem?_append_left (by rw [shPs_len]; omega)]
        exact ih i h q hq
      · have : i = k := by omega
        subst this
        rw [List.getElem?_append_right (by rw [shPs_len]; omega), shPs_len, show 8 * i + q - 8 * i = q by omega]
  have key : ∀ i, i < 180 → (shSc sh.length)[i]? = if i = 0 then some (.inr (6, [(3, 0), (2, sh.length + 7), (2, sh.length + 15), (0, 0), (0, 0), (0, 0), (2, sh.length + 177), (2, sh.length + 178), (2, sh.length + 179)])) else if i < 7 then (shTo (sh.length + 1))[i - 1]? else if i < 15 then (shSt (sh.length + 7))[i - 7]? else if i < 17 then ([.inr (3, [(0, 0), (0, 0), (2, sh.length + 15 + 1)]), .inl (5, 20)] : List Sh)[i - 15]? else if i < 177 then (shPs (sh.length + 15) 20)[i - 17]? else some (.inl (0, 10)) := by
    intro i hi
    unfold shSc shPa
    by_cases h0 : i = 0
    · rw [if_pos h0, h0]
      rfl
    · rw [if_neg h0, List.getElem?_append_right (by show 1 ≤ i; omega)]
      show (shTo (sh.length + 1) ++ _)[i - 1]? = _
      by_cases h7 : i < 7
      · rw [if_pos h7, List.getElem?_append_left (by show i - 1 < 6; omega)]
      · rw [if_neg h7, List.getElem?_append_right (by show 6 ≤ i - 1; omega)]
        show (shSt (sh.length + 7) ++ _)[i - 1 - 6]? = _
        by_cases h15 : i < 15
        · rw [if_pos h15, List.getElem?_append_left (by show i - 1 - 6 < 8; omega), show i - 1 - 6 = i - 7 by omega]
        · rw [if_neg h15, List.getElem?_append_right (by show 8 ≤ i - 1 - 6; omega)]
          show (([.inr (3, [(0, 0), (0, 0), (2, sh.length + 15 + 1)]), .inl (5, 20)] ++ shPs (sh.length + 15) 20) ++ _)[i - 1 - 6 - 8]? = _
          rw [List.append_assoc, show i - 1 - 6 - 8 = i - 15 by omega]
          by_cases h17 : i < 17
          · rw [if_pos h17, List.getElem?_append_left (by show i - 15 < 2; omega)]
          · rw [if_neg h17, List.getElem?_append_right (by show 2 ≤ i - 15; omega)]
            show (shPs (sh.length + 15) 20 ++ _)[i - 15 - 2]? = _
            rw [show i - 15 - 2 = i - 17 by omega]
            by_cases h177 : i < 177
            · rw [if_pos h177, List.getElem?_append_left (by rw [shPs_len]; omega)]
            · rw [if_neg h177, List.getElem?_append_right (by rw [shPs_len]; omega), shPs_len]
              have : i - 17 - 8 * 20 = 0 ∨ i - 17 - 8 * 20 = 1 ∨ i - 17 - 8 * 20 = 2 := by omega
              rcases this with q | q | q <;> rw [q] <;> rfl
  have at' : ∀ i s, i < 180 → (shSc sh.length)[i]? = some s → (sh ++ shSc sh.length)[sh.length + i]? = some s := fun i s _ h => Ext_at i h
  have st : ∀ i b, b = sh.length + i → (∀ q, q < 8 → (shSc sh.length)[i + q]? = (shSt b)[q]?) → i + 8 ≤ 180 → isSt (sh ++ shSc sh.length) b := fun i b hb h hi => by
    subst hb
    refine ⟨at' i _ (by omega) (h 0 (by decide)), ?_, ?_, ?_, ?_, ?_, ?_, ?_⟩
    · exact at' (i + 1) _ (by omega) (h 1 (by decide))
    · exact at' (i + 2) _ (by omega) (h 2 (by decide))
    · exact at' (i + 3) _ (by omega) (h 3 (by decide))
    · exact at' (i + 4) _ (by omega) (h 4 (by decide))
    · exact at' (i + 5) _ (by omega) (h 5 (by decide))
    · exact at' (i + 6) _ (by omega) (h 6 (by decide))
    · exact at' (i + 7) _ (by omega) (h 7 (by decide))
  refine ⟨⟨at' 0 _ (by decide) (key 0 (by decide)), at' 177 _ (by decide) (key 177 (by decide)), at' 178 _ (by decide) (key 178 (by decide)), at' 179 _ (by decide) (key 179 (by decide)), st 7 _ rfl (fun q hq => ?_) (by decide), at' 15 _ (by decide) (key 15 (by decide)), at' 16 _ (by decide) (key 16 (by decide)), fun i hi => st (17 + 8 * i) _ (by omega) (fun q hq => ?_) (by omega)⟩, at' 1 _ (by decide) (key 1 (by decide)), at' 2 _ (by decide) (key 2 (by decide)), at' 3 _ (by decide) (key 3 (by decide)), at' 4 _ (by decide) (key 4 (by decide)), at' 5 _ (by decide) (key 5 (by decide)), at' 6 _ (by decide) (key 6 (by decide))⟩
  · rw [key _ (by omega), if_neg (by omega), if_neg (by omega), if_pos (by omega), show 7 + q - 7 = q by omega]
  · rw [key _ (by omega), if_neg (by omega), if_neg (by omega), if_neg (by omega), if_neg (by omega), if_pos (by omega), show 17 + 8 * i + q - 17 = 8 * i + q by omega]
    exact hps _ 20 i hi q hq
/-- the cells that a scene writes are of no town and no rule -/
theorem Sc_no_To {sh : List Sh} {b : Nat} (hb : isSc sh b) {t o : Nat} (ht : isTo sh t) (h1 : t ≤ o) (h2 : o < t + 6) : ¬ (o = b ∨ b + 7 ≤ o ∧ o < b + 180) := fun h => by
  obtain ⟨c, k, q1, q2, -⟩ := Own_Sc hb h
  have := (Own_uni q1 (Own_To ht h1 h2)).2
  omega
theorem Sc_no_Ru {sh : List Sh} {b : Nat} (hb : isSc sh b) {r o : Nat} (hr : isRu sh r) (h1 : r ≤ o) (h2 : o < r + 7) : ¬ (o = b ∨ b + 7 ≤ o ∧ o < b + 180) := fun h => by
  obtain ⟨c, k, q1, q2, -⟩ := Own_Sc hb h
  have := (Own_uni q1 (Own_Ru hr h1 h2)).2
  omega
theorem sAR_at (x : ST) (a : Nat) (g : Nat → Option Nat) : (sAR x a g).2.2.2.2.2 a = g := by unfold sAR up1; simp
section IMAGE
variable {L : Nat} {xs : Nat → Int32} {W : WD} {sh : List Sh}
def setI (g : Nat → Option SCN) (j : Nat) (c : SCN) : Nat → Option SCN := fun k => if k = j then some c else g k
theorem XI_sc {x y : ST} {b j : Nat} {c : SCN} (hx : XI L xs sh x W) (hj : j < 4) (hp : x.2.2.2.2.2 204 j = some b) (hb : 307 ≤ b) (ho : Off (fun o => o = b ∨ b + 7 ≤ o ∧ o < b + 180) x y) (hc : XSc sh y b c) : XI L xs sh y (W.1, W.2.1, setI W.2.2.1 j c, W.2.2.2) := by
  obtain ⟨a1, a2, a3, a4, a5, ⟨a6, a6'⟩, a7, a8, r, a9, a10, a11, a12⟩ := hx
  have e204 := (ho 204 (by omega)).2.2.2.2.2
  have e196 := (ho 196 (by omega)).2.2.2.2.2
  refine ⟨a1, XTa_off ho (by omega) (by omega) a2, ?_, XTu_off ho (by omega) a4, XSc_off ho (fun o q => by omega) (fun t o ht _ q1 q2 => Sc_no_To hc.1 ht q1 q2) a5, ⟨fun k hk => ⟨fun hg => ?_, fun c' hg => ?_⟩, fun j k q q' hj hk hjk q1 q2 => ?_⟩, ?_, fun i hi => ?_, r, ?_, a10, a11, fun i hi => ?_⟩
  · rw [gCk_off ho (fun o q1 q2 => by omega)]
    exact a3
  · have hg : (if k = j then some c else W.2.2.1 k) = none := hg
    by_cases e : k = j
    · rw [if_pos e] at hg
      cases hg
    · rw [if_neg e] at hg
      rw [e204]
      exact (a6 k hk).1 hg
  · have hg : (if k = j then some c else W.2.2.1 k) = some c' := hg
    by_cases e : k = j
    · rw [if_pos e] at hg
      cases hg
      subst e
      exact ⟨b, by rw [e204]; exact hp, hb, hc⟩
    · rw [if_neg e] at hg
      obtain ⟨q, q1, q2, q3⟩ := (a6 k hk).2 c' hg
      have hap := a6' j k b q hj hk (fun z => e z.symm) hp q1
      exact ⟨q, by rw [e204]; exact q1, q2, XSc_off ho (fun o z => by omega) (fun t o ht _ q1 q2 => Sc_no_To hc.1 ht q1 q2) q3⟩
  · rw [e204] at q1 q2
    exact a6' j k q q' hj hk hjk q1 q2
  · rw [(ho 0 (by omega)).1]
    exact a7
  · obtain ⟨q, q1, q2, q3⟩ := a8 i hi
    exact ⟨q, by rw [e196]; exact q1, q2, RuD_off ho (fun o w1 w2 => Sc_no_Ru hc.1 q3.1 w1 w2) q3⟩
  · rw [(ho 0 (by omega)).2.2.1]
    exact a9
  · rw [e196]
    exact a12 i hi
theorem Xhour {y : ST} (hx : XI L xs sh y W) : y.1 10 0 = W.2.1.2.1.1.1 := congrArg (fun z => z.1) hx.2.2.2.2.1.2.2.1.1
/-- what is now is copied into an image that is there -/
theorem X_copyI {y : ST} {j : Nat} {c0 : SCN} (d : Nat) (hx : XI L xs sh y W) (hv : VC W.2.1) (hj : j < 4) (hc : W.2.2.1 j = some c0) : ∃ b z, y.2.2.2.2.2 204 j = some b ∧ RS (ZZ L xs) (d + 60) mX12_image 37 [some (.ref 0), some (.int (nI j)), some (.ref b)] [] (HP sh y) = some (HP sh z, some (.int W.2.1.2.1.1.1)) ∧ XI L xs sh z (W.1, W.2.1, setI W.2.2.1 j W.2.1, W.2.2.2) ∧ OffM y z := by
  have hS : isSc sh 3 := hx.1.1.2.2.1
  have hB : isSt sh 10 := hS.2.2.2.2.1
  have hW : isWM sh 0 := hx.1.1.1
  obtain ⟨b, b1, b2, b3⟩ := (hx.2.2.2.2.2.1.1 j hj).2 c0 hc
  obtain ⟨z, z1, z2, z3⟩ := v_copySc (L := L) (xs := xs) (d + 56) b3 hx.2.2.2.2.1 (by omega) hv.2.2.2.2.1 (fun t o ht _ q1 q2 => Sc_no_To b3.1 ht q1 q2)
  have hz := XI_sc hx hj b1 b2 z2 z3
  refine ⟨b, z, b1, ?_, hz, OffM_of z2 (fun o q => by omega)⟩
  rw [bX12_image_37 (hv2 := rfl)]
  simp only [WM_tape hW, WM_townReader hW, WM_ruleReader hW, WM_rules hW, WM_ruleCount hW, WM_now hW, WM_images hW, WM_clock hW, WM_outlook hW, WM_history hW, WMw_ruleCount hW, WMw_blankRule hW, WM_is hW, Sc_state hS, Sc_past hS, Sc_force hS, Sc_x hS, Sc_notes hS, Sc_noteHour hS, Sc_noteStranger hS, Sc_notePerson hS, Scw_town hS, Scw_force hS, Scw_x hS, Scw_notes hS, Sc_is hS, Sce_noteHour hS, Sce_noteStranger hS, Sce_notePerson hS, Scu_noteHour hS, Scu_noteStranger hS, Scu_notePerson hS, St_hour hB, St_chain hB, St_come hB, St_open hB, St_place hB, St_kind hB, St_asked hB, St_total hB, St_chains hB, St_at hB, St_before hB, Stw_hour hB, Stw_chain hB, Stw_come hB, Stw_open hB, St_is hB, Ste_place hB, Ste_kind hB, Ste_asked hB, Ste_total hB, Ste_chains hB, Ste_at hB, Ste_before hB, Stu_place hB, Stu_kind hB, Stu_asked hB, Stu_total hB, Stu_chains hB, Stu_at hB, Stu_before hB, some_bind', Sc_is b3.1, z1]
  rw [show z.1 10 0 = W.2.1.2.1.1.1 from Xhour (W := (W.1, W.2.1, setI W.2.2.1 j W.2.1, W.2.2.2)) hz]
theorem Sp_image (hv : VW W) (a : Int32) : Step L xs W mX12_image mX13_image [.int a] := by
  by_cases ha : wiB 0 3 a = true
  · obtain ⟨j, -, hj, rfl⟩ := wiB_ex (lo := 0) (hi := 3) rfl rfl (by decide) (by decide) ha
    refine ⟨(W.1, W.2.1, setI W.2.2.1 j W.2.1, W.2.2.2), W.2.1.2.1.1.1, fun sh y d hx => ?_, fun sh x m d hM hi => ?_⟩
    · have hS : isSc sh 3 := hx.1.1.2.2.1
      have hW : isWM sh 0 := hx.1.1.1
      have h204 : sh[204]? = some (.inl (6, 4)) := hx.1.2.1.2.2.2
      cases hc : W.2.2.1 j with
      | some c0 =>
        obtain ⟨b, z, b1, z1', z2, z3⟩ := X_copyI d hx hv.2.1.1 (by omega) hc
        refine ⟨sh, z, cI_of ?_, z2, z3, Gr_refl _⟩
        show RS (ZZ L xs) (d + 60) mX12_image 0 [some (.ref 0), some (.int (nI j)), none] [] _ = _
        rw [bX12_image_0, i_within, some_bind', if_pos (z1 ha), WM_images hW, some_bind', rAR (by omega) h204 (by omega) (by decide), b1, some_bind', show isN (va_rf (some b)) = some false from rfl, some_bind', if_neg (by decide)]
        exact z1'
      | none =>
        have hl := isXS_len hx.1
        obtain ⟨n1, n2⟩ := isSc_new sh
        have hext := Ext_app sh (shSc sh.length)
        have off0 := Off_bl y sh.length (ISc sh.length) (RSc sh.length) (ASc sh.length)
        have hap := HP_blk (sh := sh) (e := shSc sh.length) off0 (blk_Sc y sh.length)
        have hx1 := XI_ext hext off0 hx
        have hcell : (bl y sh.length (ISc sh.length) (RSc sh.length) (ASc sh.length)).2.2.1 sh.length 0 = .ref (sh.length + 1) := by
          rw [bl_R (Nat.le_refl _)]
          exact if_pos rfl
        have hpa : PaOK (bl y sh.length (ISc sh.length) (RSc sh.length) (ASc sh.length)) (sh.length + 15) 0 (fun _ => W.2.1.2.1) := by
          refine ⟨fun i hi => ?_, Nat.zero_le _, ?_, 0, by decide, ?_, fun i hi => absurd hi (Nat.not_lt_zero _)⟩
          · rw [bl_AR (by omega)]
            unfold ASc
            rw [if_pos rfl, if_pos hi]
          · rw [bl_I (by omega)]
            unfold ISc
            rw [if_neg (by omega), if_neg (by omega)]
            rfl
          · rw [bl_I (by omega)]
            unfold ISc
            rw [if_neg (by omega), if_neg (by omega)]
            rfl
        have hsc : XSc (sh ++ shSc sh.length) (bl y sh.length (ISc sh.length) (RSc sh.length) (ASc sh.length)) sh.length ((gTo (bl y sh.length (ISc sh.length) (RSc sh.length) (ASc sh.length)) (sh.length + 1), 0, 0, 0), gSt (bl y sh.length (ISc sh.length) (RSc sh.length) (ASc sh.length)) (sh.length + 7), (0, fun _ => W.2.1.2.1), (-1, 0), (0, fun _ _ => 0)) := by
          refine ⟨n1, ⟨sh.length + 1, hcell, n2, by omega, rfl⟩, SQ_refl _, hpa, ?_, ?_, ?_, fun _ _ i hi => absurd hi (Nat.not_lt_zero _)⟩
          · rw [bl_I (Nat.le_refl _)]
            unfold ISc
            rw [if_neg (by omega), if_pos ⟨rfl, rfl⟩]
          · rw [bl_I (Nat.le_refl _)]
            unfold ISc
            rw [if_neg (by omega), if_neg (by omega)]
          · rw [bl_I (Nat.le_refl _)]
            unfold ISc
            rw [if_neg (by omega), if_neg (by omega)]
            rfl
        generalize bl y sh.length (ISc sh.length) (RSc sh.length) (ASc sh.length) = y1 at *
        have off1 : Off (fun o => o = 204) y1 (sAR y1 204 (updR (y1.2.2.2.2.2 204) j (some sh.length))) := Off_sAR (Off_refl _ _) (by rfl) _
        have hx2 : XI L xs (sh ++ shSc sh.length) (sAR y1 204 (updR (y1.2.2.2.2.2 204) j (some sh.length))) (W.1, W.2.1, setI W.2.2.1 j ((gTo y1 (sh.length + 1), 0, 0, 0), gSt y1 (sh.length + 7), (0, fun _ => W.2.1.2.1), (-1, 0), (0, fun _ _ => 0)), W.2.2.2) := by
          obtain ⟨a1, a2, a3, a4, a5, ⟨a6, a6'⟩, a7⟩ := hx1
          have eo : ∀ k, k ≠ j → (sAR y1 204 (updR (y1.2.2.2.2.2 204) j (some sh.length))).2.2.2.2.2 204 k = y1.2.2.2.2.2 204 k := fun k hk => by
            rw [sAR_at]
            exact if_neg hk
          have en : (sAR y1 204 (updR (y1.2.2.2.2.2 204) j (some sh.length))).2.2.2.2.2 204 j = some sh.length := by
            rw [sAR_at]
            exact if_pos rfl
          have old : ∀ k, k < 4 → ∀ q, y1.2.2.2.2.2 204 k = some q → q + 180 ≤ sh.length := fun k hk q hq => by
            have e204 := (off0 204 (by omega)).2.2.2.2.2
            rw [e204] at hq
            cases hg : W.2.2.1 k with
            | none =>
              rw [(hx.2.2.2.2.2.1.1 k hk).1 hg] at hq
              cases hq
            | some c' =>
              obtain ⟨q', q1, q2, q3⟩ := (hx.2.2.2.2.2.1.1 k hk).2 c' hg
              rw [q1] at hq
              cases hq
              have := len_of q3.1.2.2.2.1
              omega
          refine ⟨a1, XTa_off off1 (by omega) (by omega) a2, ?_, XTu_off off1 (by omega) a4, XSc_off off1 (fun o q => by omega) (fun t o ht _ q1 q2 => by omega) a5, ⟨fun k hk => ⟨fun hg => ?_, fun c' hg => ?_⟩, fun i k q q' hi hk hik q1 q2 => ?_⟩, XRl_off off1 (by omega) (by omega) (fun o q1 q2 => by omega) (fun o q => by omega) a7⟩
          · rw [gCk_off off1 (fun o q1 q2 => by omega)]
            exact a3
          · have hg : setI W.2.2.1 j _ k = none := hg
            unfold setI at hg
            by_cases e : k = j
            · rw [if_pos e] at hg
              cases hg
            · rw [if_neg e] at hg
              rw [eo k e]
              exact (a6 k hk).1 hg
          · have hg : setI W.2.2.1 j _ k = some c' := hg
            unfold setI at hg
            by_cases e : k = j
            · rw [if_pos e] at hg
              cases hg
              subst e
              exact ⟨sh.length, en, hl, XSc_off off1 (fun o q => by omega) (fun t o ht _ q1 q2 => by omega) hsc⟩
            · rw [if_neg e] at hg
              obtain ⟨q, q1, q2, q3⟩ := (a6 k hk).2 c' hg
              exact ⟨q, by rw [eo k e]; exact q1, q2, XSc_off off1 (fun o q => by omega) (fun t o ht _ q1 q2 => by omega) q3⟩
          · by_cases e1 : i = j
            · by_cases e2 : k = j
              · omega
              · rw [e1, en] at q1
                rw [eo k e2] at q2
                cases q1
                exact Or.inr (old k hk _ q2)
            · by_cases e2 : k = j
              · rw [e2, en] at q2
                rw [eo i e1] at q1
                cases q2
                exact Or.inl (old i hi _ q1)
              · rw [eo i e1] at q1
                rw [eo k e2] at q2
                exact a6' i k q q' hi hk hik q1 q2
        obtain ⟨b, z, b1, z1', z2, z3⟩ := X_copyI (c0 := ((gTo y1 (sh.length + 1), 0, 0, 0), gSt y1 (sh.length + 7), (0, fun _ => W.2.1.2.1), (-1, 0), (0, fun _ _ => 0))) d hx2 hv.2.1.1 (show j < 4 by omega) (if_pos rfl)
        have eb : b = sh.length := by
          have : (if 204 = 204 then updR (y1.2.2.2.2.2 204) j (some sh.length) else y1.2.2.2.2.2 204) j = some b := b1
          rw [if_pos rfl] at this
          have h2 : (if j = j then some sh.length else y1.2.2.2.2.2 204 j) = some b := this
          rw [if_pos rfl] at h2
          cases h2
          rfl
        subst eb
        have hset : (fun k => setI (setI W.2.2.1 j ((gTo y1 (sh.length + 1), 0, 0, 0), gSt y1 (sh.length + 7), (0, fun _ => W.2.1.2.1), (-1, 0), (0, fun _ _ => 0))) j W.2.1 k) = setI W.2.2.1 j W.2.1 := by
          funext k
          unfold setI
          by_cases e : k = j
          · rw [if_pos e, if_pos e]
          · rw [if_neg e, if_neg e, if_neg e]
        have z2 : XI L xs (sh ++ shSc sh.length) z (W.1, W.2.1, setI W.2.2.1 j W.2.1, W.2.2.2) := by
          rw [← hset]
          exact z2
        refine ⟨sh ++ shSc sh.length, z, cI_of ?_, z2, Off_trans (Off_trans (Off_mono off0 (fun o q => by omega)) (Off_mono off1 (fun o q => by omega))) z3, ?_, ?_⟩
        · show RS (ZZ L xs) (d + 60) mX12_image 0 [some (.ref 0), some (.int (nI j)), none] [] _ = _
          have hptr := (hx.2.2.2.2.2.1.1 j (by omega)).1 hc
          have hk := kv_Scene (L := L) (xs := xs) (d + 56) (HP sh y)
          rw [HP_len, hap] at hk
          rw [bX12_image_0, i_within, some_bind', if_pos (z1 ha), WM_images hW, some_bind', rAR (by omega) h204 (by omega) (by decide), hptr, some_bind', show isN (va_rf none) = some true from rfl, some_bind', if_pos rfl]
          show (cV (ZZ L xs) (d + 59) mX6_init [.ref (HP sh y).length] (HP sh y ++ [dSc])).bind _ = _
          rw [HP_len, hk, some_bind', WM_images hx1.1.1.1, some_bind', wAR (by omega) hx1.1.2.1.2.2.2 (by omega) (by decide) n1.1, some_bind']
          exact z1'
        · rw [List.length_append, shSc_len]
          omega
        · rw [slS_app]
          have := shSc_sl sh.length
          omega
    · have e46 : (mA m 46 j 1).2.1 46 j = 1 := by rw [mA_eq, upd_at]
      have hput := v_putK (L := L) (xs := xs) (x := x) (m := mA m 46 j 1) (d + 57) hM (k := j) (by omega)
      obtain ⟨f1, f2, f3, f4⟩ := finput_spec (mA m 46 j 1) j
      generalize finput (mA m 46 j 1) j = m1 at *
      have big : ∀ b, b ≠ 39 → b ≠ 45 → b ≠ 46 → m1.2.1 b = m.2.1 b := fun b h1 h2 h3 => (f1 b h1 h2).trans (mA_ne _ _ _ h3)
      have hsq : SQM m m1 := ⟨f2 51 (by decide) (by decide), fun a ha i _ => by rw [big a (by omega) (by omega) (by omega)]⟩
      obtain ⟨⟨a1, a2⟩, b0, cc, ⟨d1, d2⟩, e0⟩ := id hi
      refine ⟨m1, cI_of ?_, ⟨⟨(f2 28 (by decide) (by decide)).trans a1, fun i hi2 => by rw [big 27 (by decide) (by decide) (by decide)]; exact a2 i hi2⟩, MSc_q hsq hv.2.1.1 b0, fun k hk => ⟨fun hg => ?_, fun c hg => ?_⟩, ⟨(f2 32 (by decide) (by decide)).trans d1, (f2 37 (by decide) (by decide)).trans d2⟩, fun i hi2 => MRu_fr (fun a h1 h2 q _ => by rw [big a (by omega) (by omega) (by omega)]) (e0 i hi2)⟩, hv.1, hv.2.1, fun k c hk hg => ?_, hv.2.2.2⟩
      · show RS (ZZ L xs) (d + 60) mX13_image 0 [some (.ref 259), some (.int (nI j))] [] _ = _
        rw [bX13_image_0, i_inM _ (show (0 : Int64) = (0 : Int32).toInt64 from rfl) (show (3 : Int64) = (3 : Int32).toInt64 from rfl), some_bind', if_pos (z1 ha), M_isMade hM, some_bind', Mu_isMade hM (by omega), some_bind', M_is hM, some_bind']
        rw [show vp_nar .boolean 1 = 1 from rfl, hput, some_bind', M_scalar hM, some_bind', eI_l4, Me_scalar hM (by decide), some_bind', big 0 (by decide) (by decide) (by decide), hi.2.1.2.1.2.1]
      · have hg : (if k = j then some W.2.1 else W.2.2.1 k) = none := hg
        by_cases e : k = j
        · rw [if_pos e] at hg
          cases hg
        · rw [if_neg e] at hg
          rw [f1 46 (by decide) (by decide), mA_eq, upd_ne _ _ e]
          exact (cc k hk).1 hg
      · have hg : (if k = j then some W.2.1 else W.2.2.1 k) = some c := hg
        by_cases e : k = j
        · rw [if_pos e] at hg
          cases hg
          subst e
          refine ⟨by rw [f1 46 (by decide) (by decide)]; exact e46, MSc_q (m := m) ⟨f4.1, fun a ha i hi2 => ?_⟩ hv.2.1.1 b0⟩
          rw [f4.2 a ha i hi2, mA_ne _ _ _ (by omega)]
        · rw [if_neg e] at hg
          refine ⟨by rw [f1 46 (by decide) (by decide), mA_eq, upd_ne _ _ e]; exact ((cc k hk).2 c hg).1, ?_⟩
          refine MSc_q (unI_q fun t ht => ?_) (hv.2.2.1 k c hk hg).1 ((cc k hk).2 c hg).2
          rw [f3 _ (by omega), mA_ne _ _ _ (by decide)]
      · have hg : (if k = j then some W.2.1 else W.2.2.1 k) = some c := hg
        by_cases e : k = j
        · rw [if_pos e] at hg
          cases hg
          exact hv.2.1
        · rw [if_neg e] at hg
          exact hv.2.2.1 k c hk hg
  · refine ⟨W, -1, Xsame fun sh y d hx => ?_, Msame hv fun sh x m d hM hi => ?_⟩
    · show RS (ZZ L xs) (d + 60) mX12_image 0 [some (.ref 0), some (.int a), none] [] _ = _
      rw [bX12_image_0, i_within, some_bind', if_neg (fun z => z (z0 ha))]
    · show RS (ZZ L xs) (d + 60) mX13_image 0 [some (.ref 259), some (.int a)] [] _ = _
      rw [bX13_image_0, i_inM _ (show (0 : Int64) = (0 : Int32).toInt64 from rfl) (show (3 : Int64) = (3 : Int32).toInt64 from rfl), some_bind', if_neg (fun z => z (z0 ha))]
theorem Sp_back (hv : VW W) (a : Int32) : Step L xs W mX12_back mX13_back [.int a] := by
  by_cases ha : wiB 0 3 a = true
  · obtain ⟨j, -, hj, rfl⟩ := wiB_ex (lo := 0) (hi := 3) rfl rfl (by decide) (by decide) ha
    cases hc : W.2.2.1 j with
    | none =>
      refine ⟨W, -1, Xsame fun sh y d hx => ?_, Msame hv fun sh x m d hM hi => ?_⟩
      · have h204 : sh[204]? = some (.inl (6, 4)) := hx.1.2.1.2.2.2
        show RS (ZZ L xs) (d + 60) mX12_back 0 [some (.ref 0), some (.int (nI j)), none] [] _ = _
        rw [bX12_back_0, i_within, some_bind', if_pos (z1 ha), WM_images hx.1.1.1, some_bind', rAR (by omega) h204 (by omega) (by decide), (hx.2.2.2.2.2.1.1 j (by omega)).1 hc, some_bind', show isN (va_rf none) = some true from rfl, some_bind', if_pos rfl]
      · show RS (ZZ L xs) (d + 60) mX13_back 0 [some (.ref 259), some (.int (nI j))] [] _ = _
        rw [bX13_back_0, i_inM _ (show (0 : Int64) = (0 : Int32).toInt64 from rfl) (show (3 : Int64) = (3 : Int32).toInt64 from rfl), some_bind', if_neg (z1 ha), M_isMade hM, some_bind', Me_isMade hM (by omega), some_bind', (hi.2.2.1 j (by omega)).1 hc, if_neg (fun z => z rfl), bX13_back_21]
    | some c =>
      obtain ⟨hvc, hvf⟩ := hv.2.2.1 j c (by omega) hc
      refine ⟨setN W c, c.2.1.1.1, fun sh y d hx => ?_, fun sh x m d hM hi => ?_⟩
      · have hS : isSc sh 3 := hx.1.1.2.2.1
        have hB : isSt sh 10 := hS.2.2.2.2.1
        have hW : isWM sh 0 := hx.1.1.1
        have h204 : sh[204]? = some (.inl (6, 4)) := hx.1.2.1.2.2.2
        obtain ⟨b, b1, b2, b3⟩ := (hx.2.2.2.2.2.1.1 j (by omega)).2 c hc
        obtain ⟨z, z1', z2, z3⟩ := v_copySc (L := L) (xs := xs) (d + 56) hx.2.2.2.2.1 b3 (by omega) hvc.2.2.2.2.1 (fun t o _ ht q1 q2 => by omega)
        have hz : XI L xs sh z (setN W c) := by
          refine XI_a (Off_mono z2 (fun o q => by unfold Da; omega)) ?_ z3 hx
          rw [gCk_off z2 (fun o q1 q2 => by omega)]
          exact hx.2.2.1
        refine ⟨sh, z, cI_of ?_, hz, OffM_of z2 (fun o q => by omega), Gr_refl _⟩
        show RS (ZZ L xs) (d + 60) mX12_back 0 [some (.ref 0), some (.int (nI j)), none] [] _ = _
        rw [bX12_back_0, i_within, some_bind', if_pos (z1 ha), WM_images hW, some_bind', rAR (by omega) h204 (by omega) (by decide), b1, some_bind', show isN (va_rf (some b)) = some false from rfl, some_bind', if_neg (by decide)]
        show ((fR (HP sh y) (.ref 0) 12 6).bind fun x25 => (iO (HP sh y) x25 6).bind fun b29 => (cV (ZZ L xs) (d + 59) mX6_copyFrom [.ref b29, .ref b] (HP sh y)).bind fun p29 => (fR p29 (.ref 0) 12 6).bind fun x33 => (fR p29 x33 6 1).bind fun x36 => (fI p29 x36 7 0).bind fun x39 => some (p29, some (Value.int x39))) = _
        simp only [WM_tape hW, WM_townReader hW, WM_ruleReader hW, WM_rules hW, WM_ruleCount hW, WM_now hW, WM_images hW, WM_clock hW, WM_outlook hW, WM_history hW, WMw_ruleCount hW, WMw_blankRule hW, WM_is hW, Sc_state hS, Sc_past hS, Sc_force hS, Sc_x hS, Sc_notes hS, Sc_noteHour hS, Sc_noteStranger hS, Sc_notePerson hS, Scw_town hS, Scw_force hS, Scw_x hS, Scw_notes hS, Sc_is hS, Sce_noteHour hS, Sce_noteStranger hS, Sce_notePerson hS, Scu_noteHour hS, Scu_noteStranger hS, Scu_notePerson hS, St_hour hB, St_chain hB, St_come hB, St_open hB, St_place hB, St_kind hB, St_asked hB, St_total hB, St_chains hB, St_at hB, St_before hB, Stw_hour hB, Stw_chain hB, Stw_come hB, Stw_open hB, St_is hB, Ste_place hB, Ste_kind hB, Ste_asked hB, Ste_total hB, Ste_chains hB, Ste_at hB, Ste_before hB, Stu_place hB, Stu_kind hB, Stu_asked hB, Stu_total hB, Stu_chains hB, Stu_at hB, Stu_before hB, some_bind', z1']
        rw [show z.1 10 0 = c.2.1.1.1 from Xhour hz]
      · have hget := v_getK (L := L) (xs := xs) (x := x) (m := m) (d + 57) hM (k := j) (by omega)
        obtain ⟨f1, f2, f3⟩ := finget_spec m j
        generalize finget m j = m1 at *
        have hsc := MSc_q f3 hvc ((hi.2.2.1 j (by omega)).2 c hc).2
        refine ⟨m1, cI_of ?_, MI_now (m := m) ⟨⟨f2 28 (by decide) (by decide) (by decide), f2 32 (by decide) (by decide) (by decide), f2 37 (by decide) (by decide) (by decide)⟩, fun a i ha h38 hi2 => by rw [f1 a (by omega) h38 (mlen_j hi2).2.2.2.1]⟩ hv hi hsc, VW_now hv hvc hvf⟩
        show RS (ZZ L xs) (d + 60) mX13_back 0 [some (.ref 259), some (.int (nI j))] [] _ = _
        rw [bX13_back_0, i_inM _ (show (0 : Int64) = (0 : Int32).toInt64 from rfl) (show (3 : Int64) = (3 : Int32).toInt64 from rfl), some_bind', if_neg (z1 ha), M_isMade hM, some_bind', Me_isMade hM (by omega), some_bind', ((hi.2.2.1 j (by omega)).2 c hc).1, if_pos (by decide), M_is hM, some_bind', hget, some_bind', M_scalar hM, some_bind', eI_l4, Me_scalar hM (by decide), some_bind', hsc.2.1.2.1]
  · refine ⟨W, -1, Xsame fun sh y d hx => ?_, Msame hv fun sh x m d hM hi => ?_⟩
    · show RS (ZZ L xs) (d + 60) mX12_back 0 [some (.ref 0), some (.int a), none] [] _ = _
      rw [bX12_back_0, i_within, some_bind', if_neg (fun z => z (z0 ha))]
    · show RS (ZZ L xs) (d + 60) mX13_back 0 [some (.ref 259), some (.int a)] [] _ = _
      rw [bX13_back_0, i_inM _ (show (0 : Int64) = (0 : Int32).toInt64 from rfl) (show (3 : Int64) = (3 : Int32).toInt64 from rfl), some_bind', if_pos (z0 ha), bX13_back_21]
end IMAGE
