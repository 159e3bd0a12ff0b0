/-! what the Statement gives at the law's entry: the frame of the pure machine -/
theorem inst_all : ∀ (ci : Nat) (C : String) (T : u_T) (N : Nat), vwCl[ci]? = some (C, T, N) → Cond.instantiable C N ∈ GW := by
  intro ci C T N h
  match ci, h with
  | 0, h => cases h; exact gw_378
  | 1, h => cases h; exact gw_534
  | 2, h => cases h; exact gw_492
  | 3, h => cases h; exact gw_316
  | 4, h => cases h; exact gw_454
  | 5, h => cases h; exact gw_440
  | 6, h => cases h; exact gw_170
  | 7, h => cases h; exact gw_245
  | 8, h => cases h; exact gw_135
  | 9, h => cases h; exact gw_176
  | 10, h => cases h; exact gw_430
  | 11, h => cases h; exact gw_384
  | 12, h => cases h; exact gw_127
  | 13, h => cases h; exact gw_1245
  | ci + 14, h => simp [vwCl] at h
def sTm (i : Nat) : Term := match strL[i]? with
  | some q => .string q.1 q.2.1
  | none => .arg 0
def sNeed (i : Nat) : List Cond := [Cond.exactly (sTm i) "java/lang/String", Cond.eq (.field (sTm i) "java/lang/String" "coder" "B") (.int 0), Cond.arrayOf (.field (sTm i) "java/lang/String" "value" "[B") .byte, Cond.eq (.length (.field (sTm i) "java/lang/String" "value" "[B")) (.int (Int32.ofNat (sLen.getD i 0)))] ++ (List.range (sLen.getD i 0)).map (fun j => Cond.eq (.elem (.field (sTm i) "java/lang/String" "value" "[B") (.int (Int32.ofNat j))) (.int ((sByt.getD i []).getD j 0)))
theorem sn_0 : ((flatC (Jvm.Cond.and given_1 narrow_1)).drop 51).take 32 = sNeed 0 := by decide +kernel
theorem sn_1 : ((flatC (Jvm.Cond.and given_1 narrow_1)).drop 83).take 5 = sNeed 1 := by decide +kernel
theorem sn_2 : ((flatC (Jvm.Cond.and given_1 narrow_1)).drop 88).take 8 = sNeed 2 := by decide +kernel
theorem sn_3 : ((flatC (Jvm.Cond.and given_1 narrow_1)).drop 96).take 76 = sNeed 3 := by decide +kernel
theorem sn_4 : ((flatC (Jvm.Cond.and given_1 narrow_1)).drop 172).take 9 = sNeed 4 := by decide +kernel
theorem sn_5 : ((flatC (Jvm.Cond.and given_1 narrow_1)).drop 181).take 7 = sNeed 5 := by decide +kernel
theorem sn_6 : ((flatC (Jvm.Cond.and given_1 narrow_1)).drop 188).take 8 = sNeed 6 := by decide +kernel
theorem sn_7 : ((flatC (Jvm.Cond.and given_1 narrow_1)).drop 196).take 5 = sNeed 7 := by decide +kernel
theorem sn_8 : ((flatC (Jvm.Cond.and given_1 narrow_1)).drop 201).take 5 = sNeed 8 := by decide +kernel
theorem sn_9 : ((flatC (Jvm.Cond.and given_1 narrow_1)).drop 206).take 7 = sNeed 9 := by decide +kernel
theorem sn_10 : ((flatC (Jvm.Cond.and given_1 narrow_1)).drop 213).take 11 = sNeed 10 := by decide +kernel
theorem sn_11 : ((flatC (Jvm.Cond.and given_1 narrow_1)).drop 224).take 8 = sNeed 11 := by decide +kernel
theorem sn_12 : ((flatC (Jvm.Cond.and given_1 narrow_1)).drop 232).take 10 = sNeed 12 := by decide +kernel
theorem sn_13 : ((flatC (Jvm.Cond.and given_1 narrow_1)).drop 242).take 10 = sNeed 13 := by decide +kernel
theorem sn_14 : ((flatC (Jvm.Cond.and given_1 narrow_1)).drop 252).take 12 = sNeed 14 := by decide +kernel
theorem sn_15 : ((flatC (Jvm.Cond.and given_1 narrow_1)).drop 264).take 7 = sNeed 15 := by decide +kernel
theorem sn_16 : ((flatC (Jvm.Cond.and given_1 narrow_1)).drop 271).take 8 = sNeed 16 := by decide +kernel
theorem sn_17 : ((flatC (Jvm.Cond.and given_1 narrow_1)).drop 279).take 9 = sNeed 17 := by decide +kernel
theorem sn_18 : ((flatC (Jvm.Cond.and given_1 narrow_1)).drop 288).take 10 = sNeed 18 := by decide +kernel
theorem sn_19 : ((flatC (Jvm.Cond.and given_1 narrow_1)).drop 298).take 10 = sNeed 19 := by decide +kernel
theorem sn_20 : ((flatC (Jvm.Cond.and given_1 narrow_1)).drop 308).take 9 = sNeed 20 := by decide +kernel
theorem sn_21 : ((flatC (Jvm.Cond.and given_1 narrow_1)).drop 317).take 7 = sNeed 21 := by decide +kernel
theorem sn_22 : ((flatC (Jvm.Cond.and given_1 narrow_1)).drop 324).take 9 = sNeed 22 := by decide +kernel
theorem sn_23 : ((flatC (Jvm.Cond.and given_1 narrow_1)).drop 333).take 8 = sNeed 23 := by decide +kernel
theorem sn_24 : ((flatC (Jvm.Cond.and given_1 narrow_1)).drop 341).take 8 = sNeed 24 := by decide +kernel
theorem sn_25 : ((flatC (Jvm.Cond.and given_1 narrow_1)).drop 349).take 8 = sNeed 25 := by decide +kernel
theorem sn_26 : ((flatC (Jvm.Cond.and given_1 narrow_1)).drop 357).take 6 = sNeed 26 := by decide +kernel
theorem sn_27 : ((flatC (Jvm.Cond.and given_1 narrow_1)).drop 363).take 7 = sNeed 27 := by decide +kernel
theorem sn_28 : ((flatC (Jvm.Cond.and given_1 narrow_1)).drop 370).take 7 = sNeed 28 := by decide +kernel
theorem sn_29 : ((flatC (Jvm.Cond.and given_1 narrow_1)).drop 377).take 6 = sNeed 29 := by decide +kernel
theorem sNeed_in : ∀ i, i < 30 → ∀ c ∈ sNeed i, c ∈ flatC (Jvm.Cond.and given_1 narrow_1) := by
  intro i hi c hc
  match i, hi, hc with
  | 0, _, hc => rw [← sn_0] at hc; exact List.mem_of_mem_drop (List.mem_of_mem_take hc)
  | 1, _, hc => rw [← sn_1] at hc; exact List.mem_of_mem_drop (List.mem_of_mem_take hc)
  | 2, _, hc => rw [← sn_2] at hc; exact List.mem_of_mem_drop (List.mem_of_mem_take hc)
  | 3, _, hc => rw [← sn_3] at hc; exact List.mem_of_mem_drop (List.mem_of_mem_take hc)
  | 4, _, hc => rw [← sn_4] at hc; exact List.mem_of_mem_drop (List.mem_of_mem_take hc)
  | 5, _, hc => rw [← sn_5] at hc; exact List.mem_of_mem_drop (List.mem_of_mem_take hc)
  | 6, _, hc => rw [← sn_6] at hc; exact List.mem_of_mem_drop (List.mem_of_mem_take hc)
  | 7, _, hc => rw [← sn_7] at hc; exact List.mem_of_mem_drop (List.mem_of_mem_take hc)
  | 8, _, hc => rw [← sn_8] at hc; exact List.mem_of_mem_drop (List.mem_of_mem_take hc)
  | 9, _, hc => rw [← sn_9] at hc; exact List.mem_of_mem_drop (List.mem_of_mem_take hc)
  | 10, _, hc => rw [← sn_10] at hc; exact List.mem_of_mem_drop (List.mem_of_mem_take hc)
  | 11, _, hc => rw [← sn_11] at hc; exact List.mem_of_mem_drop (List.mem_of_mem_take hc)
  | 12, _, hc => rw [← sn_12] at hc; exact List.mem_of_mem_drop (List.mem_of_mem_take hc)
  | 13, _, hc => rw [← sn_13] at hc; exact List.mem_of_mem_drop (List.mem_of_mem_take hc)
  | 14, _, hc => rw [← sn_14] at hc; exact List.mem_of_mem_drop (List.mem_of_mem_take hc)
  | 15, _, hc => rw [← sn_15] at hc; exact List.mem_of_mem_drop (List.mem_of_mem_take hc)
  | 16, _, hc => rw [← sn_16] at hc; exact List.mem_of_mem_drop (List.mem_of_mem_take hc)
  | 17, _, hc => rw [← sn_17] at hc; exact List.mem_of_mem_drop (List.mem_of_mem_take hc)
  | 18, _, hc => rw [← sn_18] at hc; exact List.mem_of_mem_drop (List.mem_of_mem_take hc)
  | 19, _, hc => rw [← sn_19] at hc; exact List.mem_of_mem_drop (List.mem_of_mem_take hc)
  | 20, _, hc => rw [← sn_20] at hc; exact List.mem_of_mem_drop (List.mem_of_mem_take hc)
  | 21, _, hc => rw [← sn_21] at hc; exact List.mem_of_mem_drop (List.mem_of_mem_take hc)
  | 22, _, hc => rw [← sn_22] at hc; exact List.mem_of_mem_drop (List.mem_of_mem_take hc)
  | 23, _, hc => rw [← sn_23] at hc; exact List.mem_of_mem_drop (List.mem_of_mem_take hc)
  | 24, _, hc => rw [← sn_24] at hc; exact List.mem_of_mem_drop (List.mem_of_mem_take hc)
  | 25, _, hc => rw [← sn_25] at hc; exact List.mem_of_mem_drop (List.mem_of_mem_take hc)
  | 26, _, hc => rw [← sn_26] at hc; exact List.mem_of_mem_drop (List.mem_of_mem_take hc)
  | 27, _, hc => rw [← sn_27] at hc; exact List.mem_of_mem_drop (List.mem_of_mem_take hc)
  | 28, _, hc => rw [← sn_28] at hc; exact List.mem_of_mem_drop (List.mem_of_mem_take hc)
  | 29, _, hc => rw [← sn_29] at hc; exact List.mem_of_mem_drop (List.mem_of_mem_take hc)
  | i + 30, hi, _ => exact absurd hi (by omega)
theorem sLen_lt : ∀ i, i < 30 → sLen.getD i 0 < 2 ^ 31 := by decide +kernel
theorem sApart : ∀ i, i < 30 → ∀ j, j < 30 → (sLen.getD i 0, sByt.getD i []) = (sLen.getD j 0, sByt.getD j []) → i = j := by decide +kernel
theorem sLenB : ∀ i, i < 30 → sLen.getD i 0 = (sByt.getD i []).length := by decide +kernel
def sRefs : List Nat := [630, 723, 825, 837, 847, 853, 862, 863, 872, 873, 878, 1480, 1481, 1482, 1483, 1543, 1567, 1568, 1569, 1570, 1571, 1572, 1573, 1574, 1575, 1576, 1577, 1590, 1607, 1608]
theorem sRefs_in : ∀ i, i < 30 → ∀ q, strL[i]? = some q → lw_tbl[sRefs.getD i 0]? = some (Cond.stringRef q.1 q.2.1 q.2.2) := by
  intro i hi q hq
  match i, hi, hq with
  | 0, _, hq => cases hq; decide +kernel
  | 1, _, hq => cases hq; decide +kernel
  | 2, _, hq => cases hq; decide +kernel
  | 3, _, hq => cases hq; decide +kernel
  | 4, _, hq => cases hq; decide +kernel
  | 5, _, hq => cases hq; decide +kernel
  | 6, _, hq => cases hq; decide +kernel
  | 7, _, hq => cases hq; decide +kernel
  | 8, _, hq => cases hq; decide +kernel
  | 9, _, hq => cases hq; decide +kernel
  | 10, _, hq => cases hq; decide +kernel
  | 11, _, hq => cases hq; decide +kernel
  | 12, _, hq => cases hq; decide +kernel
  | 13, _, hq => cases hq; decide +kernel
  | 14, _, hq => cases hq; decide +kernel
  | 15, _, hq => cases hq; decide +kernel
  | 16, _, hq => cases hq; decide +kernel
  | 17, _, hq => cases hq; decide +kernel
  | 18, _, hq => cases hq; decide +kernel
  | 19, _, hq => cases hq; decide +kernel
  | 20, _, hq => cases hq; decide +kernel
  | 21, _, hq => cases hq; decide +kernel
  | 22, _, hq => cases hq; decide +kernel
  | 23, _, hq => cases hq; decide +kernel
  | 24, _, hq => cases hq; decide +kernel
  | 25, _, hq => cases hq; decide +kernel
  | 26, _, hq => cases hq; decide +kernel
  | 27, _, hq => cases hq; decide +kernel
  | 28, _, hq => cases hq; decide +kernel
  | 29, _, hq => cases hq; decide +kernel
  | i + 30, hi, _ => exact absurd hi (by omega)
def nestP : List Nat := [136, 171, 177, 246, 323, 379, 407, 455, 498, 540, 609]
theorem nest_in : ∀ q ∈ nestL, Cond.methodLinkNest q.1 q.2.1 q.2.2.1 q.2.2.2 ∈ lw_tbl := by
  exact List.forall_mem_cons.mpr ⟨List.mem_of_getElem? (i := 136) (by decide +kernel), List.forall_mem_cons.mpr ⟨List.mem_of_getElem? (i := 171) (by decide +kernel), List.forall_mem_cons.mpr ⟨List.mem_of_getElem? (i := 177) (by decide +kernel), List.forall_mem_cons.mpr ⟨List.mem_of_getElem? (i := 246) (by decide +kernel), List.forall_mem_cons.mpr ⟨List.mem_of_getElem? (i := 323) (by decide +kernel), List.forall_mem_cons.mpr ⟨List.mem_of_getElem? (i := 379) (by decide +kernel), List.forall_mem_cons.mpr ⟨List.mem_of_getElem? (i := 407) (by decide +kernel), List.forall_mem_cons.mpr ⟨List.mem_of_getElem? (i := 455) (by decide +kernel), List.forall_mem_cons.mpr ⟨List.mem_of_getElem? (i := 498) (by decide +kernel), List.forall_mem_cons.mpr ⟨List.mem_of_getElem? (i := 540) (by decide +kernel), List.forall_mem_cons.mpr ⟨List.mem_of_getElem? (i := 609) (by decide +kernel), fun _ h => absurd h List.not_mem_nil⟩⟩⟩⟩⟩⟩⟩⟩⟩⟩⟩
theorem ao_4 : Cond.arrayOver (.object RX4) ∈ lw_tbl := List.mem_of_getElem? (i := 453) (by decide +kernel)
theorem ao_7 : Cond.arrayOver (.object RX7) ∈ lw_tbl := List.mem_of_getElem? (i := 322) (by decide +kernel)
theorem ao_6 : Cond.arrayOver (.object RX6) ∈ lw_tbl := List.mem_of_getElem? (i := 490) (by decide +kernel)
theorem ls_c : Cond.laysStatic "java/lang/String" "COMPACT_STRINGS" "Z" ∈ lw_tbl := List.mem_of_getElem? (i := 644) (by decide +kernel)
theorem ls_p : Cond.laysStatic "jdk/internal/util/Preconditions" "SIOOBE_FORMATTER" "Ljava/util/function/BiFunction;" ∈ lw_tbl := List.mem_of_getElem? (i := 660) (by decide +kernel)
theorem in_c : Cond.initialized "java/lang/String" ∈ lw_tbl := List.mem_of_getElem? (i := 119) (by decide +kernel)
theorem in_p : Cond.initialized "jdk/internal/util/Preconditions" ∈ lw_tbl := List.mem_of_getElem? (i := 121) (by decide +kernel)
theorem env_start {s : State} {b L : Nat} {xs : Nat → Int32} (hts : ∀ w ∈ lw_tbl, w.before #[Value.ref b] s = true) (hgv : (Jvm.Cond.and given_1 narrow_1).before #[Value.ref b] s = true) (hX : va_X b L xs s s.heap) (hbl : b < s.heap.size) : ∃ B : WB, B.1 = s.heap.size ∧ B.2.2.2.1 0 = b ∧ ENV B L xs s s.heap := by
  have hgw : ∀ w ∈ GW, w.before #[Value.ref b] s = true := fun w hw => hts w (List.mem_filter.mp hw).1
  have hs := flat_of_before _ hgv
  have hA : ∀ a : Nat, a < s.heap.size → ¬ s.heap.size ≤ a := fun a h => Nat.not_le.mpr h
  -- classes
  have h1 : ∀ k : Nat, ∃ z : ClassId × (Nat → Nat), ∀ q, vwCl[k]? = some q → u_Kn s q.1 q.2.1 q.2.2 z.1 z.2 := by
    intro k
    cases hq : vwCl[k]? with
    | none => exact ⟨(0, fun _ => 0), fun q h => by cases h⟩
    | some q =>
      obtain ⟨C, T, N⟩ := q
      obtain ⟨c, i, hk⟩ := u_known (n := N) hgw (clOK_all k C T N hq).1 (hgw _ (inst_all k C T N hq))
      exact ⟨(c, i), fun q h => by cases h; exact hk⟩
  obtain ⟨f, hf⟩ := Classical.axiomOfChoice h1
  -- arrays
  have arr : ∀ ty : FieldType, (∀ n, ty ≠ .object n) → Cond.arrayClass ty ∈ GW → ∃ cA, ArrOfT s cA ty ∧ s.vm.findClass ("[" ++ ty.toString) = some cA := by
    intro ty _ hw
    obtain ⟨c, k, comp, e1, e2, e3⟩ := Cond.arrayClass_spec (hgw _ hw)
    exact ⟨c, fun n z => ⟨fun k h => (by cases h), k, e2, comp, e3⟩, e1⟩
  have arq : ∀ n : String, Cond.arrayOver (.object n) ∈ lw_tbl → ∃ cA, ArrOfT s cA (.object n) ∧ va_RA s cA (.object n) := by
    intro n hw
    obtain ⟨comp, c, k, e1, -, e3, e4, e5⟩ := Cond.arrayOver_spec (hts _ hw)
    exact ⟨c, fun n z => ⟨fun k h => (by cases h), k, e3, comp, e4⟩, k, comp, e3, e4, e1, e5⟩
  obtain ⟨c0, a0, r0⟩ := arr .int (fun n h => by cases h) wOK_all.1
  obtain ⟨c1, a1, r1⟩ := arr .long (fun n h => by cases h) wOK_all.2.1
  obtain ⟨c2, a2, r2⟩ := arr .byte (fun n h => by cases h) wOK_all.2.2.1
  obtain ⟨c3, a3, r3⟩ := arr .boolean (fun n h => by cases h) wOK_all.2.2.2
  obtain ⟨c4, a4, r4⟩ := arq RX4 ao_4
  obtain ⟨c5, a5, r5⟩ := arq RX7 ao_7
  obtain ⟨c6, a6, r6⟩ := arq RX6 ao_6
  -- strings
  have h2 : ∀ i : Nat, ∃ z : Nat × Nat, i < 30 → (sTm i).eval #[Value.ref b] s none [] s = some (.ref z.1) ∧ va_O "java/lang/String" z.1 (fun q => s.heap.size ≤ q) s s.heap ∧ va_OF "java/lang/String" "coder" "B" (.int 0) z.1 (fun q => s.heap.size ≤ q) s s.heap ∧ va_OF "java/lang/String" "value" "[B" (.ref z.2) z.1 (fun q => s.heap.size ≤ q) s s.heap ∧ va_T .byte z.2 (sLen.getD i 0) (fun j => .int ((sByt.getD i []).getD j 0)) (fun q => s.heap.size ≤ q) s s.heap := by
    intro i
    by_cases hi : i < 30
    · have need : ∀ c ∈ sNeed i, c.before #[Value.ref b] s = true := fun c hc => hs c (sNeed_in i hi c hc)
      obtain ⟨adK, adV, hk, he⟩ := vk_Sof (args := #[Value.ref b]) (s := s) (N := 1) (tm := fun _ => sTm i) (len := [sLen.getD i 0]) (byt := [sByt.getD i []]) (A := fun q => s.heap.size ≤ q) (fun j hj => by
          have : j = 0 := by omega
          subst this
          exact sLen_lt i hi) (fun j hj => need _ (by simp [sNeed])) (fun j hj => need _ (by simp [sNeed])) (fun j hj => need _ (by simp [sNeed])) (fun j hj => by
          have : j = 0 := by omega
          subst this
          exact need _ (by simp [sNeed])) (fun j hj k hk => by
          have : j = 0 := by omega
          subst this
          have hk : k < sLen.getD i 0 := hk
          exact need _ (by
            unfold sNeed
            exact List.mem_append_right _ (List.mem_map.mpr ⟨k, List.mem_range.mpr hk, rfl⟩))) (fun j k hj hk hne => absurd (by omega : j = k) hne) hA
      exact ⟨(adK 0, adV 0), fun _ => ⟨he 0 (by omega), (hk.1 0 (by omega)).1, (hk.1 0 (by omega)).2.1, (hk.1 0 (by omega)).2.2.1, (hk.1 0 (by omega)).2.2.2⟩⟩
    · exact ⟨(0, 0), fun h => absurd h hi⟩
  obtain ⟨g, hg⟩ := Classical.axiomOfChoice h2
  let B : WB := (s.heap.size, (fun k => (f k).1, fun k => (f k).2), fun t => match t with | 0 => c0 | 1 => c1 | 2 => c2 | 3 => c3 | 4 => c4 | 5 => c5 | _ => c6, fun k => match k with | 0 => b | k + 1 => (g k).1, fun k => (g k).2)
  refine ⟨B, rfl, rfl, ⟨fun k q hq => hf k q hq, fun k q hq => ?_⟩, fun q hq => va_Nw.of rfl (hts _ (nest_in q hq)), ⟨va_AO.of (hts _ ao_4), va_AO.of (hts _ ao_7), va_AO.of (hts _ ao_6)⟩, ⟨hX, hbl⟩, fun k q hq => ?_, ⟨fun i hi => ⟨(hg i hi).2.1, (hg i hi).2.2.1, (hg i hi).2.2.2.1, (hg i hi).2.2.2.2⟩, fun i j hi hj hij => ?_⟩, ?_, ?_⟩
  · match k, hq with
    | 0, hq => cases hq; exact ⟨a0, r0⟩
    | 1, hq => cases hq; exact ⟨a1, r1⟩
    | 2, hq => cases hq; exact ⟨a2, r2⟩
    | 3, hq => cases hq; exact ⟨a3, r3⟩
    | 4, hq => cases hq; exact ⟨a4, r4⟩
    | 5, hq => cases hq; exact ⟨a5, r5⟩
    | 6, hq => cases hq; exact ⟨a6, r6⟩
    | k + 7, hq => simp [tysOf] at hq
  · have hi : k < 30 := by
      have := (List.getElem?_eq_some_iff.mp hq).1
      exact this
    refine vk_R.of (A := #[Value.ref b]) (hts _ (List.mem_of_getElem? (sRefs_in k hi q hq))) ?_
    have := (hg k hi).1
    unfold sTm at this
    rw [hq] at this
    exact this
  · have hij : (g i).1 = (g j).1 := hij
    refine sApart i hi j hj ?_
    obtain ⟨-, -, -, o1, t1⟩ := hg i hi
    obtain ⟨-, -, -, o2, t2⟩ := hg j hj
    rw [hij] at o1
    have hv : (g i).2 = (g j).2 := by
      obtain ⟨_, _, _, f1, cell1, e1, -, d1, -, l1, -⟩ := o1
      obtain ⟨_, _, _, f2, cell2, e2, -, d2, -, l2, -⟩ := o2
      rw [e1] at e2
      cases e2
      rw [d1] at d2
      cases d2
      rw [l1] at l2
      exact Value.ref.inj (Option.some.inj l2)
    rw [hv] at t1
    obtain ⟨cell1, e1, -, -, n1, z1, v1, -⟩ := t1
    obtain ⟨cell2, e2, -, -, n2, z2, v2, -⟩ := t2
    rw [e1] at e2
    cases e2
    have hl : sLen.getD i 0 = sLen.getD j 0 := by
      have h3 := z1.symm.trans z2
      exact (nI_eq (sLen_lt i hi) (sLen_lt j hj)).mp h3
    refine Prod.ext hl ?_
    show sByt.getD i [] = sByt.getD j []
    apply List.ext_getElem?
    intro k
    by_cases hk : k < sLen.getD i 0
    · have w1 := v1 k hk
      have w2 := v2 k (by rw [← hl]; exact hk)
      rw [w1] at w2
      have w3 : (sByt.getD i []).getD k 0 = (sByt.getD j []).getD k 0 := Value.int.inj (Option.some.inj w2)
      have k1 : k < (sByt.getD i []).length := by rw [← sLenB i hi]; exact hk
      have k2 : k < (sByt.getD j []).length := by rw [← sLenB j hj, ← hl]; exact hk
      rw [List.getD_eq_getElem?_getD, List.getD_eq_getElem?_getD (l := sByt.getD j []), List.getElem?_eq_getElem k1, List.getElem?_eq_getElem k2] at w3
      rw [List.getElem?_eq_getElem k1, List.getElem?_eq_getElem k2]
      exact congrArg some w3
    · rw [List.getElem?_eq_none (by rw [← sLenB i hi]; omega), List.getElem?_eq_none (by rw [← sLenB j hj, ← hl]; omega)]
  · refine va_Zof (args := #[Value.ref b]) (hts _ ls_c) (hts _ in_c) ?_ hA
    have := hs (Cond.eq (.static "java/lang/String" "COMPACT_STRINGS" "Z") (.int 1)) (by decide +kernel)
    exact va_eqt this
  · exact va_Zqof (args := #[Value.ref b]) (hts _ ls_p) (hts _ in_p) (hs (Cond.isRef (.static "jdk/internal/util/Preconditions" "SIOOBE_FORMATTER" "Ljava/util/function/BiFunction;")) (by decide +kernel)) hA
