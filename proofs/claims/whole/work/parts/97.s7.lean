/-! the world that the law begins with -/
def w00 : TW := ((fun _ => 0), 0, fun _ _ => 0)
def s00 : SV := ((0, -1, 0), 0, fun _ _ => 0)
def c00 : SCN := ((w00, 0, 0, 0), s00, (0, fun _ => s00), (-1, 0), (0, fun _ _ => 0))
def W00 : WD := ((0, fun _ => 0), c00, (fun _ => none), (0, fun _ _ => 0))
theorem aj_z (i j : Nat) : aj 0 i j = false := by
  unfold aj
  show (0#64).getLsbD _ = false
  simp
theorem VO_z : VO 0 0 := ⟨by decide, fun i j _ _ h => (by rw [aj_z] at h; cases h), fun i j _ _ h => (by rw [aj_z] at h; cases h)⟩
theorem VW_0 : VW W00 := by
  have hs : VSt 0 0 0 s00 := ⟨⟨VO_z, fun p hp => absurd hp (Nat.not_lt_zero p), fun g hg => absurd hg (Nat.not_lt_zero g)⟩, 0, by decide, rfl, ⟨0, by decide, rfl⟩, fun p _ => ⟨0, by decide, rfl⟩, fun p _ _ => rfl⟩
  refine ⟨⟨by decide, fun i hi => absurd hi (Nat.not_lt_zero i)⟩, ⟨⟨⟨⟨rfl, by decide, rfl, by decide⟩, rfl, fun _ => ⟨rfl, rfl⟩, fun h => absurd h (Nat.not_lt_zero 0), VO_z, fun p hp => absurd hp (Nat.not_lt_zero p), fun i _ => aj_z i i⟩, hs, ⟨by decide, fun i hi => absurd hi (Nat.not_lt_zero i)⟩, ⟨0, by decide, rfl⟩, by decide, fun i hi => absurd hi (Nat.not_lt_zero i)⟩, Or.inl rfl⟩, fun k c _ h => (by cases h), by decide, fun i hi => absurd hi (Nat.not_lt_zero i)⟩
section S7
variable {L : Nat} {xs : Nat → Int32}
theorem MI_0 : MI L xs m00 W00 := by
  have hn : ∀ i, i < 8 → nb 0 (nI i) = 0 := fun i hi => by
    have : i = 0 ∨ i = 1 ∨ i = 2 ∨ i = 3 ∨ i = 4 ∨ i = 5 ∨ i = 6 ∨ i = 7 := by omega
    rcases this with rfl | rfl | rfl | rfl | rfl | rfl | rfl | rfl <;> decide
  refine ⟨⟨rfl, fun i hi => absurd hi (Nat.not_lt_zero i)⟩, ⟨⟨⟨rfl, rfl, rfl, rfl, fun p hp => absurd hp (Nat.not_lt_zero p), fun g hg => absurd hg (Nat.not_lt_zero g)⟩, fun p hp => absurd hp (Nat.not_lt_zero p), fun i hi => (hn i hi).symm⟩, ⟨fun i hi => (hn i hi).symm, rfl, rfl, rfl, fun j hj k hk => ?_⟩, ⟨rfl, fun i hi => absurd hi (Nat.not_lt_zero i)⟩, ⟨rfl, rfl⟩, rfl, fun j _ i hi => absurd hi (Nat.not_lt_zero i)⟩, fun k hk => ⟨fun _ => rfl, fun c h => by cases h⟩, ⟨rfl, rfl⟩, fun i hi => absurd hi (Nat.not_lt_zero i)⟩
  have hk : RLv 0 0 j k := hk
  unfold RLv at hk
  by_cases h4 : j ≤ 4
  · rw [if_pos h4] at hk
    omega
  · rw [if_neg h4] at hk
    by_cases h5 : j = 5
    · rw [if_pos h5] at hk
      omega
    · rw [if_neg h5] at hk
      omega
theorem cc_I {o k : Nat} (h : o < 183) (h3 : 3 ≤ o) : yCC.1 o k = ISc 3 o k := by
  show (if o < 186 then (if o < 183 then (if o < 3 then _ else ISc 3 o k) else _) else _) = _
  rw [if_pos (by omega), if_pos h, if_neg (by omega)]
theorem cc_A {o : Nat} (h : o < 183) : yCC.2.2.2.1 o = fun _ => 0 := by
  show (if o < 186 then up1 (fun a => if a < 183 then yAA.2.2.2.1 a else fun _ => 0) 185 (dst 0) o else _) = _
  rw [if_pos (by omega)]
  unfold up1
  rw [if_neg (by omega)]
  show (if o < 183 then yAA.2.2.2.1 o else fun _ => 0) = _
  rw [if_pos h]
  show (if o < 3 then (if o < 1 then _ else fun _ => 0) else fun _ => 0) = _
  by_cases h3 : o < 3
  · rw [if_pos h3]
    by_cases h1 : o < 1
    · rw [if_pos h1]
      rfl
    · rw [if_neg h1]
  · rw [if_neg h3]
theorem cc_J {o k : Nat} (h : 3 ≤ o) : yCC.2.1 o k = 0 := by
  show (if o < 186 then (if o < 183 then (if o < 3 then _ else 0) else 0) else 0) = _
  by_cases h1 : o < 186
  · rw [if_pos h1]
    by_cases h2 : o < 183
    · rw [if_pos h2, if_neg (by omega)]
    · rw [if_neg h2]
  · rw [if_neg h1]
theorem XI_0 : XI L xs sh00 yCC W00 := by
  have hst : SQ (gSt yCC 10) s00 := by
    refine ⟨rfl, rfl, fun j hj k hk => ?_⟩
    show yCC.2.2.2.1 (10 + 1 + j) k = 0
    rw [cc_A (by omega)]
  have hto : gTo yCC 4 = w00 := by
    refine Prod.ext (funext fun k => ?_) (Prod.ext rfl (funext fun j => ?_))
    · show yCC.1 4 k = 0
      rw [cc_I (by decide) (by decide)]
      unfold ISc
      rw [if_neg (by omega), if_neg (by omega)]
    · show (if j < 5 then yCC.2.2.2.1 (4 + 1 + j) else fun _ => 0) = fun _ => 0
      by_cases h : j < 5
      · rw [if_pos h, cc_A (by omega)]
      · rw [if_neg h]
  have h204 : ∀ k, yCC.2.2.2.2.2 204 k = none := fun k => by
    show (bl yBB 186 I1 nulR A1).2.2.2.2.2 204 k = none
    rw [bl_AR (by decide), A1_n (by decide)]
  refine ⟨xs_0, ⟨rfl, fun i hi => absurd hi (Nat.not_lt_zero i)⟩, ?_, fun i hi => ?_, ⟨sc_0.1, ⟨4, rfl, sc_0.2, Or.inl rfl, hto⟩, hst, ⟨fun i hi => ?_, by decide, rfl, 0, by decide, rfl, fun i hi => absurd hi (Nat.not_lt_zero i)⟩, rfl, rfl, rfl, fun j _ i hi => absurd hi (Nat.not_lt_zero i)⟩, ⟨fun k _ => ⟨fun _ => h204 k, fun c h => by cases h⟩, fun j k b b' _ _ _ h => by rw [h204] at h; cases h⟩, rfl, fun i hi => absurd hi (Nat.not_lt_zero i), 197, rfl, ru_0, Or.inl rfl, fun i hi => absurd hi (Nat.not_lt_zero i)⟩
  · have h1 : (gCk yCC 183).2.1 = dst 0 := rfl
    have h2 : (gCk yCC 183).1 = 0 := rfl
    unfold WOK
    rw [h1, h2]
    exact fun _ _ => rfl
  · show (bl yBB 186 I1 nulR A1).2.2.2.2.2 214 i = _
    rw [bl_AR (by decide)]
    exact if_pos ⟨rfl, hi⟩
  · have e : yCC.2.2.2.2.2 19 = ASc 3 19 := rfl
    show yCC.2.2.2.2.2 19 i = _
    rw [e]
    unfold ASc
    rw [if_pos rfl, if_pos hi]
theorem LI_0 : LI L xs sh00 yCC m00 W00 := ⟨XI_M XI_0, MI_0, VW_0⟩
end S7
