theorem law_runs (L : Nat) (xs : Nat → Int32) (hL : L ≤ 3072) : ∃ phE, RS (ZZ L xs) 101 mL_law 0 (ent mL_law [.retAddr 0]) [] [] = some (phE, some (.int 1)) ∧ phE.length - 0 ≤ 600000 ∧ sl phE - 0 ≤ 7302250 := by
  obtain ⟨sh', y', a1, a2, a3⟩ := l_loop (xs := xs) hL 512 0 sh00 yCC m00 W00 (by decide) (by omega) LI_0
  have l0 : sh00.length = 307 := by
    unfold sh00
    rw [List.length_append, shXX_len]
    rfl
  have z0 : slS sh00 ≤ 1000000 := by
    unfold sh00 shXX shBB shAA
    rw [slS_app, slS_app, slS_app, slS_app]
    have h1 : slS (shSc 3) ≤ 100000 := by decide +kernel
    have h2 : slS shC ≤ 1000 := by decide +kernel
    have h3 : slS shD ≤ 100000 := by decide +kernel
    have h4 : slS MSH ≤ 100000 := by decide +kernel
    have h5 : slS ([WMf] ++ shTa1) ≤ 1000 := by decide +kernel
    omega
  refine ⟨HP sh' y', ?_, ?_, ?_⟩
  · show RS (ZZ L xs) (100 + 1) mL_law 0 [some (.retAddr 0), none, none, none] [] [] = _
    rw [law_0]
    exact a1
  · rw [HP_len]
    omega
  · rw [HP_sl]
    omega
