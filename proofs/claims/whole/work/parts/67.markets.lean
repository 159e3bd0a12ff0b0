/-! markets -/
theorem allF_sh (s : SV) : ∀ (f p : Nat) (n k : Int32), allF s f p (n + k) = allF s f p n + k
  | 0, _, _, _ => rfl
  | f + 1, p, n, k => by
    show allF s f (p + 1) (n + k + s.2.2 3 p) = allF s f (p + 1) (n + s.2.2 3 p) + k
    rw [← allF_sh s f (p + 1) (n + s.2.2 3 p) k, Int32.add_assoc, Int32.add_comm k, ← Int32.add_assoc]
theorem allF_up {s t : SV} {j : Nat} (h : t.2.2 3 = upd (s.2.2 3) j (s.2.2 3 j + 1)) : ∀ (f p : Nat) (n : Int32), allF t f p n = allF s f p n + (if p ≤ j ∧ j < p + f then 1 else 0)
  | 0, p, n => by
    rw [if_neg (by omega)]
    show n = n + 0
    rw [Int32.add_zero]
  | f + 1, p, n => by
    show allF t f (p + 1) (n + t.2.2 3 p) = allF s f (p + 1) (n + s.2.2 3 p) + _
    rw [allF_up h f (p + 1), h]
    by_cases e : p = j
    · subst e
      rw [upd_at, if_neg (by omega), if_pos (by omega), Int32.add_zero, ← Int32.add_assoc, allF_sh]
    · rw [upd_ne _ _ e]
      by_cases e2 : p + 1 ≤ j ∧ j < p + 1 + f
      · rw [if_pos e2, if_pos (by omega)]
      · rw [if_neg e2, if_neg (by omega)]
theorem allF_cou {np g : Nat} {s : SV} {ch : Int32} (hn : np ≤ 6) (hch : ch = -1 ∨ ∃ j, j < np ∧ ch = nI j) : allF (couS g ch s) np 0 0 = allF s np 0 0 + (if ch = -1 then 0 else 1) := by
  unfold couS
  rcases hch with rfl | ⟨j, hj, rfl⟩
  · rw [if_pos rfl, if_pos rfl, Int32.add_zero]
  · have hne : ¬ nI j = -1 := fun q => nI_pos (n := j) (by omega) (by rw [q]; decide)
    rw [if_neg hne, if_neg hne, nI_clamp (by omega), allF_up (s := s) (j := j) rfl, if_pos (by omega)]
theorem grp {a n k b c : Int32} (h : a + (n + k) = b + k + c) : a + n = b + c := by
  rw [← Int32.add_assoc, Int32.add_assoc b, Int32.add_comm k, ← Int32.add_assoc] at h
  have h2 := congrArg (fun q => q - k) h
  simpa only [Int32.add_sub_cancel] using h2
theorem pas_n (R : Option ((Nat → Int32) → Int64)) (w : TW) (np : Nat) (wr : Int32) (ms : Int64) (far : Nat → Int32) (hn : np ≤ 6) : ∀ (f g : Nat) (s : SV) (wh : Nat → Int32) (n : Int32), allF (pasF R w np wr ms far f g s wh n).1 np 0 0 + n = allF s np 0 0 + (pasF R w np wr ms far f g s wh n).2.2
  | 0, _, s, _, _ => rfl
  | f + 1, g, s, wh, n => by
    unfold pasF
    split
    · rw [pas_n R w np wr ms far hn f (g + 1), allF_q (s := stCo (stR s 5 (upd (s.2.2 5) g (-1))) (s.1.2.2 + 1)) (t := s) np 0 0 (fun q _ _ => rfl)]
    · split
      · rw [pas_n R w np wr ms far hn f (g + 1)]
      · have h := pas_n R w np wr ms far hn f (g + 1) (stR (couS g (chS R w s np (farS far) g) s) 5 (upd ((couS g (chS R w s np (farS far) g) s).2.2 5) g (whtS (couS g (chS R w s np (farS far) g) s).2.1 ms far wr (w.2.2 3 g) ((couS g (chS R w s np (farS far) g) s).2.2 5 g) (chS R w s np (farS far) g)))) (upd wh g (chS R w s np (farS far) g)) (n + if chS R w s np (farS far) g = -1 then 0 else 1)
        rw [allF_q (s := stR (couS g (chS R w s np (farS far) g) s) 5 (upd ((couS g (chS R w s np (farS far) g) s).2.2 5) g (whtS (couS g (chS R w s np (farS far) g) s).2.1 ms far wr (w.2.2 3 g) ((couS g (chS R w s np (farS far) g) s).2.2 5 g) (chS R w s np (farS far) g)))) (t := couS g (chS R w s np (farS far) g) s) np 0 0 (fun q _ _ => rfl), allF_cou hn ch_in] at h
        exact grp h
theorem hoN_all {R : Option ((Nat → Int32) → Int64)} {w : TW} {np ns : Nat} {wr : Int32} {s : SV} (hn : np ≤ 6) : allF (hoS R w np ns wr s) np 0 0 = allF s np 0 0 + hoN R w np ns wr s := by
  obtain ⟨a1, a2, a3⟩ := arr_o w ns 0 s
  have h := pas_n R w np wr s.2.1 (dst s.2.1) hn ns 0 (arrW w ns 0 s) (fun _ => 0) 0
  obtain ⟨c1, c2, c3, c4⟩ := clo_o w np (pasF R w np wr s.2.1 (dst s.2.1) ns 0 (arrW w ns 0 s) (fun _ => 0) 0).1
  rw [Int32.add_zero, allF_q (s := arrW w ns 0 s) (t := s) np 0 0 (fun q _ _ => by rw [a3 3 (by decide)])] at h
  unfold hoS hoN hourA
  rw [← h]
  exact allF_q np 0 0 (fun q _ _ => congrFun c3 q)
theorem dnx_ex : ∃ f : Nat → Nat, ∀ k, f k = (1103515245 * k + 12345) % 2147483648 := ⟨_, fun _ => rfl⟩
/-- the next number drawn -/
noncomputable def dnx : Nat → Nat := Classical.choose dnx_ex
theorem dnx_eq (k : Nat) : dnx k = (1103515245 * k + 12345) % 2147483648 := Classical.choose_spec dnx_ex k
theorem dnx_lt (k : Nat) : dnx k < 2 ^ 31 := by
  rw [dnx_eq]
  exact Nat.mod_lt _ (by decide)
theorem nI_bv (a : Nat) : (nI a).toBitVec.toNat = a % 2 ^ 32 := by
  show (BitVec.ofNat 32 a).toNat = _
  exact BitVec.toNat_ofNat a 32
theorem dnx_x (k : Nat) : (nI k * 1103515245 + 12345) &&& 2147483647 = nI (dnx k) := by
  have e : nI k * 1103515245 + 12345 = nI (1103515245 * k + 12345) := by
    rw [show (1103515245 : Int32) = nI 1103515245 from rfl, show (12345 : Int32) = nI 12345 from rfl, pk_mul, nI_add, Nat.mul_comm]
  rw [e, pk_and _ 31 (by decide), nI_bv, Nat.mod_mod_of_dvd _ (show 2 ^ 31 ∣ 2 ^ 32 by decide), dnx_eq]
theorem dnx_m {k : Nat} (hk : k < 2 ^ 31) : (lRem ((nI k).toInt64 * 1103515245 + 12345) 2147483648).toInt32 = nI (dnx k) := by
  unfold lRem
  rw [nI_l hk, show (1103515245 : Int64) = lN 1103515245 from rfl, show (12345 : Int64) = lN 12345 from rfl, show (2147483648 : Int64) = lN 2147483648 from rfl, lN_mul, lN_add, Nat.mul_comm k, pk_lRem (by omega) (by decide) (by decide), lN_i, dnx_eq]
theorem dnx_d (k : Nat) : nI (dnx k) / 65536 = nI (dnx k / 65536) := by
  have := dnx_lt k
  exact pk_div (d := 65536) (by omega) (by decide) (by decide)
section MARKETS
variable {L : Nat} {xs : Nat → Int32} {W : WD}
/-- what is drawn ahead of an hour -/
noncomputable def mkP (W : WD) (c : Int32) (k : Nat) (s : SV) : Nat × SV := if c ≤ nI (dnx k / 65536 % 100) then (dnx k, s) else if W.2.1.1.2.2.1 = 0 then (dnx k, s) else (dnx (dnx (dnx k)), stR s 0 (upd (s.2.2 0) (dnx (dnx k) / 65536 % W.2.1.1.2.2.1) (nI (dnx (dnx (dnx k)) / 65536 % W.2.1.1.2.1))))
noncomputable def mkF (W : WD) (c : Int32) : Nat → Nat × SV × Int32 → Nat × SV × Int32
  | 0, t => t
  | f + 1, t => mkF W c f ((mkP W c t.1 t.2.1).1, woS W (mkP W c t.1 t.2.1).2, t.2.2 + woN W (mkP W c t.1 t.2.1).2)
noncomputable def mkG (W : WD) (c : Int32) (h : Nat) (_ : Nat) (t : Nat × Int32 × Int32) : Nat × Int32 × Int32 := ((mkF W c h (t.1, W.2.1.2.1, t.2.2)).1, t.2.1 + ((mkF W c h (t.1, W.2.1.2.1, t.2.2)).2.1.1.2.2 - W.2.1.2.1.1.2.2), (mkF W c h (t.1, W.2.1.2.1, t.2.2)).2.2)
theorem mkF_all (hv : VW W) (c : Int32) : ∀ (f : Nat) (t : Nat × SV × Int32), allF (mkF W c f t).2.1 W.2.1.1.2.2.1 0 0 + t.2.2 = allF t.2.1 W.2.1.1.2.2.1 0 0 + (mkF W c f t).2.2
  | 0, t => rfl
  | f + 1, t => by
    have h := mkF_all hv c f ((mkP W c t.1 t.2.1).1, woS W (mkP W c t.1 t.2.1).2, t.2.2 + woN W (mkP W c t.1 t.2.1).2)
    have h2 : allF (woS W (mkP W c t.1 t.2.1).2) W.2.1.1.2.2.1 0 0 = allF (mkP W c t.1 t.2.1).2 W.2.1.1.2.2.1 0 0 + woN W (mkP W c t.1 t.2.1).2 := hoN_all hv.2.1.1.1.1.2.1
    have h3 : allF (mkP W c t.1 t.2.1).2 W.2.1.1.2.2.1 0 0 = allF t.2.1 W.2.1.1.2.2.1 0 0 := allF_q _ _ _ (fun q _ _ => by
      unfold mkP
      split
      · rfl
      · split <;> rfl)
    show allF (mkF W c f _).2.1 W.2.1.1.2.2.1 0 0 + t.2.2 = allF t.2.1 W.2.1.1.2.2.1 0 0 + (mkF W c f _).2.2
    rw [show ((mkP W c t.1 t.2.1).1, woS W (mkP W c t.1 t.2.1).2, t.2.2 + woN W (mkP W c t.1 t.2.1).2).2.1 = woS W (mkP W c t.1 t.2.1).2 from rfl, h2, h3] at h
    exact grp h
/-- the class has a state to try on, and the number drawn last -/
def QD (L : Nat) (xs : Nat → Int32) (sh : List Sh) (W : WD) (z : ST) (s : SV) (k : Nat) : Prop := QT L xs sh W 206 (RF W W.2.1.2.2.2.1.1) (W.2.1.1.1.1 5) z s ∧ z.1 205 10 = nI k
def Dm (o : Nat) : Prop := Dt 206 o ∨ o = 205
section
variable {sh : List Sh} {z : ST} {s : SV} {k : Nat}
theorem QD_off {z' : ST} {s' : SV} (h : QD L xs sh W z s k) (ho : Off (Dt 206) z z') (hq : QT L xs sh W 206 (RF W W.2.1.2.2.2.1.1) (W.2.1.1.1.1 5) z' s') : QD L xs sh W z' s' k := ⟨hq, by rw [(ho 205 (fun q => by unfold Dt at q; omega)).1]; exact h.2⟩
theorem QD_x (h : QD L xs sh W z s k) (k' : Nat) : QD L xs sh W (sI z 205 10 (nI k')) s k' ∧ Off Dm z (sI z 205 10 (nI k')) := by
  have ho : Off (fun o => o = 205) z (sI z 205 10 (nI k')) := Off_sI (D := fun o => o = 205) (Off_refl _ _) (by rfl) _ _
  refine ⟨⟨QT_off h.1 ho (fun o q => by omega), ?_⟩, Off_mono ho (fun o q => Or.inr q)⟩
  show (if 205 = 205 ∧ 10 = 10 then nI k' else z.1 205 10) = nI k'
  rw [if_pos ⟨rfl, rfl⟩]
theorem i_draw (d : Nat) (h : QD L xs sh W z s k) : cI (ZZ L xs) (d + 1) mX2_draw [.ref 205] (HP sh z) = some (HP sh (sI z 205 10 (nI (dnx k))), nI (dnx k / 65536)) := by
  have hO : isOl sh 205 := h.1.1.1.2.2.1
  refine cI_of ?_
  show RS (ZZ L xs) (d + 1) mX2_draw 0 [some (.ref 205)] [] _ = _
  rw [bX2_draw_0, Ol_x hO, some_bind', h.2, dnx_x, Olw_x hO, some_bind', Ol_x hO, some_bind', (QD_x h (dnx k)).1.2, if_neg (by decide), dnx_d]
theorem v_place (d : Nat) (hv : VW W) (hp : 0 < W.2.1.1.2.1) (h : QD L xs sh W z s k) : ∃ z', cV (ZZ L xs) (d + 2) mX2_placeByDraw [.ref 205] (HP sh z) = some (HP sh z') ∧ Off Dm z z' ∧ QD L xs sh W z' (if W.2.1.1.2.2.1 = 0 then s else stR s 0 (upd (s.2.2 0) (dnx k / 65536 % W.2.1.1.2.2.1) (nI (dnx (dnx k) / 65536 % W.2.1.1.2.1)))) (if W.2.1.1.2.2.1 = 0 then k else dnx (dnx k)) := by
  have h6 : W.2.1.1.2.2.1 ≤ 6 := hv.2.1.1.1.1.2.1
  have h8 : W.2.1.1.2.1 ≤ 8 := hv.2.1.1.1.2.2.2.2.1.1
  have hb : trq 206 := Or.inl rfl
  have hx := h.1.1
  have hS : isSc sh 3 := hx.1.1.2.2.1
  have hW : isWM sh 0 := hx.1.1.1
  have hC : isCk sh 183 := hx.1.1.2.2.2
  have hO : isOl sh 205 := hx.1.2.2.1
  have hB : isSt sh 206 := hO.2.1
  have hN : isSt sh 10 := hS.2.2.2.2.1
  obtain ⟨t0, t1, t2, t3, -⟩ := Q_places hx hv
  by_cases h0 : W.2.1.1.2.2.1 = 0
  · refine ⟨z, cV_of ?_, Off_refl _ _, by rw [if_pos h0, if_pos h0]; exact h⟩
    show RS (ZZ L xs) (d + 2) mX2_placeByDraw 0 [some (.ref 205), none, none, none] [] _ = _
    simp only [bX2_placeByDraw_0, Ol_now hO, some_bind', t1, t2, t3]
    rw [if_pos (by rw [h0]; decide), bX2_placeByDraw_52]
  · obtain ⟨a1, a2⟩ := QD_x h (dnx k)
    obtain ⟨b1, b2⟩ := QD_x a1 (dnx (dnx k))
    have d1 := i_draw (L := L) (xs := xs) d h
    have d2 := i_draw (L := L) (xs := xs) d a1
    generalize sI z 205 10 (nI (dnx k)) = za at *
    generalize sI za 205 10 (nI (dnx (dnx k))) = zb at *
    have l1 := dnx_lt k
    have l2 := dnx_lt (dnx k)
    have m1 : dnx k / 65536 % W.2.1.1.2.2.1 < W.2.1.1.2.2.1 := Nat.mod_lt _ (by omega)
    have r1 : iRem (nI (dnx k / 65536)) (nI W.2.1.1.2.2.1) = nI (dnx k / 65536 % W.2.1.1.2.2.1) := rem_nI (by omega) (by omega) (by omega)
    have r2 : iRem (nI (dnx (dnx k) / 65536)) (nI W.2.1.1.2.1) = nI (dnx (dnx k) / 65536 % W.2.1.1.2.1) := rem_nI (by omega) (by omega) (by omega)
    obtain ⟨o1, o2⟩ := Q_set hb b1.1 (j := 0) (by decide) (dnx k / 65536 % W.2.1.1.2.2.1) (nI (dnx (dnx k) / 65536 % W.2.1.1.2.1))
    have o1' := Off_mono (E := Dt 206) o1 (fun o q => Or.inl q)
    rw [if_neg h0, if_neg h0]
    refine ⟨_, cV_of ?_, Off_trans (Off_trans a2 b2) (Off_mono o1' (fun o q => Or.inl q)), QD_off b1 o1' o2⟩
    show RS (ZZ L xs) (d + 2) mX2_placeByDraw 0 [some (.ref 205), none, none, none] [] _ = _
    have np0 : ¬ nI W.2.1.1.2.2.1 ≤ 0 := nI_ge (a := 0) (by omega) (by omega)
    have pl0 : ¬ nI W.2.1.1.2.1 ≤ 0 := nI_ge (a := 0) (by omega) (by omega)
    have np1 : ¬ nI W.2.1.1.2.2.1 = 0 := nI_ne0 (by omega) (by omega)
    have pl1 : ¬ nI W.2.1.1.2.1 = 0 := nI_ne0 (by omega) (by omega)
    simp only [bX2_placeByDraw_0, Ol_now hO, some_bind', t1, t2, t3, if_neg np0, if_neg pl0, Ol_is hO, d1, d2, if_neg np1, if_neg pl1, Ol_trial hO, St_place hB, r1, r2]
    rw [show (206 + 1 : Nat) = 206 + 1 + 0 from rfl] at *
    rw [Stu_place hB _ (by omega), some_bind', bX2_placeByDraw_52]
end
end MARKETS
