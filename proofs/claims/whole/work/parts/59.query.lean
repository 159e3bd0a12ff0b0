/-! questions: a state to try on, on both sides -/
def trq (b : Nat) : Prop := b = 206 ∨ b = 217 ∨ b = 225 ∨ b = 233 ∨ b = 241 ∨ b = 250
theorem trq_trl {b : Nat} (h : trq b) : trl b := by
  unfold trq at h
  unfold trl
  omega
/-- in the class: a state at b to try on -/
def QT (L : Nat) (xs : Nat → Int32) (sh : List Sh) (W : WD) (b : Nat) (R : Option ((Nat → Int32) → Int64)) (wr : Int32) (z : ST) (s : SV) : Prop := XI L xs sh z W ∧ SQ (gSt z b) s ∧ ∃ t : Nat, isTo sh t ∧ (t = 4 ∨ 307 ≤ t) ∧ gTo z t = W.2.1.1.1 ∧ Wnd L xs sh z t R wr
def Dt (b o : Nat) : Prop := b ≤ o ∧ o < b + 8 ∨ 184 ≤ o ∧ o < 188
section QX
variable {L : Nat} {xs : Nat → Int32} {sh : List Sh} {W : WD} {b : Nat} {R : Option ((Nat → Int32) → Int64)} {wr : Int32} {z : ST} {s : SV}
theorem isSt_trq (hx : isXS sh) (hb : trq b) : isSt sh b := by
  obtain ⟨-, -, c1, c2, -⟩ := hx
  unfold trq at hb
  rcases hb with rfl | rfl | rfl | rfl | rfl | rfl
  · exact c1.2.1
  · exact c1.2.2.2.2.2.1
  · exact c1.2.2.2.2.2.2.1
  · exact c1.2.2.2.2.2.2.2.1
  · exact c1.2.2.2.2.2.2.2.2
  · exact c2.2.1
/-- it goes on, where but the state and the clock nothing was written -/
theorem QT_of {z' : ST} {s' : SV} (hb : trq b) (h : QT L xs sh W b R wr z s) (ho : Off (Dt b) z z') (hw : WOK (gCk z' 183)) (hs : SQ (gSt z' b) s') : QT L xs sh W b R wr z' s' := by
  obtain ⟨h1, -, t, t1, t2, t3, t4⟩ := h
  unfold trq at hb
  unfold Dt at ho
  refine ⟨XI_q (Off_mono ho (fun o q => by unfold Dq; omega)) hw h1, hs, t, t1, t2, ?_, Wnd_off ho (by omega) (fun o q1 q2 => by omega) (fun o q => by omega) t4⟩
  rw [gTo_off ho (t := t) (fun o q1 q2 => by omega)]
  exact t3
theorem gCk_Dt {z' : ST} (hb : trq b) (ho : Off (fun o => b ≤ o ∧ o < b + 8) z z') : gCk z' 183 = gCk z 183 := gCk_off ho (fun o q1 q2 => by unfold trq at hb; omega)
theorem Q_copy (d : Nat) (hb : trq b) (h : QT L xs sh W b R wr z s) {e : Nat} (he : isSt sh e) (hd : e + 8 ≤ b ∨ b + 8 ≤ e) {se : SV} (hse : SQ (gSt z e) se) : ∃ z', cV (ZZ L xs) (d + 1) mX7_copyFrom [.ref b, .ref e] (HP sh z) = some (HP sh z') ∧ Off (fun o => b ≤ o ∧ o < b + 8) z z' ∧ QT L xs sh W b R wr z' se := by
  have ho : Off (fun o => b ≤ o ∧ o < b + 8) z (pSt z b (gSt z e)) := Off_pSt (Off_refl _ _) (by intro o q1 q2; omega) _
  refine ⟨pSt z b (gSt z e), v_copyS d (isSt_trq h.1.1 hb) he (by omega) z, ho, QT_of hb h (Off_mono ho (fun o q => Or.inl q)) ?_ (SQ_trans (SQ_pSt _ _ _) hse)⟩
  rw [gCk_Dt hb ho]
  exact h.1.2.2.1
theorem Q_now (d : Nat) (hb : trq b) (h : QT L xs sh W b R wr z s) : ∃ z', cV (ZZ L xs) (d + 1) mX7_copyFrom [.ref b, .ref 10] (HP sh z) = some (HP sh z') ∧ Off (fun o => b ≤ o ∧ o < b + 8) z z' ∧ QT L xs sh W b R wr z' W.2.1.2.1 := Q_copy d hb h h.1.1.1.2.2.1.2.2.2.2.1 (by unfold trq at hb; omega) h.1.2.2.2.2.1.2.2.1
theorem Q_set (hb : trq b) (h : QT L xs sh W b R wr z s) {j : Nat} (hj : j < 7) (k : Nat) (v : Int32) : Off (fun o => b ≤ o ∧ o < b + 8) z (sA z (b + 1 + j) (upd (z.2.2.2.1 (b + 1 + j)) k v)) ∧ QT L xs sh W b R wr (sA z (b + 1 + j) (upd (z.2.2.2.1 (b + 1 + j)) k v)) (stR s j (upd (s.2.2 j) k v)) := by
  have ho : Off (fun o => b ≤ o ∧ o < b + 8) z (sA z (b + 1 + j) (upd (z.2.2.2.1 (b + 1 + j)) k v)) := Off_sA (Off_refl _ _) (by omega) _
  refine ⟨ho, QT_of hb h (Off_mono ho (fun o q => Or.inl q)) ?_ (SQ_sA h.2.1 hj k v)⟩
  rw [gCk_Dt hb ho]
  exact h.1.2.2.1
theorem Q_open (hb : trq b) (h : QT L xs sh W b R wr z s) (l : Int64) : Off (fun o => b ≤ o ∧ o < b + 8) z (sJL z b 3 l) ∧ QT L xs sh W b R wr (sJL z b 3 l) (stO s l) := by
  have ho : Off (fun o => b ≤ o ∧ o < b + 8) z (sJL z b 3 l) := Off_sJL (Off_refl _ _) (by omega) _ _
  refine ⟨ho, QT_of hb h (Off_mono ho (fun o q => Or.inl q)) ?_ ⟨h.2.1.1, ?_, h.2.1.2.2⟩⟩
  · rw [gCk_Dt hb ho]
    exact h.1.2.2.1
  · show (if b = b ∧ 3 = 3 then l else z.2.1 b 3) = l
    rw [if_pos ⟨rfl, rfl⟩]
theorem Q_run (d : Nat) (hv : VW W) (hb : trq b) (h : QT L xs sh W b R wr z s) (n : Nat) (hn : n < 2 ^ 31) : ∃ z', cV (ZZ L xs) (d + 5) mX0_run [.ref 183, .ref b, .int (nI n)] (HP sh z) = some (HP sh z') ∧ Off (Dt b) z z' ∧ QT L xs sh W b R wr z' (roS R W.2.1.1.1 W.2.1.1.2.2.1 W.2.1.1.2.2.2 wr n s) := by
  obtain ⟨t, t1, t2, t3, t4⟩ := h.2.2
  have hB := isSt_trq h.1.1 hb
  obtain ⟨v', p1, p3⟩ := v_runT (L := L) (xs := xs) d (trq_trl hb) hB h.1.1.1.2.2.2 t1 t2 t3 hv.2.1.1.1.1 t4 n hn s (gCk z 183) h.1.2.2.1
  rw [← HP_as (trq_trl hb) hB h.2.1] at p3
  have ho := Off_trl z b (roS R W.2.1.1.1 W.2.1.1.2.2.1 W.2.1.1.2.2.2 wr n s) v'
  refine ⟨_, p3, ho, QT_of hb h ho ?_ (SQ_KK (by unfold trq at hb; omega) _ _)⟩
  rw [gCk_KK]
  exact p1
theorem Q_pass (d : Nat) (hv : VW W) (hb : trq b) (h : QT L xs sh W b R wr z s) : ∃ z', cI (ZZ L xs) (d + 4) mX0_pass [.ref 183, .ref b] (HP sh z) = some (HP sh z', hoN R W.2.1.1.1 W.2.1.1.2.2.1 W.2.1.1.2.2.2 wr s) ∧ Off (Dt b) z z' ∧ QT L xs sh W b R wr z' (hoS R W.2.1.1.1 W.2.1.1.2.2.1 W.2.1.1.2.2.2 wr s) ∧ ∀ k, k < W.2.1.1.2.2.2 → z'.2.2.2.1 186 k = hoW R W.2.1.1.1 W.2.1.1.2.2.1 W.2.1.1.2.2.2 wr s k := by
  obtain ⟨t, t1, t2, t3, t4⟩ := h.2.2
  have hB := isSt_trq h.1.1 hb
  obtain ⟨v', p1, p2, p3⟩ := i_passT (L := L) (xs := xs) d (trq_trl hb) hB h.1.1.1.2.2.2 t1 t2 t3 hv.2.1.1.1.1 t4 s (gCk z 183) h.1.2.2.1
  rw [← HP_as (trq_trl hb) hB h.2.1] at p3
  have ho := Off_trl z b (hoS R W.2.1.1.1 W.2.1.1.2.2.1 W.2.1.1.2.2.2 wr s) v'
  refine ⟨_, p3, ho, QT_of hb h ho ?_ (SQ_KK (by unfold trq at hb; omega) _ _), fun k hk => ?_⟩
  · rw [gCk_KK]
    exact p1
  · rw [show (KK z b 183 (hoS R W.2.1.1.1 W.2.1.1.2.2.1 W.2.1.1.2.2.2 wr s) v').2.2.2.1 186 = v'.2.2.1 from K_whom _ _]
    exact p2 k hk
theorem Q_row (h : QT L xs sh W b R wr z s) {j k : Nat} (hj : j < 7) (hk : k < rwN j) : z.2.2.2.1 (b + 1 + j) k = s.2.2 j k := h.2.1.2.2 j hj k hk
theorem Q_int (h : QT L xs sh W b R wr z s) : z.1 b 0 = s.1.1 ∧ z.1 b 1 = s.1.2.1 ∧ z.1 b 2 = s.1.2.2 := ⟨congrArg (fun q => q.1) h.2.1.1, congrArg (fun q => q.2.1) h.2.1.1, congrArg (fun q => q.2.2) h.2.1.1⟩
theorem XI_ints (hx : XI L xs sh z W) : z.1 10 0 = W.2.1.2.1.1.1 ∧ z.1 10 1 = W.2.1.2.1.1.2.1 ∧ z.1 10 2 = W.2.1.2.1.1.2.2 := ⟨congrArg (fun q => q.1) hx.2.2.2.2.1.2.2.1.1, congrArg (fun q => q.2.1) hx.2.2.2.2.1.2.2.1.1, congrArg (fun q => q.2.2) hx.2.2.2.2.1.2.2.1.1⟩
/-- how many places, read in the town that is now -/
theorem Q_places (hx : XI L xs sh z W) (hv : VW W) : ∃ t : Nat, fR (HP sh z) (.ref 3) 6 0 = some (.ref t) ∧ fI (HP sh z) (.ref t) 9 0 = some (nI W.2.1.1.2.1) ∧ fI (HP sh z) (.ref t) 9 2 = some (nI W.2.1.1.2.2.1) ∧ fI (HP sh z) (.ref t) 9 3 = some (nI W.2.1.1.2.2.2) ∧ fI (HP sh z) (.ref t) 9 5 = some (W.2.1.1.1.1 5) ∧ isTo sh t ∧ (t = 4 ∨ 307 ≤ t) ∧ gTo z t = W.2.1.1.1 := by
  obtain ⟨t, t1, t2, t3, t0, t4⟩ := X_town hx
  have hI : ∀ k, z.1 t k = W.2.1.1.1.1 k := fun k => by rw [← t3]; rfl
  refine ⟨t, t4, ?_, ?_, ?_, ?_, t1, t2, t3⟩
  · rw [To_places t1, hI, hv.2.1.1.1.2.1]
  · rw [To_people t1, hI, hv.2.1.1.1.1.1]
  · rw [To_strangers t1, hI, hv.2.1.1.1.1.2.2.1]
  · rw [To_wrong t1, hI]
/-- the clock wound as it is now -/
theorem Q_wind (d : Nat) {y : ST} (hv : VW W) (hx : XI L xs sh y W) (b : Nat) : ∃ z, cV (ZZ L xs) (d + 2) mX12_windClock [.ref 0] (HP sh y) = some (HP sh z) ∧ Off (fun o => o = 183) y z ∧ QT L xs sh W b (RF W W.2.1.2.2.2.1.1) (W.2.1.1.1.1 5) z (gSt z b) := by
  obtain ⟨z, t, u1, u2, u3, u4, u5, u6, u7⟩ := v_windClock (L := L) (xs := xs) d hx hv
  exact ⟨z, u1, u2, u3, SQ_refl _, t, u4, u5, u6, u7⟩
end QX
/-- in the model: kept, and a state to try on -/
def QM (L : Nat) (xs : Nat → Int32) (sh : List Sh) (x : ST) (W : WD) (m0 : MM) (R : Option ((Nat → Int32) → Int64)) (wr : Int32) (m : MM) (s : SV) : Prop := KJ m0 m ∧ MSt m W.2.1.1.1 W.2.1.1.2.1 W.2.1.1.2.2.1 W.2.1.1.2.2.2 wr ∧ MOp m s.2.1 ∧ Mdy m W.2.1.1.2.2.1 W.2.1.1.2.2.2 s ∧ VS W.2.1.1.2.1 W.2.1.1.2.2.1 W.2.1.1.2.2.2 s ∧ RuM L xs sh x m R
section QMS
variable {L : Nat} {xs : Nat → Int32} {sh : List Sh} {x : ST} {W : WD} {m0 m : MM} {R : Option ((Nat → Int32) → Int64)} {wr : Int32} {s : SV}
theorem QM_base (hM : isMo sh) (hv : VW W) (hi : MI L xs m0 W) (hJ : MJ m0 m) (hK : KJ m0 m) : QM L xs sh x W m0 (RF W W.2.1.2.2.2.1.1) (W.2.1.1.1.1 5) m W.2.1.2.1 := by
  have hi2 := MI_J hJ hv hi
  refine ⟨hK, hi2.2.1.1.1, hi2.2.1.2.1.1, hi2.2.1.2.1.2, hv.2.1.1.2.1.1, RuM_of hM hi hi2.2.1.2.2.2.1.1 hv.2.2.2.1 hv.2.1.2 (fun a h1 h2 j hj => hJ.2 a j hj)⟩
theorem Q_keep (d : Nat) (hM : isMo sh) (hv : VW W) (hi : MI L xs m W) : ∃ m', cV (ZZ L xs) (d + 3) mX13_keepsAll [.ref 259] (HP sh (pM x m)) = some (HP sh (pM x m')) ∧ MJ m m' ∧ QM L xs sh x W m (RF W W.2.1.2.2.2.1.1) (W.2.1.1.1.1 5) m' W.2.1.2.1 := by
  obtain ⟨m', a1, a2, a3, a4⟩ := v_keepsAll (L := L) (xs := xs) (x := x) (m := m) d hM
  exact ⟨m', a1, a3, QM_base hM hv hi a3 a4⟩
theorem Q_lay (d : Nat) (hM : isMo sh) (hv : VW W) (hi : MI L xs m0 W) (hK : KJ m0 m) : ∃ m', cV (ZZ L xs) (d + 3) mX13_laysBack [.ref 259] (HP sh (pM x m)) = some (HP sh (pM x m')) ∧ MJ m0 m' ∧ QM L xs sh x W m0 (RF W W.2.1.2.2.2.1.1) (W.2.1.1.1.1 5) m' W.2.1.2.1 ∧ ∀ b, 10 ≤ b → m'.2.1 b = m.2.1 b := by
  obtain ⟨m', a1, a2, a3, a4⟩ := v_laysBack (L := L) (xs := xs) (x := x) d hM hK
  exact ⟨m', a1, a2, QM_base hM hv hi a2 a3, a4⟩
theorem QM_MF {m' : MM} {s' : SV} (h : QM L xs sh x W m0 R wr m s) (hf : MF m m') (hD : Mdy m' W.2.1.1.2.2.1 W.2.1.1.2.2.2 s') (hS : VS W.2.1.1.2.1 W.2.1.1.2.2.1 W.2.1.1.2.2.2 s') (ho : s'.2.1 = s.2.1) : QM L xs sh x W m0 R wr m' s' := ⟨KJ_MF h.1 hf, MSt_fr hf h.2.1, by rw [ho]; exact MOp_fr hf h.2.2.1, hD, hS, RuM_fr (MF_Ru hf) h.2.2.2.2.2⟩
theorem Q_goes (d : Nat) [NeZero d] (hM : isMo sh) (hT : VT W.2.1.1.1 W.2.1.1.2.1 W.2.1.1.2.2.1 W.2.1.1.2.2.2) (h : QM L xs sh x W m0 R wr m s) : ∃ m', cI (ZZ L xs) (d + 7) mX13_goes [.ref 259] (HP sh (pM x m)) = some (HP sh (pM x m'), hoN R W.2.1.1.1 W.2.1.1.2.2.1 W.2.1.1.2.2.2 wr s) ∧ MF m m' ∧ QM L xs sh x W m0 R wr m' (hoS R W.2.1.1.1 W.2.1.1.2.2.1 W.2.1.1.2.2.2 wr s) ∧ ∀ k, k < W.2.1.1.2.2.2 → m'.2.1 37 k = hoW R W.2.1.1.1 W.2.1.1.2.2.1 W.2.1.1.2.2.2 wr s k := by
  obtain ⟨h1, h2, h3, h4, h5, h6⟩ := id h
  obtain ⟨m', g1, g2, g3, g4, g5, g6⟩ := i_goesM (L := L) (xs := xs) (x := x) d hM hT h2 h3 h5 h4 h6 (fun _ => 0)
  exact ⟨m', g6, g1, QM_MF h g1 g2 g4 g5, g3⟩
theorem Q_goFor (d : Nat) [NeZero d] (hM : isMo sh) (hT : VT W.2.1.1.1 W.2.1.1.2.1 W.2.1.1.2.2.1 W.2.1.1.2.2.2) (h : QM L xs sh x W m0 R wr m s) (n : Nat) (hn : n < 2 ^ 31) : ∃ m', cV (ZZ L xs) (d + 8) mX13_goFor [.ref 259, .int (nI n)] (HP sh (pM x m)) = some (HP sh (pM x m')) ∧ MF m m' ∧ QM L xs sh x W m0 R wr m' (roS R W.2.1.1.1 W.2.1.1.2.2.1 W.2.1.1.2.2.2 wr n s) := by
  obtain ⟨h1, h2, h3, h4, h5, h6⟩ := id h
  obtain ⟨m', g1, g2, g3, g4, g5⟩ := v_goForM (L := L) (xs := xs) (x := x) d hM hT n hn h2 h3 h5 h4 h6 (fun _ => 0)
  rw [run_wh] at g2 g3 g4
  exact ⟨m', g5, g1, QM_MF h g1 g2 g3 g4⟩
theorem QM_at (h : QM L xs sh x W m0 R wr m s) {q p : Nat} (hp : p < W.2.1.1.2.1) : QM L xs sh x W m0 R wr (mA m 1 q (nI p)) (stR s 0 (upd (s.2.2 0) q (nI p))) := by
  obtain ⟨h1, h2, h3, h4, h5, h6⟩ := id h
  have hf : MF m (mA m 1 q (nI p)) := MF_A (MF_refl m) (by omega) _ _
  refine QM_MF h hf (Mdy_r h4 1 0 rfl (by decide) _ _) ⟨h5.1, fun r hr => ?_, fun r hr => ?_⟩ rfl
  · rw [stR_at]
    by_cases e : r = q
    · rw [e, upd_at]
      exact ⟨p, hp, rfl⟩
    · rw [upd_ne _ _ e]
      exact h5.2.1 r hr
  · rw [stR_ne _ _ (by decide)]
    exact h5.2.2 r hr
theorem QM_kind (h : QM L xs sh x W m0 R wr m s) (q : Nat) (v : Int32) : QM L xs sh x W m0 R wr (mA m 2 q v) (stR s 1 (upd (s.2.2 1) q v)) := by
  obtain ⟨h1, h2, h3, h4, h5, h6⟩ := id h
  exact QM_MF h (MF_A (MF_refl m) (by omega) _ _) (Mdy_r h4 2 1 rfl (by decide) _ _) (VS_cong h5 rfl rfl rfl) rfl
theorem QM_where (h : QM L xs sh x W m0 R wr m s) {q p : Nat} (hp : p < W.2.1.1.2.1) : QM L xs sh x W m0 R wr (mA m 6 q (nI p)) (stR s 5 (upd (s.2.2 5) q (nI p))) := by
  obtain ⟨h1, h2, h3, h4, h5, h6⟩ := id h
  exact QM_MF h (MF_A (MF_refl m) (by omega) _ _) (Mdy_r h4 6 5 rfl (by decide) _ _) (VS_at h5 q (Or.inr ⟨p, hp, rfl⟩)) rfl
theorem Q_shuts (d : Nat) (hM : isMo sh) (h : QM L xs sh x W m0 R wr m s) {a b : Nat} (ha : a < W.2.1.1.2.1) (hb : b < W.2.1.1.2.1) (hne : a ≠ b) : ∃ m', cV (ZZ L xs) (d + 1) mX13_shuts [.ref 259, .int (nI a), .int (nI b)] (HP sh (pM x m)) = some (HP sh (pM x m')) ∧ QM L xs sh x W m0 R wr m' (stO s (s.2.1 ^^^ stS a b)) := by
  obtain ⟨h1, ⟨s0, s1, s2, s3, s4, s5⟩, h3, h4, h5, h6⟩ := id h
  have h8 := h5.1.1
  obtain ⟨m', a1, a2, a3, a4⟩ := v_shuts (L := L) (xs := xs) (x := x) d hM h3 (show a < 8 by omega) (show b < 8 by omega) hne
  refine ⟨m', a1, ⟨by rw [a2]; exact h1.1, fun r i hr hi => by rw [a3 r (by omega)]; exact h1.2.1 r i hr hi, fun r hr i hi => by rw [a3 45 (by decide)]; exact h1.2.2 r hr i hi⟩, ⟨by rw [a3 0 (by decide)]; exact s0, by rw [a3 0 (by decide)]; exact s1, by rw [a3 0 (by decide)]; exact s2, by rw [a3 0 (by decide)]; exact s3, by rw [a3 9 (by decide)]; exact s4, by rw [a3 10 (by decide), a3 11 (by decide), a3 12 (by decide)]; exact s5⟩, a4, ?_, ⟨VO_xor h5.1 ha hb, h5.2.1, h5.2.2⟩, RuM_fr ⟨by rw [a3 0 (by decide)], fun r h1 h2 => a3 r (by omega)⟩ h6⟩
  obtain ⟨c1, c2, c3, c4⟩ := h4
  exact ⟨by rw [a3 0 (by decide)]; exact c1, by rw [a3 0 (by decide)]; exact c2, by rw [a3 0 (by decide)]; exact c3, fun j hj k hk => by rw [a3 (1 + j) (by omega)]; exact c4 j hj k hk⟩
end QMS
/-- a loop -/
def lp {α : Type} (g : Nat → α → α) : Nat → Nat → α → α
  | 0, _, a => a
  | f + 1, p, a => lp g f (p + 1) (g p a)
/-- a question changes nothing of the world -/
theorem Xask {L : Nat} {xs : Nat → Int32} {W : WD} {r : Int32} {mx : MD} {as : List Value} (h : ∀ (sh : List Sh) (y : ST) (d : Nat), XI L xs sh y W → ∃ z, CL (ZZ L xs) (d + 60) mx (.ref 0 :: as) (HP sh y) = some (HP sh z, some (.int r)) ∧ XI L xs sh z W ∧ Off Dq y z) : XStep L xs W W r mx as := fun sh y d hx => by
  obtain ⟨z, h1, h2, h3⟩ := h sh y d hx
  exact ⟨sh, z, cI_of h1, h2, OffM_of h3 (fun o q => by unfold Dq at q; omega), Gr_refl _⟩
theorem Mask {L : Nat} {xs : Nat → Int32} {W : WD} {r : Int32} {mm : MD} {as : List Value} (hv : VW W) (h : ∀ (sh : List Sh) (x : ST) (m : MM) (d : Nat), isMo sh → MI L xs m W → ∃ m', CL (ZZ L xs) (d + 60) mm (.ref 259 :: as) (HP sh (pM x m)) = some (HP sh (pM x m'), some (.int r)) ∧ MJ m m') : MStep L xs W W r mm as := fun sh x m d hM hi => by
  obtain ⟨m', h1, h2⟩ := h sh x m d hM hi
  exact ⟨m', cI_of h1, MI_J h2 hv hi, hv⟩
theorem Dt_q {b : Nat} (hb : trq b) {o : Nat} (h : Dt b o) : Dq o := by
  unfold trq at hb
  unfold Dt at h
  unfold Dq
  omega
