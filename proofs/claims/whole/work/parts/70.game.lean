/-! game -/
theorem pas_0 (R : Option ((Nat → Int32) → Int64)) (w : TW) (np : Nat) (wr : Int32) (ms : Int64) (far : Nat → Int32) : ∀ (f g : Nat) (s : SV) (wh : Nat → Int32) (n : Int32), (pasF R w np wr ms far f g s wh n).1.2.2 0 = s.2.2 0
  | 0, _, s, _, _ => rfl
  | f + 1, g, s, wh, n => by
    unfold pasF
    split
    · rw [pas_0 R w np wr ms far f (g + 1)]
      rfl
    · split
      · rw [pas_0 R w np wr ms far f (g + 1)]
      · have h := pas_0 R w np wr ms far f (g + 1) (stR (couS g (chS R w s np (farS far) g) s) 5 (upd ((couS g (chS R w s np (farS far) g) s).2.2 5) g (whtS (couS g (chS R w s np (farS far) g) s).2.1 ms far wr (w.2.2 3 g) ((couS g (chS R w s np (farS far) g) s).2.2 5 g) (chS R w s np (farS far) g)))) (upd wh g (chS R w s np (farS far) g)) (n + if chS R w s np (farS far) g = -1 then 0 else 1)
        refine h.trans ?_
        show (couS g (chS R w s np (farS far) g) s).2.2 0 = _
        unfold couS
        split <;> rfl
theorem clo_0 (w : TW) (np : Nat) (s : SV) : (cloS w np s).2.2 0 = s.2.2 0 := by
  rw [cloS_eq]
  split
  · rfl
  · unfold cloI
    split <;> rfl
theorem hoS_0 {R : Option ((Nat → Int32) → Int64)} {w : TW} {np ns : Nat} {wr : Int32} {s : SV} : (hoS R w np ns wr s).2.2 0 = s.2.2 0 := by
  obtain ⟨a1, a2, a3⟩ := arr_o w ns 0 s
  unfold hoS hourA
  show (cloS w np (pasF R w np wr s.2.1 (dst s.2.1) ns 0 (arrW w ns 0 s) (fun _ => 0) 0).1).2.2 0 = _
  rw [clo_0, pas_0, a3 0 (by decide)]
section GAME
variable {L : Nat} {xs : Nat → Int32} {W : WD}
def gaL (p q : Nat) (s : SV) : Int32 := s.2.2 3 p - s.2.2 3 q
def gaO (s : SV) (m j : Nat) : Bool := bt (nb s.2.1 (s.2.2 0 m)) j || decide (s.2.2 0 m = nI j)
def gaN (W : WD) (m : Nat) (s : SV) (j : Nat) : SV := woS W (stR s 0 (upd (s.2.2 0) m (nI j)))
def gaM (p q i : Nat) : Nat := if i % 2 = 0 then p else q
def gaG (mx : Bool) (e : Nat → Option Int32) (j : Nat) (acc : Option (Int32 × Nat)) : Option (Int32 × Nat) := match e j, acc with
  | none, acc => acc
  | some v, none => some (v, j)
  | some v, some a => if mx = true then (if v ≤ a.1 then some a else some (v, j)) else (if a.1 ≤ v then some a else some (v, j))
def gaB (acc : Option (Int32 × Nat)) : Int32 := match acc with
  | none => 0
  | some a => a.1
def gaH (acc : Option (Int32 × Nat)) : Int32 := match acc with
  | none => 0
  | some _ => 1
def gaFm (i : Nat) (fm : Int32) (acc : Option (Int32 × Nat)) : Int32 := if i = 0 then (match acc with
  | none => fm
  | some a => nI a.2) else fm
def gaE (W : WD) (p q i : Nat) (V : SV → Int32) (s : SV) (j : Nat) : Option Int32 := if gaO s (gaM p q i) j = true then some (V (gaN W (gaM p q i) s j)) else none
def gaV (W : WD) (p q : Nat) : Nat → Nat → SV → Int32
  | 0, _, s => gaL p q s - gaL p q W.2.1.2.1
  | f + 1, i, s => gaB (lp (gaG (decide (i % 2 = 0)) (gaE W p q i (gaV W p q f (i + 1)) s)) W.2.1.1.2.1 0 none)
/-- the first move, where the game begins -/
def gaF (W : WD) (p q f i : Nat) (fm : Int32) (s : SV) : Int32 := match f with
  | 0 => fm
  | f + 1 => gaFm i fm (lp (gaG (decide (i % 2 = 0)) (gaE W p q i (gaV W p q f (i + 1)) s)) W.2.1.1.2.1 0 none)
/-- persons stand in places -/
def gaS (W : WD) (s : SV) : Prop := ∀ r, r < W.2.1.1.2.2.1 → ∃ a, a < W.2.1.1.2.1 ∧ s.2.2 0 r = nI a
theorem gaS_N {s : SV} (h : gaS W s) (m : Nat) {j : Nat} (hj : j < W.2.1.1.2.1) : gaS W (gaN W m s j) := fun r hr => by
  unfold gaN woS
  rw [hoS_0, stR_at]
  by_cases e : r = m
  · rw [e, upd_at]
    exact ⟨j, hj, rfl⟩
  · rw [upd_ne _ _ e]
    exact h r hr
/-- cells that a turn writes -/
def Dga (i o : Nat) : Prop := 225 + 8 * i ≤ o ∧ o < 249 ∨ 184 ≤ o ∧ o < 188 ∨ o = 205
def gaX (L : Nat) (xs : Nat → Int32) (sh : List Sh) (W : WD) (p q n i : Nat) (z : ST) (s : SV) : Prop := QT L xs sh W (217 + 8 * i) (RF W W.2.1.2.2.2.1.1) (W.2.1.1.1.1 5) z s ∧ z.1 205 6 = nI p ∧ z.1 205 7 = nI q ∧ z.1 205 8 = nI n
section
variable {sh : List Sh} {b : Nat} {R : Option ((Nat → Int32) → Int64)} {wr : Int32} {z z' : ST} {s : SV}
theorem QT_g {D : Nat → Prop} (h : QT L xs sh W b R wr z s) (ho : Off D z z') (hw : WOK (gCk z' 183)) (hD : ∀ o, D o → (184 ≤ o ∧ o < 188 ∨ 205 ≤ o ∧ o < 259 ∧ o ≠ 214) ∧ ¬ (b ≤ o ∧ o < b + 8)) : QT L xs sh W b R wr z' s := by
  obtain ⟨h1, h2, t, t1, t2, t3, t4⟩ := h
  refine ⟨XI_q (Off_mono ho (fun o q => by have := hD o q; unfold Dq; omega)) hw h1, SQ_trans (gSt_off ho (fun o q1 q2 q => by have := hD o q; omega)) h2, t, t1, t2, ?_, Wnd_off ho (fun q => by have := hD _ q; omega) (fun o q1 q2 q => by have := hD o q; omega) (fun o q1 q => by have := hD o q; omega) t4⟩
  rw [gTo_off ho (t := t) (fun o q1 q2 q => by have := hD o q; omega)]
  exact t3
theorem trq_i {i : Nat} (hi : i < 4) : trq (217 + 8 * i) := by
  unfold trq
  omega
theorem r_turn (hx : XI L xs sh z W) {i : Nat} (hi : i < 4) : eR (HP sh z) (.ref 214) (nI i) = some (.ref (217 + 8 * i)) := by
  have hO : isOl sh 205 := hx.1.2.2.1
  rw [rAR (t := 5) (n := 4) (Or.inr (Or.inl rfl)) hO.2.2.1 hi (by decide), hx.2.2.2.1 i hi]
  rfl
theorem i_lead (d : Nat) {p q : Nat} (hp : p < 6) (hq : q < 6) (hO : isOl sh 205) (hB : isSt sh b) (h6 : z.1 205 6 = nI p) (h7 : z.1 205 7 = nI q) (hs : SQ (gSt z b) s) : cI (ZZ L xs) (d + 1) mX2_lead [.ref 205, .ref b] (HP sh z) = some (HP sh z, gaL p q s) := by
  have e : ∀ r, r < 6 → z.2.2.2.1 (b + 4) r = s.2.2 3 r := fun r hr => hs.2.2 3 (by decide) r hr
  refine cI_of ?_
  show RS (ZZ L xs) (d + 1) mX2_lead 0 [some (.ref 205), some (.ref b)] [] _ = _
  rw [bX2_lead_0 (hv1 := rfl)]
  simp (disch := omega) only [St_hour hB, St_chain hB, St_come hB, St_open hB, St_place hB, St_kind hB, St_asked hB, St_total hB, St_chains hB, St_at hB, St_before hB, Stw_hour hB, Stw_chain hB, Stw_come hB, Stw_open hB, St_is hB, Ste_place hB, Ste_kind hB, Ste_asked hB, Ste_total hB, Ste_chains hB, Ste_at hB, Ste_before hB, Stu_place hB, Stu_kind hB, Stu_asked hB, Stu_total hB, Stu_chains hB, Stu_at hB, Stu_before hB, Ol_one hO, Ol_other hO, h6, h7, some_bind', e p hp, e q hq]
  rfl
theorem x_play (hv : VW W) {p q n : Nat} (hp : p < W.2.1.1.2.2.1) (hq : q < W.2.1.1.2.2.1) (hn : n ≤ 3) : ∀ (f i : Nat), f + i = n → ∀ (d : Nat) (z : ST) (s : SV), gaX L xs sh W p q n i z s → gaS W s → ∃ z', cI (ZZ L xs) (d + f + 6) mX2_play [.ref 205, .int (nI i)] (HP sh z) = some (HP sh z', gaV W p q f i s) ∧ Off (Dga i) z z' ∧ gaX L xs sh W p q n i z' s ∧ z'.1 205 9 = gaF W p q f i (z.1 205 9) s := by
  have h6 : W.2.1.1.2.2.1 ≤ 6 := hv.2.1.1.1.1.2.1
  have h8 : W.2.1.1.2.1 ≤ 8 := hv.2.1.1.1.2.2.2.2.1.1
  intro f
  induction f with
  | zero =>
    intro i hi d z s h hg
    have hx := h.1.1
    have hS : isSc sh 3 := hx.1.1.2.2.1
    have hO : isOl sh 205 := hx.1.2.2.1
    have hN : isSt sh 10 := hS.2.2.2.2.1
    have hB : isSt sh (217 + 8 * i) := isSt_trq hx.1 (trq_i (by omega))
    refine ⟨z, cI_of ?_, Off_refl _ _, h, rfl⟩
    show RS (ZZ L xs) (d + 0 + 6) mX2_play 0 [some (.ref 205), some (.int (nI i)), none, none, none, none, none, none, none, none, none] [] _ = _
    rw [bX2_play_0, Ol_turns hO, some_bind', show (205 + 9 : Nat) = 214 from rfl, r_turn hx (show i < 4 by omega), some_bind', Ol_turnCount hO, some_bind', h.2.2.2, if_pos (nI_le (by omega) (by omega)), bX2_play_20 (hv2 := rfl), Ol_is hO, some_bind', i_lead _ (show p < 6 by omega) (show q < 6 by omega) hO hB h.2.1 h.2.2.1 h.1.2.1, some_bind', Ol_now hO, some_bind', Sc_state hS, some_bind', Ol_is hO, some_bind', i_lead _ (show p < 6 by omega) (show q < 6 by omega) hO hN h.2.1 h.2.2.1 hx.2.2.2.2.1.2.2.1, some_bind']
    rfl
  | succ f ih =>
    intro i hi d z s h hg
    have hx := h.1.1
    have hW : isWM sh 0 := hx.1.1.1
    have hC : isCk sh 183 := hx.1.1.2.2.2
    have hS : isSc sh 3 := hx.1.1.2.2.1
    have hO : isOl sh 205 := hx.1.2.2.1
    have hN : isSt sh 10 := hS.2.2.2.2.1
    have hB : isSt sh (217 + 8 * i) := isSt_trq hx.1 (trq_i (by omega))
    have hE : isSt sh (217 + 8 * (i + 1)) := isSt_trq hx.1 (trq_i (by omega))
    have hm : gaM p q i < W.2.1.1.2.2.1 := by
      unfold gaM
      split
      · exact hp
      · exact hq
    obtain ⟨a, ha, hat⟩ := hg _ hm
    -- the loop over the places
    have loop : ∀ (g j : Nat), g + j = W.2.1.1.2.1 → ∀ (z : ST) (acc : Option (Int32 × Nat)) (fm : Int32) (u10 : Option Value), gaX L xs sh W p q n i z s → z.1 205 9 = gaFm i fm acc → ∃ z', RS (ZZ L xs) (d + (f + 1) + 6) mX2_play 112 [some (.ref 205), some (.int (nI i)), some (.ref (217 + 8 * i)), some (.int (if i % 2 = 0 then 1 else 0)), some (.int (nI (gaM p q i))), some (.int (nb s.2.1 (nI a) ||| iShl 1 (nI a))), some (.ref (217 + 8 * (i + 1))), some (.int (gaB acc)), some (.int (gaH acc)), some (.int (nI j)), u10] [] (HP sh z) = some (HP sh z', some (.int (gaB (lp (gaG (decide (i % 2 = 0)) (gaE W p q i (gaV W p q f (i + 1)) s)) g j acc)))) ∧ Off (Dga i) z z' ∧ gaX L xs sh W p q n i z' s ∧ z'.1 205 9 = gaFm i fm (lp (gaG (decide (i % 2 = 0)) (gaE W p q i (gaV W p q f (i + 1)) s)) g j acc) := by
      intro g
      induction g with
      | zero =>
        intro j hj z acc fm u10 h hf
        obtain ⟨t0, t1, t2, -⟩ := Q_places h.1.1 hv
        refine ⟨z, ?_, Off_refl _ _, h, hf⟩
        rw [bX2_play_112 (hv2 := rfl) (hv6 := rfl), Ol_now hO, some_bind', t1, some_bind', t2, some_bind', if_pos (nI_le (by omega) (by omega))]
        rfl
      | succ g ihg =>
        intro j hj z acc fm u10 h hf
        obtain ⟨t0, t1, t2, -⟩ := Q_places h.1.1 hv
        have hbt : bt (nb s.2.1 (nI a) ||| iShl 1 (nI a)) j = gaO s (gaM p q i) j := by
          unfold gaO
          rw [bt_or, bt_shl (by omega) (by omega), hat]
          congr 1
          apply decide_eq_decide.mpr
          rw [nI_eq (by omega) (by omega)]
          omega
        rw [bX2_play_112 (hv2 := rfl) (hv6 := rfl), Ol_now hO, some_bind', t1, some_bind', t2, some_bind', if_neg (nI_ge (by omega) (by omega))]
        by_cases ok : gaO s (gaM p q i) j = true
        · have hqe : QT L xs sh W (217 + 8 * (i + 1)) (RF W W.2.1.2.2.2.1.1) (W.2.1.1.1.1 5) z (gSt z (217 + 8 * (i + 1))) := ⟨h.1.1, SQ_refl _, h.1.2.2⟩
          have hbe : trq (217 + 8 * (i + 1)) := trq_i (by omega)
          obtain ⟨v, v1, v2, v3⟩ := Q_copy (L := L) (xs := xs) (d + (f + 1) + 4) hbe hqe hB (by omega) h.1.2.1
          obtain ⟨o1, o2⟩ := Q_set hbe v3 (j := 0) (by decide) (gaM p q i) (nI j)
          obtain ⟨w, w1, w2, w3, -⟩ := Q_pass (L := L) (xs := xs) (d + (f + 1) + 1) hv hbe o2
          have w3 : QT L xs sh W (217 + 8 * (i + 1)) (RF W W.2.1.2.2.2.1.1) (W.2.1.1.1.1 5) w (gaN W (gaM p q i) s j) := w3
          have off1 : Off (Dt (217 + 8 * (i + 1))) z w := Off_trans (Off_trans (Off_mono v2 (fun o q => Or.inl q)) (Off_mono o1 (fun o q => Or.inl q))) w2
          have e205 : w.1 205 = z.1 205 := (off1 205 (fun q => by unfold Dt at q; omega)).1
          obtain ⟨y, y1, y2, y3, y4⟩ := ih (i + 1) (by omega) d w (gaN W (gaM p q i) s j) ⟨w3, by rw [e205]; exact h.2.1, by rw [e205]; exact h.2.2.1, by rw [e205]; exact h.2.2.2⟩ (gaS_N hg _ (by omega))
          rw [show d + f + 6 = d + (f + 1) + 5 by omega] at y1
          have y4 : y.1 205 9 = z.1 205 9 := by
            rw [y4, e205]
            unfold gaF
            cases f with
            | zero => rfl
            | succ f => exact if_neg (by omega)
          have off2 : Off (Dga i) z y := Off_trans (Off_mono off1 (fun o q => by unfold Dt at q; unfold Dga; omega)) (Off_mono y2 (fun o q => by unfold Dga at q ⊢; omega))
          have hgy : gaX L xs sh W p q n i y s := ⟨QT_g h.1 off2 y3.1.1.2.2.1 (fun o q => by unfold Dga at q; omega), y3.2⟩
          have e0 : gaE W p q i (gaV W p q f (i + 1)) s j = some (gaV W p q f (i + 1) (gaN W (gaM p q i) s j)) := if_pos ok
          rw [if_neg (fun z => z ((bt_shr (by omega)).mpr (hbt.trans ok))), St_is hE, some_bind', v1, some_bind', St_place hE, some_bind']
          rw [show (217 + 8 * (i + 1) + 1 : Nat) = 217 + 8 * (i + 1) + 1 + 0 from rfl] at *
          rw [show wI (HP sh v) (.ref (217 + 8 * (i + 1) + 1 + 0)) (nI (gaM p q i)) (nI j) = _ from Stu_place hE v (by omega) (nI j), some_bind', Ol_clock hO, some_bind', Ck_is hC, some_bind', w1, some_bind', Ol_is hO, some_bind', nI_1, y1, some_bind']
          -- taken
          have take : ∀ acc', acc' = some (gaV W p q f (i + 1) (gaN W (gaM p q i) s j), j) → lp (gaG (decide (i % 2 = 0)) (gaE W p q i (gaV W p q f (i + 1)) s)) (g + 1) j acc = lp (gaG (decide (i % 2 = 0)) (gaE W p q i (gaV W p q f (i + 1)) s)) g (j + 1) acc' → ∃ z', RS (ZZ L xs) (d + (f + 1) + 6) mX2_play 199 [some (.ref 205), some (.int (nI i)), some (.ref (217 + 8 * i)), some (.int (if i % 2 = 0 then 1 else 0)), some (.int (nI (gaM p q i))), some (.int (nb s.2.1 (nI a) ||| iShl 1 (nI a))), some (.ref (217 + 8 * (i + 1))), some (.int (gaB acc)), some (.int (gaH acc)), some (.int (nI j)), some (.int (gaV W p q f (i + 1) (gaN W (gaM p q i) s j)))] [] (HP sh y) = some (HP sh z', some (.int (gaB (lp (gaG (decide (i % 2 = 0)) (gaE W p q i (gaV W p q f (i + 1)) s)) (g + 1) j acc)))) ∧ Off (Dga i) z z' ∧ gaX L xs sh W p q n i z' s ∧ z'.1 205 9 = gaFm i fm (lp (gaG (decide (i % 2 = 0)) (gaE W p q i (gaV W p q f (i + 1)) s)) (g + 1) j acc) := fun acc' hacc hlp => by
            have off3 : ∀ v, Off (fun o => o = 205) y (sI y 205 9 v) := fun v => Off_sI (D := fun o => o = 205) (Off_refl _ _) (by rfl) _ _
            have hgv : ∀ v, gaX L xs sh W p q n i (sI y 205 9 v) s := fun v => ⟨QT_off hgy.1 (off3 v) (fun o q => by omega), hgy.2⟩
            have hv9 : ∀ v, (sI y 205 9 v).1 205 9 = v := fun v => by
              show (if 205 = 205 ∧ 9 = 9 then v else y.1 205 9) = v
              rw [if_pos ⟨rfl, rfl⟩]
            rw [bX2_play_199 (hv2 := rfl) (hv6 := rfl), hlp]
            by_cases i0 : i = 0
            · obtain ⟨z', p1, p2, p3, p4⟩ := ihg (j + 1) (by omega) (sI y 205 9 (nI j)) acc' fm none (hgv _) (by rw [hv9, hacc]; unfold gaFm; rw [if_pos i0])
              refine ⟨z', ?_, Off_trans (Off_trans off2 (Off_mono (off3 _) (fun o q => Or.inr (Or.inr q)))) p2, p3, p4⟩
              rw [if_neg (fun z => z (by rw [i0]; rfl)), bX2_play_220 (hv2 := rfl) (hv6 := rfl) (hw1 := rfl), Olw_firstMove hO, some_bind', bX2_play_223 (hv2 := rfl) (hv6 := rfl), nI_1, ← p1, hacc]
              rfl
            · obtain ⟨z', p1, p2, p3, p4⟩ := ihg (j + 1) (by omega) (sI y 205 9 (y.1 205 9)) acc' fm none (hgv _) (by
                rw [hv9, y4, hf]
                unfold gaFm
                rw [if_neg i0, if_neg i0])
              refine ⟨z', ?_, Off_trans (Off_trans off2 (Off_mono (off3 _) (fun o q => Or.inr (Or.inr q)))) p2, p3, p4⟩
              rw [if_pos (show ¬ nI i = 0 from nI_ne0 (by omega) (by omega)), Ol_firstMove hO, some_bind', bX2_play_220 (hv2 := rfl) (hv6 := rfl) (hw1 := rfl), Olw_firstMove hO, some_bind', bX2_play_223 (hv2 := rfl) (hv6 := rfl), nI_1, ← p1, hacc]
              rfl
          have keep : lp (gaG (decide (i % 2 = 0)) (gaE W p q i (gaV W p q f (i + 1)) s)) (g + 1) j acc = lp (gaG (decide (i % 2 = 0)) (gaE W p q i (gaV W p q f (i + 1)) s)) g (j + 1) acc → ∃ z', RS (ZZ L xs) (d + (f + 1) + 6) mX2_play 223 [some (.ref 205), some (.int (nI i)), some (.ref (217 + 8 * i)), some (.int (if i % 2 = 0 then 1 else 0)), some (.int (nI (gaM p q i))), some (.int (nb s.2.1 (nI a) ||| iShl 1 (nI a))), some (.ref (217 + 8 * (i + 1))), some (.int (gaB acc)), some (.int (gaH acc)), some (.int (nI j)), some (.int (gaV W p q f (i + 1) (gaN W (gaM p q i) s j)))] [] (HP sh y) = some (HP sh z', some (.int (gaB (lp (gaG (decide (i % 2 = 0)) (gaE W p q i (gaV W p q f (i + 1)) s)) (g + 1) j acc)))) ∧ Off (Dga i) z z' ∧ gaX L xs sh W p q n i z' s ∧ z'.1 205 9 = gaFm i fm (lp (gaG (decide (i % 2 = 0)) (gaE W p q i (gaV W p q f (i + 1)) s)) (g + 1) j acc) := fun hlp => by
            obtain ⟨z', p1, p2, p3, p4⟩ := ihg (j + 1) (by omega) y acc fm none hgy (y4.trans hf)
            rw [hlp]
            refine ⟨z', ?_, Off_trans off2 p2, p3, p4⟩
            rw [bX2_play_223 (hv2 := rfl) (hv6 := rfl), nI_1, ← p1]
          have lpS : ∀ r, gaG (decide (i % 2 = 0)) (gaE W p q i (gaV W p q f (i + 1)) s) j acc = r → lp (gaG (decide (i % 2 = 0)) (gaE W p q i (gaV W p q f (i + 1)) s)) (g + 1) j acc = lp (gaG (decide (i % 2 = 0)) (gaE W p q i (gaV W p q f (i + 1)) s)) g (j + 1) r := fun r hr => congrArg (lp _ g (j + 1)) hr
          cases hacc : acc with
          | none =>
            subst hacc
            rw [if_pos (show gaH none = 0 from rfl)]
            exact take _ rfl (lpS _ (by unfold gaG; rw [e0]))
          | some c =>
            subst hacc
            rw [if_neg (show ¬ gaH (some c) = 0 from (by decide : ¬ (1 : Int32) = 0))]
            by_cases par : i % 2 = 0
            · rw [if_neg (show ¬ (if i % 2 = 0 then (1 : Int32) else 0) = 0 by rw [if_pos par]; decide)]
              by_cases le : gaV W p q f (i + 1) (gaN W (gaM p q i) s j) ≤ gaB (some c)
              · rw [if_pos le]
                exact keep (lpS _ (by unfold gaG; rw [e0, decide_eq_true par]; exact if_pos le))
              · rw [if_neg le]
                exact take _ rfl (lpS _ (by unfold gaG; rw [e0, decide_eq_true par]; exact if_neg le))
            · rw [if_pos (show (if i % 2 = 0 then (1 : Int32) else 0) = 0 by rw [if_neg par])]
              by_cases le : gaB (some c) ≤ gaV W p q f (i + 1) (gaN W (gaM p q i) s j)
              · rw [if_pos le]
                exact keep (lpS _ (by unfold gaG; rw [e0, decide_eq_false par]; exact if_pos le))
              · rw [if_neg le]
                exact take _ rfl (lpS _ (by unfold gaG; rw [e0, decide_eq_false par]; exact if_neg le))
        · have e0 : gaE W p q i (gaV W p q f (i + 1)) s j = none := if_neg ok
          have e1 : lp (gaG (decide (i % 2 = 0)) (gaE W p q i (gaV W p q f (i + 1)) s)) (g + 1) j acc = lp (gaG (decide (i % 2 = 0)) (gaE W p q i (gaV W p q f (i + 1)) s)) g (j + 1) acc := congrArg (lp _ g (j + 1)) (by unfold gaG; rw [e0])
          obtain ⟨z', p1, p2, p3, p4⟩ := ihg (j + 1) (by omega) z acc fm none h hf
          rw [e1]
          refine ⟨z', ?_, p2, p3, p4⟩
          rw [if_pos (fun z => ok (hbt.symm.trans ((bt_shr (by omega)).mp z))), bX2_play_223 (hv2 := rfl) (hv6 := rfl), nI_1, ← p1]
    obtain ⟨z', p1, p2, p3, p4⟩ := loop W.2.1.1.2.1 0 (by omega) z none (z.1 205 9) none h (by unfold gaFm; split <;> rfl)
    refine ⟨z', cI_of ?_, p2, p3, p4⟩
    show RS (ZZ L xs) (d + (f + 1) + 6) mX2_play 0 [some (.ref 205), some (.int (nI i)), none, none, none, none, none, none, none, none, none] [] _ = _
    have e3 : z.2.1 (217 + 8 * i) 3 = s.2.1 := h.1.2.1.2.1
    have e4 : z.2.2.2.1 (217 + 8 * i + 1) (gaM p q i) = nI a := (h.1.2.1.2.2 0 (by decide) _ (show gaM p q i < 6 by omega)).trans hat
    have r1 : iRem (nI i) 2 = nI (i % 2) := rem_nI (b := 2) (by omega) (by omega) (by omega)
    have fin : RS (ZZ L xs) (d + (f + 1) + 6) mX2_play 65 [some (.ref 205), some (.int (nI i)), some (.ref (217 + 8 * i)), some (.int (if i % 2 = 0 then 1 else 0)), none, none, none, none, none, none, none] [.int (nI (gaM p q i))] (HP sh z) = some (HP sh z', some (.int (gaV W p q (f + 1) i s))) := by
      rw [bX2_play_65 (hv2 := rfl), St_open hB, some_bind', e3, St_place hB, some_bind', Ste_place hB _ (show gaM p q i < 6 by omega), some_bind', e4, i_nb, some_bind', St_place hB, some_bind', Ste_place hB _ (show gaM p q i < 6 by omega), some_bind', e4, Ol_turns hO, some_bind', show (205 + 9 : Nat) = 214 from rfl, nI_1, r_turn hx (show i + 1 < 4 by omega), some_bind']
      exact p1
    rw [bX2_play_0, Ol_turns hO, some_bind', show (205 + 9 : Nat) = 214 from rfl, r_turn hx (show i < 4 by omega), some_bind', Ol_turnCount hO, some_bind', h.2.2.2, if_neg (nI_ge (by omega) (by omega)), if_pos (show nI i < 3 from nI_lt (b := 3) (by omega) (by decide)), if_neg (by decide), r1]
    by_cases par : i % 2 = 0
    · rw [if_neg (fun z => z (by rw [par]; rfl)), bX2_play_49 (hv2 := rfl), if_neg (by decide), Ol_one hO, some_bind', h.2.1]
      rw [if_pos par, show gaM p q i = p from if_pos par] at fin
      exact fin
    · rw [if_pos (show ¬ nI (i % 2) = 0 from nI_ne0 (by omega) (by omega)), bX2_play_49 (hv2 := rfl), if_pos rfl, Ol_other hO, some_bind', h.2.2.1]
      rw [if_neg par, show gaM p q i = q from if_neg par] at fin
      exact fin
end
end GAME
