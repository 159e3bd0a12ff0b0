/-! the world: what both sides hold -/
/-- tape; now; images; rules -/
abbrev WD : Type := (Nat × (Nat → Nat)) × SCN × (Nat → Option SCN) × (Nat × (Nat → (Nat → Int32) → Int64))
def VB (np : Nat) (s : SV) (B : Nat) : Prop := (∃ c, c ≤ B ∧ s.1.2.2 = nI c) ∧ (∀ p, p < 6 → ∃ t, t ≤ B ∧ s.2.2 3 p = nI t) ∧ ∀ p, np ≤ p → p < 6 → s.2.2 3 p = 0
def VSt (pl np ns : Nat) (s : SV) : Prop := VS pl np ns s ∧ ∃ h, h ≤ 999 ∧ s.1.1 = nI h ∧ VB np s (5 * h)
def VN (np ns nn : Nat) (r : Nat → Nat → Int32) : Prop := nn ≤ 10 ∧ ∀ i, i < nn → (∃ h, h ≤ 60 ∧ r 0 i = nI h) ∧ (∃ g, g < ns ∧ r 1 i = nI g) ∧ (r 2 i = -1 ∨ ∃ p, p < np ∧ r 2 i = nI p)
def VTo (w : TW) (pl np ns : Nat) : Prop := TOK w np ns ∧ w.1 0 = nI pl ∧ (pl = 0 → np = 0 ∧ ns = 0) ∧ (0 < pl → VT w pl np ns) ∧ VO pl w.2.1 ∧ (∀ p, p < np → ∃ i, i < pl ∧ w.2.2 0 p = nI i) ∧ ∀ i, i < 8 → aj w.2.1 i i = false
def VC (c : SCN) : Prop := VTo c.1.1 c.1.2.1 c.1.2.2.1 c.1.2.2.2 ∧ VSt c.1.2.1 c.1.2.2.1 c.1.2.2.2 c.2.1 ∧ (c.2.2.1.1 ≤ 20 ∧ ∀ i, i < c.2.2.1.1 → VSt c.1.2.1 c.1.2.2.1 c.1.2.2.2 (c.2.2.1.2 i)) ∧ (∃ j, j < 2 ^ 31 ∧ c.2.2.2.1.2 = nI j) ∧ VN c.1.2.2.1 c.1.2.2.2 c.2.2.2.2.1 c.2.2.2.2.2
def VF (nr : Nat) (c : SCN) : Prop := c.2.2.2.1.1 = -1 ∨ ∃ r, r < nr ∧ c.2.2.2.1.1 = nI r
def cgF (f : (Nat → Int32) → Int64) : Prop := ∀ u v : Nat → Int32, (∀ k, k < 12 → u k = v k) → f u = f v
def VW (W : WD) : Prop := (W.1.1 ≤ 400 ∧ ∀ i, i < W.1.1 → W.1.2 i < 256) ∧ (VC W.2.1 ∧ VF W.2.2.2.1 W.2.1) ∧ (∀ k c, k < 4 → W.2.2.1 k = some c → VC c ∧ VF W.2.2.2.1 c) ∧ W.2.2.2.1 ≤ 6 ∧ ∀ i, i < W.2.2.2.1 → cgF (W.2.2.2.2 i)
/-- the rule in force -/
def RF (W : WD) (fo : Int32) : Option ((Nat → Int32) → Int64) := if fo = -1 then none else some (W.2.2.2.2 fo.toNatClampNeg)
/-! the model's side -/
def mlen : Nat → Nat
  | 0 => 10 | 1 => 6 | 2 => 6 | 3 => 6 | 4 => 6 | 5 => 6 | 6 => 5 | 7 => 30 | 8 => 8 | 9 => 6 | 10 => 5 | 11 => 5 | 12 => 5 | 13 => 10 | 14 => 10 | 15 => 10 | 16 => 6 | 17 => 6 | 18 => 8
  | 27 => 400 | 28 => 1800 | 29 => 1800 | 30 => 6 | 31 => 72 | 32 => 72 | 33 => 72 | 38 => 1520 | 45 => 7600 | 46 => 4 | _ => 0
def imO : Nat → Nat
  | 0 => 0 | 1 => 10 | 2 => 16 | 3 => 22 | 4 => 28 | 5 => 34 | 6 => 40 | 7 => 45 | 8 => 75 | 9 => 83 | 10 => 90 | 11 => 95 | 12 => 100 | 13 => 105 | 14 => 115 | 15 => 125 | 16 => 135 | 17 => 141 | 18 => 147
  | _ => 155
def unP (f : Nat → Int32) (o : Nat) : MM := ((fun _ => 0), (fun a i => if a = 0 then f (o + (i - 4)) else f (o + imO a - 7 + i)), fun _ _ => 0)
def unI (m : MM) (k : Nat) : MM := ((fun _ => m.2.1 45 (1900 * k + 89)), (fun a i => m.2.1 45 (1900 * k + imO a + i)), fun _ _ => 0)
def MPs (f : Nat → Int32) (i np ns : Nat) (s : SV) : Prop := Mdy (unP f (76 * i)) np ns s ∧ MOp (unP f (76 * i)) s.2.1
def MTo (m : MM) (w : TW) (np : Nat) : Prop := (∀ p, p < np → m.2.1 16 p = w.2.2 0 p ∧ m.2.1 17 p = w.2.2 1 p) ∧ ∀ i, i < 8 → m.2.1 18 i = nb w.2.1 (nI i)
def MNo (m : MM) (nn : Nat) (r : Nat → Nat → Int32) : Prop := m.2.1 0 7 = nI nn ∧ ∀ j, j < 3 → ∀ i, i < nn → m.2.1 (13 + j) i = r j i
def MPa (m : MM) (k np ns : Nat) (P : Nat → SV) : Prop := m.1 51 = nI k ∧ ∀ i, i < k → MPs (m.2.1 38) i np ns (P i)
def MSc (m : MM) (c : SCN) : Prop := (MSt m c.1.1 c.1.2.1 c.1.2.2.1 c.1.2.2.2 (c.1.1.1 5) ∧ MTo m c.1.1 c.1.2.2.1) ∧ (MOp m c.2.1.2.1 ∧ Mdy m c.1.2.2.1 c.1.2.2.2 c.2.1) ∧ MPa m c.2.2.1.1 c.1.2.2.1 c.1.2.2.2 c.2.2.1.2 ∧ (m.2.1 0 9 = c.2.2.2.1.1 ∧ m.2.1 0 8 = c.2.2.2.1.2) ∧ MNo m c.2.2.2.2.1 c.2.2.2.2.2
def inSl (a i j : Nat) : Prop := if a ≤ 29 then 300 * i ≤ j ∧ j < 300 * i + 300 else if a = 30 then j = i else 12 * i ≤ j ∧ j < 12 * i + 12
def MRu (L : Nat) (xs : Nat → Int32) (m : MM) (i : Nat) (f : (Nat → Int32) → Int64) : Prop := ∀ (sh : List Sh) (x : ST) (d : Nat) (m' : MM), 0 < d → isMo sh → (∀ a, 28 ≤ a → a ≤ 33 → ∀ j, inSl a i j → m'.2.1 a j = m.2.1 a j) → m'.2.1 0 9 = nI i → ∀ wd : Nat → Int32, (∀ k, k < 12 → m'.2.2 35 k = (wd k).toInt64) → ∃ J, cJ (ZZ L xs) (d + 3) mX13_wanted [.ref 259] (HP sh (pM x m')) = some (HP sh (pM x (m'.1, m'.2.1, J)), f wd)
def MIm (m : MM) (g : Nat → Option SCN) : Prop := ∀ k, k < 4 → (g k = none → m.2.1 46 k = 0) ∧ ∀ c, g k = some c → m.2.1 46 k = 1 ∧ MSc (unI m k) c
def MTa (m : MM) (t : Nat × (Nat → Nat)) : Prop := m.1 28 = nI t.1 ∧ ∀ i, i < t.1 → m.2.1 27 i = (nI (t.2 i)).toInt8.toInt32
def MI (L : Nat) (xs : Nat → Int32) (m : MM) (W : WD) : Prop := MTa m W.1 ∧ MSc m W.2.1 ∧ MIm m W.2.2.1 ∧ (m.1 32 = nI W.2.2.2.1 ∧ m.1 37 = 12) ∧ ∀ i, i < W.2.2.2.1 → MRu L xs m i (W.2.2.2.2 i)
/-- the same but for what is laid there for a while -/
def MJ (m m' : MM) : Prop := (m'.1 28 = m.1 28 ∧ m'.1 32 = m.1 32 ∧ m'.1 37 = m.1 37 ∧ m'.1 51 = m.1 51) ∧ ∀ a i, i < mlen a → m'.2.1 a i = m.2.1 a i
theorem MJ_refl (m : MM) : MJ m m := ⟨⟨rfl, rfl, rfl, rfl⟩, fun _ _ _ => rfl⟩
theorem MJ_trans {a b c : MM} (h : MJ a b) (g : MJ b c) : MJ a c := ⟨⟨g.1.1.trans h.1.1, g.1.2.1.trans h.1.2.1, g.1.2.2.1.trans h.1.2.2.1, g.1.2.2.2.trans h.1.2.2.2⟩, fun r i hi => (g.2 r i hi).trans (h.2 r i hi)⟩
/-- rows that a scene is read from -/
def SQM (m m' : MM) : Prop := m'.1 51 = m.1 51 ∧ ∀ a, a ≤ 18 ∨ a = 38 → ∀ i, i < mlen a → m'.2.1 a i = m.2.1 a i
theorem Mdy_q {m m' : MM} {np ns : Nat} {s : SV} (h1 : ∀ i, 4 ≤ i → i < 7 → m'.2.1 0 i = m.2.1 0 i) (h2 : ∀ a, 1 ≤ a → a ≤ 7 → ∀ i, i < mlen a → m'.2.1 a i = m.2.1 a i) (hn : np ≤ 6) (hs : ns ≤ 5) (h : Mdy m np ns s) : Mdy m' np ns s := by
  obtain ⟨q1, q2, q3, q4⟩ := h
  refine ⟨(h1 4 (by omega) (by omega)).trans q1, (h1 5 (by omega) (by omega)).trans q2, (h1 6 (by omega) (by omega)).trans q3, fun j hj k hk => ?_⟩
  refine (h2 (1 + j) (by omega) (by omega) k ?_).trans (q4 j hj k hk)
  unfold RLv at hk
  match j, hj with
  | 0, _ => have hk : k < np := hk; show k < 6; omega
  | 1, _ => have hk : k < np := hk; show k < 6; omega
  | 2, _ => have hk : k < np := hk; show k < 6; omega
  | 3, _ => have hk : k < np := hk; show k < 6; omega
  | 4, _ => have hk : k < np := hk; show k < 6; omega
  | 5, _ => have hk : k < ns := hk; show k < 5; omega
  | 6, _ => have hk : k / 6 < ns ∧ k % 6 < np := hk; show k < 30; omega
theorem MSc_q {m m' : MM} {c : SCN} (hq : SQM m m') (hv : VC c) (h : MSc m c) : MSc m' c := by
  obtain ⟨⟨⟨hn, hn6, hs, hs5⟩, -⟩, -, ⟨hk, -⟩, -, ⟨hnn, -⟩⟩ := hv
  obtain ⟨⟨⟨a1, a2, a3, a4, a5, a6⟩, ⟨b1, b2⟩⟩, ⟨c1, c2⟩, ⟨d1, d2⟩, ⟨e1, e2⟩, ⟨f1, f2⟩⟩ := h
  obtain ⟨q0, q⟩ := hq
  refine ⟨⟨⟨(q 0 (by omega) 0 (by decide)).trans a1, (q 0 (by omega) 1 (by decide)).trans a2, (q 0 (by omega) 2 (by decide)).trans a3, (q 0 (by omega) 3 (by decide)).trans a4, fun p hp => (q 9 (by omega) p (by show p < 6; omega)).trans (a5 p hp), fun g hg => ⟨(q 10 (by omega) g (by show g < 5; omega)).trans (a6 g hg).1, (q 11 (by omega) g (by show g < 5; omega)).trans (a6 g hg).2.1, (q 12 (by omega) g (by show g < 5; omega)).trans (a6 g hg).2.2⟩⟩, fun p hp => ⟨(q 16 (by omega) p (by show p < 6; omega)).trans (b1 p hp).1, (q 17 (by omega) p (by show p < 6; omega)).trans (b1 p hp).2⟩, fun i hi => (q 18 (by omega) i hi).trans (b2 i hi)⟩, ⟨fun i hi => (q 8 (by omega) i hi).trans (c1 i hi), Mdy_q (fun i h1 h2 => q 0 (by omega) i (by show i < 10; omega)) (fun a h1 h2 i hi => q a (by omega) i hi) hn6 hs5 c2⟩, ⟨q0.trans d1, fun i hi => ?_⟩, ⟨(q 0 (by omega) 9 (by decide)).trans e1, (q 0 (by omega) 8 (by decide)).trans e2⟩, (q 0 (by omega) 7 (by decide)).trans f1, fun j hj i hi => ?_⟩
  · obtain ⟨g1, g2⟩ := d2 i hi
    have key : ∀ t, t < 76 → m'.2.1 38 (76 * i + t) = m.2.1 38 (76 * i + t) := fun t ht => q 38 (by omega) _ (by show 76 * i + t < 1520; omega)
    refine ⟨Mdy_q (m := unP (m.2.1 38) (76 * i)) (fun j h1 h2 => key (j - 4) (by omega)) (fun a h1 h2 j hj => ?_) hn6 hs5 g1, fun j hj => ?_⟩
    · have e : ∀ f : Nat → Int32, (unP f (76 * i)).2.1 a j = f (76 * i + (imO a - 7 + j)) := by
        intro f
        show (if a = 0 then _ else f (76 * i + imO a - 7 + j)) = _
        have : 7 ≤ imO a := by
          match a, h1, h2 with
          | 1, _, _ => decide
          | 2, _, _ => decide
          | 3, _, _ => decide
          | 4, _, _ => decide
          | 5, _, _ => decide
          | 6, _, _ => decide
          | 7, _, _ => decide
        rw [if_neg (by omega), show 76 * i + imO a - 7 + j = 76 * i + (imO a - 7 + j) by omega]
      rw [e, e]
      refine key _ ?_
      match a, h1, h2 with
      | 1, _, _ => have hj : j < 6 := hj; show 10 - 7 + j < 76; omega
      | 2, _, _ => have hj : j < 6 := hj; show 16 - 7 + j < 76; omega
      | 3, _, _ => have hj : j < 6 := hj; show 22 - 7 + j < 76; omega
      | 4, _, _ => have hj : j < 6 := hj; show 28 - 7 + j < 76; omega
      | 5, _, _ => have hj : j < 6 := hj; show 34 - 7 + j < 76; omega
      | 6, _, _ => have hj : j < 5 := hj; show 40 - 7 + j < 76; omega
      | 7, _, _ => have hj : j < 30 := hj; show 45 - 7 + j < 76; omega
    · refine Eq.trans ?_ (g2 j hj)
      show m'.2.1 38 (76 * i + 75 - 7 + j) = m.2.1 38 (76 * i + 75 - 7 + j)
      rw [show 76 * i + 75 - 7 + j = 76 * i + (68 + j) by omega]
      exact key _ (by omega)
  · refine (q (13 + j) (by omega) i ?_).trans (f2 j hj i hi)
    match j, hj with
    | 0, _ => show i < 10; omega
    | 1, _ => show i < 10; omega
    | 2, _ => show i < 10; omega
theorem imO_lt {a i : Nat} (ha : a ≤ 18 ∨ a = 38) (hi : i < mlen a) : imO a + i < 1675 := by
  rcases ha with ha | rfl
  · have : a = 0 ∨ a = 1 ∨ a = 2 ∨ a = 3 ∨ a = 4 ∨ a = 5 ∨ a = 6 ∨ a = 7 ∨ a = 8 ∨ a = 9 ∨ a = 10 ∨ a = 11 ∨ a = 12 ∨ a = 13 ∨ a = 14 ∨ a = 15 ∨ a = 16 ∨ a = 17 ∨ a = 18 := by omega
    rcases this with rfl | rfl | rfl | rfl | rfl | rfl | rfl | rfl | rfl | rfl | rfl | rfl | rfl | rfl | rfl | rfl | rfl | rfl | rfl
    · have hi : i < 10 := hi
      show 0 + i < 1675
      omega
    · have hi : i < 6 := hi
      show 10 + i < 1675
      omega
    · have hi : i < 6 := hi
      show 16 + i < 1675
      omega
    · have hi : i < 6 := hi
      show 22 + i < 1675
      omega
    · have hi : i < 6 := hi
      show 28 + i < 1675
      omega
    · have hi : i < 6 := hi
      show 34 + i < 1675
      omega
    · have hi : i < 5 := hi
      show 40 + i < 1675
      omega
    · have hi : i < 30 := hi
      show 45 + i < 1675
      omega
    · have hi : i < 8 := hi
      show 75 + i < 1675
      omega
    · have hi : i < 6 := hi
      show 83 + i < 1675
      omega
    · have hi : i < 5 := hi
      show 90 + i < 1675
      omega
    · have hi : i < 5 := hi
      show 95 + i < 1675
      omega
    · have hi : i < 5 := hi
      show 100 + i < 1675
      omega
    · have hi : i < 10 := hi
      show 105 + i < 1675
      omega
    · have hi : i < 10 := hi
      show 115 + i < 1675
      omega
    · have hi : i < 10 := hi
      show 125 + i < 1675
      omega
    · have hi : i < 6 := hi
      show 135 + i < 1675
      omega
    · have hi : i < 6 := hi
      show 141 + i < 1675
      omega
    · have hi : i < 8 := hi
      show 147 + i < 1675
      omega
  · have hi : i < 1520 := hi
    show 155 + i < 1675
    omega
theorem unI_q {m m' : MM} {k : Nat} (h : ∀ t, t < 1675 → m'.2.1 45 (1900 * k + t) = m.2.1 45 (1900 * k + t)) : SQM (unI m k) (unI m' k) := by
  refine ⟨h 89 (by decide), fun a ha i hi => ?_⟩
  show m'.2.1 45 (1900 * k + imO a + i) = m.2.1 45 (1900 * k + imO a + i)
  rw [Nat.add_assoc]
  exact h _ (imO_lt ha hi)
theorem mlen_pos {a : Nat} (ha : a ≤ 18 ∨ a = 38) {i : Nat} (hi : i < mlen a) : i < mlen a := hi
theorem MJ_S {m m' : MM} (h : MJ m m') : SQM m m' := ⟨h.1.2.2.2, fun a _ i hi => h.2 a i hi⟩
theorem MRu_fr {L : Nat} {xs : Nat → Int32} {m m' : MM} {i : Nat} {f : (Nat → Int32) → Int64} (h : ∀ a, 28 ≤ a → a ≤ 33 → ∀ j, inSl a i j → m'.2.1 a j = m.2.1 a j) (hr : MRu L xs m i f) : MRu L xs m' i f := fun sh x d m2 hd hM h2 => hr sh x d m2 hd hM (fun a h3 h4 j hj => (h2 a h3 h4 j hj).trans (h a h3 h4 j hj))
theorem inSl_len {a i j : Nat} (h1 : 28 ≤ a) (h2 : a ≤ 33) (hi : i < 6) (hj : inSl a i j) : j < mlen a := by
  unfold inSl at hj
  have : a = 28 ∨ a = 29 ∨ a = 30 ∨ a = 31 ∨ a = 32 ∨ a = 33 := by omega
  rcases this with rfl | rfl | rfl | rfl | rfl | rfl
  · rw [if_pos (by decide)] at hj
    show j < 1800
    omega
  · rw [if_pos (by decide)] at hj
    show j < 1800
    omega
  · rw [if_neg (by decide), if_pos rfl] at hj
    show j < 6
    omega
  · rw [if_neg (by decide), if_neg (by decide)] at hj
    show j < 72
    omega
  · rw [if_neg (by decide), if_neg (by decide)] at hj
    show j < 72
    omega
  · rw [if_neg (by decide), if_neg (by decide)] at hj
    show j < 72
    omega
theorem MIm_J {m m' : MM} {g : Nat → Option SCN} {nr : Nat} (h : MJ m m') (hv : ∀ k c, k < 4 → g k = some c → VC c ∧ VF nr c) (hi : MIm m g) : MIm m' g := fun k hk => by
  have h46 := h.2 46 k hk
  refine ⟨fun hg => h46.trans ((hi k hk).1 hg), fun c hg => ⟨h46.trans ((hi k hk).2 c hg).1, ?_⟩⟩
  exact MSc_q (unI_q fun t ht => h.2 45 _ (by show 1900 * k + t < 7600; omega)) (hv k c hk hg).1 ((hi k hk).2 c hg).2
theorem MI_J {L : Nat} {xs : Nat → Int32} {m m' : MM} {W : WD} (h : MJ m m') (hv : VW W) (hi : MI L xs m W) : MI L xs m' W := by
  obtain ⟨⟨a1, a2⟩, b, c, ⟨d1, d2⟩, e⟩ := hi
  obtain ⟨⟨v0, v00⟩, ⟨v1, -⟩, v2, v3, -⟩ := hv
  refine ⟨⟨h.1.1.trans a1, fun i hi => (h.2 27 i (by show i < 400; omega)).trans (a2 i hi)⟩, MSc_q (MJ_S h) v1 b, MIm_J h v2 c, ⟨h.1.2.1.trans d1, h.1.2.2.1.trans d2⟩, fun i hi => MRu_fr (fun a h1 h2 j hj => h.2 a j (inSl_len h1 h2 (by omega) hj)) (e i hi)⟩
theorem RF_some {W : WD} {fo : Int32} {r : Nat} (h : fo = nI r) (hr : r < 6) : RF W fo = some (W.2.2.2.2 r) := by
  subst h
  unfold RF
  rw [if_neg (fun q => nI_pos (n := r) (by omega) (by rw [q]; decide)), nI_clamp (by omega)]
/-- the rule in force, in the model, is the world's -/
theorem RuM_of {L : Nat} {xs : Nat → Int32} {sh : List Sh} {x : ST} {m m0 : MM} {W : WD} {fo : Int32} (hM : isMo sh) (hi : MI L xs m0 W) (hfo : m.2.1 0 9 = fo) (hw : W.2.2.2.1 ≤ 6) (hv : fo = -1 ∨ ∃ r, r < W.2.2.2.1 ∧ fo = nI r) (hq : ∀ a, 28 ≤ a → a ≤ 33 → ∀ j, j < mlen a → m.2.1 a j = m0.2.1 a j) : RuM L xs sh x m (RF W fo) := by
  rcases hv with h | ⟨r, hr, h⟩
  · subst h
    unfold RF
    rw [if_pos rfl]
    exact hfo
  · rw [RF_some h (by omega)]
    refine ⟨fun q => nI_pos (n := r) (by omega) ?_, fun d hd m' hf wd hwd => ?_⟩
    · rw [← h, ← hfo, q]
      decide
    · exact hi.2.2.2.2 r hr sh x d m' hd hM (fun a h1 h2 j hj => (congrFun (hf.2 a h1 h2) j).trans (hq a h1 h2 j (inSl_len h1 h2 (by omega) hj))) (hf.1.trans (hfo.trans h)) wd hwd
