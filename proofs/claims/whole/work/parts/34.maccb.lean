/-! written numbers as places of rows (by program) -/
theorem eI_l0 (ph : PH) (r : Value) : eI ph r 0 = eI ph r (nI 0) := rfl
theorem eL_l0 (ph : PH) (r : Value) : eL ph r 0 = eL ph r (nI 0) := rfl
theorem eB_l0 (ph : PH) (r : Value) : eB ph r 0 = eB ph r (nI 0) := rfl
theorem wI_l0 (ph : PH) (r : Value) (v : Int32) : wI ph r 0 v = wI ph r (nI 0) v := rfl
theorem wL_l0 (ph : PH) (r : Value) (v : Int64) : wL ph r 0 v = wL ph r (nI 0) v := rfl
theorem wB_l0 (ph : PH) (r : Value) (v : Int32) : wB ph r 0 v = wB ph r (nI 0) v := rfl
theorem eR_l0 (ph : PH) (r : Value) : eR ph r 0 = eR ph r (nI 0) := rfl
theorem eI_l1 (ph : PH) (r : Value) : eI ph r 1 = eI ph r (nI 1) := rfl
theorem eL_l1 (ph : PH) (r : Value) : eL ph r 1 = eL ph r (nI 1) := rfl
theorem eB_l1 (ph : PH) (r : Value) : eB ph r 1 = eB ph r (nI 1) := rfl
theorem wI_l1 (ph : PH) (r : Value) (v : Int32) : wI ph r 1 v = wI ph r (nI 1) v := rfl
theorem wL_l1 (ph : PH) (r : Value) (v : Int64) : wL ph r 1 v = wL ph r (nI 1) v := rfl
theorem wB_l1 (ph : PH) (r : Value) (v : Int32) : wB ph r 1 v = wB ph r (nI 1) v := rfl
theorem eR_l1 (ph : PH) (r : Value) : eR ph r 1 = eR ph r (nI 1) := rfl
theorem eI_l2 (ph : PH) (r : Value) : eI ph r 2 = eI ph r (nI 2) := rfl
theorem eL_l2 (ph : PH) (r : Value) : eL ph r 2 = eL ph r (nI 2) := rfl
theorem eB_l2 (ph : PH) (r : Value) : eB ph r 2 = eB ph r (nI 2) := rfl
theorem wI_l2 (ph : PH) (r : Value) (v : Int32) : wI ph r 2 v = wI ph r (nI 2) v := rfl
theorem wL_l2 (ph : PH) (r : Value) (v : Int64) : wL ph r 2 v = wL ph r (nI 2) v := rfl
theorem wB_l2 (ph : PH) (r : Value) (v : Int32) : wB ph r 2 v = wB ph r (nI 2) v := rfl
theorem eR_l2 (ph : PH) (r : Value) : eR ph r 2 = eR ph r (nI 2) := rfl
theorem eI_l3 (ph : PH) (r : Value) : eI ph r 3 = eI ph r (nI 3) := rfl
theorem eL_l3 (ph : PH) (r : Value) : eL ph r 3 = eL ph r (nI 3) := rfl
theorem eB_l3 (ph : PH) (r : Value) : eB ph r 3 = eB ph r (nI 3) := rfl
theorem wI_l3 (ph : PH) (r : Value) (v : Int32) : wI ph r 3 v = wI ph r (nI 3) v := rfl
theorem wL_l3 (ph : PH) (r : Value) (v : Int64) : wL ph r 3 v = wL ph r (nI 3) v := rfl
theorem wB_l3 (ph : PH) (r : Value) (v : Int32) : wB ph r 3 v = wB ph r (nI 3) v := rfl
theorem eR_l3 (ph : PH) (r : Value) : eR ph r 3 = eR ph r (nI 3) := rfl
theorem eI_l4 (ph : PH) (r : Value) : eI ph r 4 = eI ph r (nI 4) := rfl
theorem eL_l4 (ph : PH) (r : Value) : eL ph r 4 = eL ph r (nI 4) := rfl
theorem eB_l4 (ph : PH) (r : Value) : eB ph r 4 = eB ph r (nI 4) := rfl
theorem wI_l4 (ph : PH) (r : Value) (v : Int32) : wI ph r 4 v = wI ph r (nI 4) v := rfl
theorem wL_l4 (ph : PH) (r : Value) (v : Int64) : wL ph r 4 v = wL ph r (nI 4) v := rfl
theorem wB_l4 (ph : PH) (r : Value) (v : Int32) : wB ph r 4 v = wB ph r (nI 4) v := rfl
theorem eR_l4 (ph : PH) (r : Value) : eR ph r 4 = eR ph r (nI 4) := rfl
theorem eI_l5 (ph : PH) (r : Value) : eI ph r 5 = eI ph r (nI 5) := rfl
theorem eL_l5 (ph : PH) (r : Value) : eL ph r 5 = eL ph r (nI 5) := rfl
theorem eB_l5 (ph : PH) (r : Value) : eB ph r 5 = eB ph r (nI 5) := rfl
theorem wI_l5 (ph : PH) (r : Value) (v : Int32) : wI ph r 5 v = wI ph r (nI 5) v := rfl
theorem wL_l5 (ph : PH) (r : Value) (v : Int64) : wL ph r 5 v = wL ph r (nI 5) v := rfl
theorem wB_l5 (ph : PH) (r : Value) (v : Int32) : wB ph r 5 v = wB ph r (nI 5) v := rfl
theorem eR_l5 (ph : PH) (r : Value) : eR ph r 5 = eR ph r (nI 5) := rfl
theorem eI_l6 (ph : PH) (r : Value) : eI ph r 6 = eI ph r (nI 6) := rfl
theorem eL_l6 (ph : PH) (r : Value) : eL ph r 6 = eL ph r (nI 6) := rfl
theorem eB_l6 (ph : PH) (r : Value) : eB ph r 6 = eB ph r (nI 6) := rfl
theorem wI_l6 (ph : PH) (r : Value) (v : Int32) : wI ph r 6 v = wI ph r (nI 6) v := rfl
theorem wL_l6 (ph : PH) (r : Value) (v : Int64) : wL ph r 6 v = wL ph r (nI 6) v := rfl
theorem wB_l6 (ph : PH) (r : Value) (v : Int32) : wB ph r 6 v = wB ph r (nI 6) v := rfl
theorem eR_l6 (ph : PH) (r : Value) : eR ph r 6 = eR ph r (nI 6) := rfl
theorem eI_l7 (ph : PH) (r : Value) : eI ph r 7 = eI ph r (nI 7) := rfl
theorem eL_l7 (ph : PH) (r : Value) : eL ph r 7 = eL ph r (nI 7) := rfl
theorem eB_l7 (ph : PH) (r : Value) : eB ph r 7 = eB ph r (nI 7) := rfl
theorem wI_l7 (ph : PH) (r : Value) (v : Int32) : wI ph r 7 v = wI ph r (nI 7) v := rfl
theorem wL_l7 (ph : PH) (r : Value) (v : Int64) : wL ph r 7 v = wL ph r (nI 7) v := rfl
theorem wB_l7 (ph : PH) (r : Value) (v : Int32) : wB ph r 7 v = wB ph r (nI 7) v := rfl
theorem eR_l7 (ph : PH) (r : Value) : eR ph r 7 = eR ph r (nI 7) := rfl
theorem eI_l8 (ph : PH) (r : Value) : eI ph r 8 = eI ph r (nI 8) := rfl
theorem eL_l8 (ph : PH) (r : Value) : eL ph r 8 = eL ph r (nI 8) := rfl
theorem eB_l8 (ph : PH) (r : Value) : eB ph r 8 = eB ph r (nI 8) := rfl
theorem wI_l8 (ph : PH) (r : Value) (v : Int32) : wI ph r 8 v = wI ph r (nI 8) v := rfl
theorem wL_l8 (ph : PH) (r : Value) (v : Int64) : wL ph r 8 v = wL ph r (nI 8) v := rfl
theorem wB_l8 (ph : PH) (r : Value) (v : Int32) : wB ph r 8 v = wB ph r (nI 8) v := rfl
theorem eR_l8 (ph : PH) (r : Value) : eR ph r 8 = eR ph r (nI 8) := rfl
theorem eI_l9 (ph : PH) (r : Value) : eI ph r 9 = eI ph r (nI 9) := rfl
theorem eL_l9 (ph : PH) (r : Value) : eL ph r 9 = eL ph r (nI 9) := rfl
theorem eB_l9 (ph : PH) (r : Value) : eB ph r 9 = eB ph r (nI 9) := rfl
theorem wI_l9 (ph : PH) (r : Value) (v : Int32) : wI ph r 9 v = wI ph r (nI 9) v := rfl
theorem wL_l9 (ph : PH) (r : Value) (v : Int64) : wL ph r 9 v = wL ph r (nI 9) v := rfl
theorem wB_l9 (ph : PH) (r : Value) (v : Int32) : wB ph r 9 v = wB ph r (nI 9) v := rfl
theorem eR_l9 (ph : PH) (r : Value) : eR ph r 9 = eR ph r (nI 9) := rfl
theorem eI_l10 (ph : PH) (r : Value) : eI ph r 10 = eI ph r (nI 10) := rfl
theorem eL_l10 (ph : PH) (r : Value) : eL ph r 10 = eL ph r (nI 10) := rfl
theorem eB_l10 (ph : PH) (r : Value) : eB ph r 10 = eB ph r (nI 10) := rfl
theorem wI_l10 (ph : PH) (r : Value) (v : Int32) : wI ph r 10 v = wI ph r (nI 10) v := rfl
theorem wL_l10 (ph : PH) (r : Value) (v : Int64) : wL ph r 10 v = wL ph r (nI 10) v := rfl
theorem wB_l10 (ph : PH) (r : Value) (v : Int32) : wB ph r 10 v = wB ph r (nI 10) v := rfl
theorem eR_l10 (ph : PH) (r : Value) : eR ph r 10 = eR ph r (nI 10) := rfl
theorem eI_l11 (ph : PH) (r : Value) : eI ph r 11 = eI ph r (nI 11) := rfl
theorem eL_l11 (ph : PH) (r : Value) : eL ph r 11 = eL ph r (nI 11) := rfl
theorem eB_l11 (ph : PH) (r : Value) : eB ph r 11 = eB ph r (nI 11) := rfl
theorem wI_l11 (ph : PH) (r : Value) (v : Int32) : wI ph r 11 v = wI ph r (nI 11) v := rfl
theorem wL_l11 (ph : PH) (r : Value) (v : Int64) : wL ph r 11 v = wL ph r (nI 11) v := rfl
theorem wB_l11 (ph : PH) (r : Value) (v : Int32) : wB ph r 11 v = wB ph r (nI 11) v := rfl
theorem eR_l11 (ph : PH) (r : Value) : eR ph r 11 = eR ph r (nI 11) := rfl
theorem eI_l12 (ph : PH) (r : Value) : eI ph r 12 = eI ph r (nI 12) := rfl
theorem eL_l12 (ph : PH) (r : Value) : eL ph r 12 = eL ph r (nI 12) := rfl
theorem eB_l12 (ph : PH) (r : Value) : eB ph r 12 = eB ph r (nI 12) := rfl
theorem wI_l12 (ph : PH) (r : Value) (v : Int32) : wI ph r 12 v = wI ph r (nI 12) v := rfl
theorem wL_l12 (ph : PH) (r : Value) (v : Int64) : wL ph r 12 v = wL ph r (nI 12) v := rfl
theorem wB_l12 (ph : PH) (r : Value) (v : Int32) : wB ph r 12 v = wB ph r (nI 12) v := rfl
theorem eR_l12 (ph : PH) (r : Value) : eR ph r 12 = eR ph r (nI 12) := rfl
theorem nI_m5 (a : Nat) : nI a * 5 = nI (a * 5) := pk_mul a 5
theorem nI_5m (a : Nat) : 5 * nI a = nI (5 * a) := pk_mul 5 a
theorem nI_m6 (a : Nat) : nI a * 6 = nI (a * 6) := pk_mul a 6
theorem nI_6m (a : Nat) : 6 * nI a = nI (6 * a) := pk_mul 6 a
theorem nI_m7 (a : Nat) : nI a * 7 = nI (a * 7) := pk_mul a 7
theorem nI_7m (a : Nat) : 7 * nI a = nI (7 * a) := pk_mul 7 a
theorem nI_m8 (a : Nat) : nI a * 8 = nI (a * 8) := pk_mul a 8
theorem nI_8m (a : Nat) : 8 * nI a = nI (8 * a) := pk_mul 8 a
theorem nI_m10 (a : Nat) : nI a * 10 = nI (a * 10) := pk_mul a 10
theorem nI_10m (a : Nat) : 10 * nI a = nI (10 * a) := pk_mul 10 a
theorem nI_m12 (a : Nat) : nI a * 12 = nI (a * 12) := pk_mul a 12
theorem nI_12m (a : Nat) : 12 * nI a = nI (12 * a) := pk_mul 12 a
theorem nI_m76 (a : Nat) : nI a * 76 = nI (a * 76) := pk_mul a 76
theorem nI_76m (a : Nat) : 76 * nI a = nI (76 * a) := pk_mul 76 a
theorem nI_m300 (a : Nat) : nI a * 300 = nI (a * 300) := pk_mul a 300
theorem nI_300m (a : Nat) : 300 * nI a = nI (300 * a) := pk_mul 300 a
theorem nI_m1900 (a : Nat) : nI a * 1900 = nI (a * 1900) := pk_mul a 1900
theorem nI_1900m (a : Nat) : 1900 * nI a = nI (1900 * a) := pk_mul 1900 a
