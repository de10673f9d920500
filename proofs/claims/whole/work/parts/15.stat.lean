/-! PRINTED BY wip/whole/gen_link.py: the cells that stand, by their numbers -/
def stab : List (Nat × Nat × Nat) := [(0, 0, 1), (0, 2, 2), (0, 7, 16), (0, 8, 17), (0, 9, 44), (0, 10, 45), (0, 11, 72), (0, 12, 76), (0, 13, 78), (0, 14, 79), (2, 0, 7), (2, 2, 3), (2, 3, 4), (2, 4, 5), (2, 5, 6), (7, 0, 1), (8, 0, 9), (8, 7, 10), (8, 8, 11), (12, 0, 13), (12, 7, 14), (12, 8, 15), (17, 1, 18), (17, 2, 21), (17, 3, 24), (17, 4, 27), (17, 5, 30), (17, 6, 41), (17, 7, 43), (18, 0, 19), (18, 1, 20), (21, 0, 22), (21, 1, 23), (24, 0, 25), (24, 1, 26), (27, 0, 28), (27, 1, 29), (30, 1, 31), (30, 2, 32), (30, 3, 33), (30, 4, 34), (30, 5, 35), (30, 6, 36), (30, 7, 37), (30, 8, 38), (30, 9, 39), (30, 10, 40), (41, 0, 42), (45, 1, 46), (45, 2, 49), (45, 3, 52), (45, 4, 55), (45, 5, 58), (45, 6, 69), (45, 7, 71), (46, 0, 47), (46, 1, 48), (49, 0, 50), (49, 1, 51), (52, 0, 53), (52, 1, 54), (55, 0, 56), (55, 1, 57), (58, 1, 59), (58, 2, 60), (58, 3, 61), (58, 4, 62), (58, 5, 63), (58, 6, 64), (58, 7, 65), (58, 8, 66), (58, 9, 67), (58, 10, 68), (69, 0, 70), (72, 0, 73), (72, 1, 74), (72, 2, 75), (76, 0, 77), (80, 1, 81), (80, 13, 82), (80, 16, 83), (80, 17, 84), (80, 18, 85), (80, 21, 86), (80, 22, 87), (80, 23, 88), (80, 25, 89), (80, 26, 90), (80, 36, 91), (80, 37, 92), (80, 38, 93), (80, 39, 94), (80, 40, 95), (80, 41, 96), (80, 42, 97), (80, 43, 98), (80, 45, 99), (80, 46, 100), (80, 48, 101), (80, 49, 102), (80, 50, 103), (80, 51, 104), (80, 52, 105), (80, 53, 106), (80, 55, 107), (80, 58, 108), (80, 62, 109), (80, 63, 110), (80, 64, 111), (80, 65, 112), (80, 66, 113), (80, 67, 114), (80, 68, 115), (80, 69, 116), (80, 70, 117), (80, 71, 118), (80, 72, 119), (80, 76, 120)]
/-- all cells are made, and the fields that never change hold what they hold -/
def Stat (R : HR) : Prop := R 1000 0 = some 122 ∧ stab.all (fun q => decide (R q.1 q.2.1 = some q.2.2)) = true
theorem Stat.n {R : HR} (h : Stat R) : am_n R = 122 := by simp [am_n, h.1]
theorem Stat.get {R : HR} (h : Stat R) {a k v : Nat} (hm : stab.contains (a, k, v) = true) : R a k = some v := by
  have h1 := List.all_eq_true.mp h.2 (a, k, v) (by simpa using hm)
  simpa using h1
theorem Stat.is {R : HR} (h : Stat R) {a k : Nat} (hm : (decide (a < 122) && decide ((am_T a).1 = k)) = true) : am_is R a k := by
  simp only [Bool.and_eq_true, decide_eq_true_eq] at hm
  exact ⟨by rw [h.n]; exact hm.1, hm.2⟩
theorem stat_up {R : HR} (h : Stat R) {a k : Nat} {v : Option Nat} (hm : (decide (a < 900) && stab.all (fun q => !(decide (q.1 = a) && decide (q.2.1 = k)))) = true) : Stat (up R a k v) := by
  simp only [Bool.and_eq_true, decide_eq_true_eq] at hm
  refine ⟨?_, ?_⟩
  · simp only [up]
    rw [if_neg (by omega)]
    exact h.1
  · refine List.all_eq_true.mpr fun q hq => ?_
    have h1 := List.all_eq_true.mp h.2 q hq
    have h2 := List.all_eq_true.mp hm.2 q hq
    simp only [Bool.not_eq_true', Bool.and_eq_false_iff, decide_eq_false_iff_not] at h2
    rw [decide_eq_true_eq] at h1 ⊢
    simp only [up]
    rw [if_neg (by omega)]
    exact h1
def isX0 (o : Nat) : Prop := o = 41 ∨ o = 69
def isX1 (o : Nat) : Prop := o = 17 ∨ o = 45
def isX5 (o : Nat) : Prop := o = 8 ∨ o = 12
def isX8 (o : Nat) : Prop := o = 18 ∨ o = 21 ∨ o = 24 ∨ o = 27 ∨ o = 46 ∨ o = 49 ∨ o = 52 ∨ o = 55
def isX9 (o : Nat) : Prop := o = 30 ∨ o = 58
theorem sk_X0_0 {R : HR} {o : Nat} (hs : Stat R) (ho : isX0 o) : am_is R o 0 := by
  rcases ho with rfl | rfl <;> exact hs.is (by decide +kernel)
theorem sk_X0_1 {R : HR} {o : Nat} (hs : Stat R) (ho : isX0 o) : am_is R (o + 1) 13 := by
  rcases ho with rfl | rfl <;> exact hs.is (by decide +kernel)
theorem sl_X0_1 {o : Nat} (ho : isX0 o) : (am_T (o + 1)).2 = 32 := by
  rcases ho with rfl | rfl <;> decide +kernel
theorem sr_X0_0_0 {R : HR} {o : Nat} (hs : Stat R) (ho : isX0 o) : R o 0 = some (o + 1) := by
  rcases ho with rfl | rfl <;> exact hs.get (by decide +kernel)
theorem sk_X1_0 {R : HR} {o : Nat} (hs : Stat R) (ho : isX1 o) : am_is R o 1 := by
  rcases ho with rfl | rfl <;> exact hs.is (by decide +kernel)
theorem sk_X1_1 {R : HR} {o : Nat} (hs : Stat R) (ho : isX1 o) : am_is R (o + 1) 7 := by
  rcases ho with rfl | rfl <;> exact hs.is (by decide +kernel)
theorem sk_X1_2 {R : HR} {o : Nat} (hs : Stat R) (ho : isX1 o) : am_is R (o + 2) 13 := by
  rcases ho with rfl | rfl <;> exact hs.is (by decide +kernel)
theorem sl_X1_2 {o : Nat} (ho : isX1 o) : (am_T (o + 2)).2 = 48 := by
  rcases ho with rfl | rfl <;> decide +kernel
theorem sk_X1_3 {R : HR} {o : Nat} (hs : Stat R) (ho : isX1 o) : am_is R (o + 3) 13 := by
  rcases ho with rfl | rfl <;> exact hs.is (by decide +kernel)
theorem sl_X1_3 {o : Nat} (ho : isX1 o) : (am_T (o + 3)).2 = 48 := by
  rcases ho with rfl | rfl <;> decide +kernel
theorem sk_X1_4 {R : HR} {o : Nat} (hs : Stat R) (ho : isX1 o) : am_is R (o + 4) 7 := by
  rcases ho with rfl | rfl <;> exact hs.is (by decide +kernel)
theorem sk_X1_5 {R : HR} {o : Nat} (hs : Stat R) (ho : isX1 o) : am_is R (o + 5) 13 := by
  rcases ho with rfl | rfl <;> exact hs.is (by decide +kernel)
theorem sl_X1_5 {o : Nat} (ho : isX1 o) : (am_T (o + 5)).2 = 48 := by
  rcases ho with rfl | rfl <;> decide +kernel
theorem sk_X1_6 {R : HR} {o : Nat} (hs : Stat R) (ho : isX1 o) : am_is R (o + 6) 13 := by
  rcases ho with rfl | rfl <;> exact hs.is (by decide +kernel)
theorem sl_X1_6 {o : Nat} (ho : isX1 o) : (am_T (o + 6)).2 = 48 := by
  rcases ho with rfl | rfl <;> decide +kernel
theorem sk_X1_7 {R : HR} {o : Nat} (hs : Stat R) (ho : isX1 o) : am_is R (o + 7) 7 := by
  rcases ho with rfl | rfl <;> exact hs.is (by decide +kernel)
theorem sk_X1_8 {R : HR} {o : Nat} (hs : Stat R) (ho : isX1 o) : am_is R (o + 8) 13 := by
  rcases ho with rfl | rfl <;> exact hs.is (by decide +kernel)
theorem sl_X1_8 {o : Nat} (ho : isX1 o) : (am_T (o + 8)).2 = 48 := by
  rcases ho with rfl | rfl <;> decide +kernel
theorem sk_X1_9 {R : HR} {o : Nat} (hs : Stat R) (ho : isX1 o) : am_is R (o + 9) 13 := by
  rcases ho with rfl | rfl <;> exact hs.is (by decide +kernel)
theorem sl_X1_9 {o : Nat} (ho : isX1 o) : (am_T (o + 9)).2 = 48 := by
  rcases ho with rfl | rfl <;> decide +kernel
theorem sk_X1_10 {R : HR} {o : Nat} (hs : Stat R) (ho : isX1 o) : am_is R (o + 10) 7 := by
  rcases ho with rfl | rfl <;> exact hs.is (by decide +kernel)
theorem sk_X1_11 {R : HR} {o : Nat} (hs : Stat R) (ho : isX1 o) : am_is R (o + 11) 13 := by
  rcases ho with rfl | rfl <;> exact hs.is (by decide +kernel)
theorem sl_X1_11 {o : Nat} (ho : isX1 o) : (am_T (o + 11)).2 = 48 := by
  rcases ho with rfl | rfl <;> decide +kernel
theorem sk_X1_12 {R : HR} {o : Nat} (hs : Stat R) (ho : isX1 o) : am_is R (o + 12) 13 := by
  rcases ho with rfl | rfl <;> exact hs.is (by decide +kernel)
theorem sl_X1_12 {o : Nat} (ho : isX1 o) : (am_T (o + 12)).2 = 48 := by
  rcases ho with rfl | rfl <;> decide +kernel
theorem sk_X1_13 {R : HR} {o : Nat} (hs : Stat R) (ho : isX1 o) : am_is R (o + 13) 8 := by
  rcases ho with rfl | rfl <;> exact hs.is (by decide +kernel)
theorem sk_X1_14 {R : HR} {o : Nat} (hs : Stat R) (ho : isX1 o) : am_is R (o + 14) 13 := by
  rcases ho with rfl | rfl <;> exact hs.is (by decide +kernel)
theorem sl_X1_14 {o : Nat} (ho : isX1 o) : (am_T (o + 14)).2 = 400 := by
  rcases ho with rfl | rfl <;> decide +kernel
theorem sk_X1_15 {R : HR} {o : Nat} (hs : Stat R) (ho : isX1 o) : am_is R (o + 15) 13 := by
  rcases ho with rfl | rfl <;> exact hs.is (by decide +kernel)
theorem sl_X1_15 {o : Nat} (ho : isX1 o) : (am_T (o + 15)).2 = 400 := by
  rcases ho with rfl | rfl <;> decide +kernel
theorem sk_X1_16 {R : HR} {o : Nat} (hs : Stat R) (ho : isX1 o) : am_is R (o + 16) 13 := by
  rcases ho with rfl | rfl <;> exact hs.is (by decide +kernel)
theorem sl_X1_16 {o : Nat} (ho : isX1 o) : (am_T (o + 16)).2 = 400 := by
  rcases ho with rfl | rfl <;> decide +kernel
theorem sk_X1_17 {R : HR} {o : Nat} (hs : Stat R) (ho : isX1 o) : am_is R (o + 17) 13 := by
  rcases ho with rfl | rfl <;> exact hs.is (by decide +kernel)
theorem sl_X1_17 {o : Nat} (ho : isX1 o) : (am_T (o + 17)).2 = 400 := by
  rcases ho with rfl | rfl <;> decide +kernel
theorem sk_X1_18 {R : HR} {o : Nat} (hs : Stat R) (ho : isX1 o) : am_is R (o + 18) 13 := by
  rcases ho with rfl | rfl <;> exact hs.is (by decide +kernel)
theorem sl_X1_18 {o : Nat} (ho : isX1 o) : (am_T (o + 18)).2 = 400 := by
  rcases ho with rfl | rfl <;> decide +kernel
theorem sk_X1_19 {R : HR} {o : Nat} (hs : Stat R) (ho : isX1 o) : am_is R (o + 19) 13 := by
  rcases ho with rfl | rfl <;> exact hs.is (by decide +kernel)
theorem sl_X1_19 {o : Nat} (ho : isX1 o) : (am_T (o + 19)).2 = 400 := by
  rcases ho with rfl | rfl <;> decide +kernel
theorem sk_X1_20 {R : HR} {o : Nat} (hs : Stat R) (ho : isX1 o) : am_is R (o + 20) 13 := by
  rcases ho with rfl | rfl <;> exact hs.is (by decide +kernel)
theorem sl_X1_20 {o : Nat} (ho : isX1 o) : (am_T (o + 20)).2 = 400 := by
  rcases ho with rfl | rfl <;> decide +kernel
theorem sk_X1_21 {R : HR} {o : Nat} (hs : Stat R) (ho : isX1 o) : am_is R (o + 21) 13 := by
  rcases ho with rfl | rfl <;> exact hs.is (by decide +kernel)
theorem sl_X1_21 {o : Nat} (ho : isX1 o) : (am_T (o + 21)).2 = 400 := by
  rcases ho with rfl | rfl <;> decide +kernel
theorem sk_X1_22 {R : HR} {o : Nat} (hs : Stat R) (ho : isX1 o) : am_is R (o + 22) 13 := by
  rcases ho with rfl | rfl <;> exact hs.is (by decide +kernel)
theorem sl_X1_22 {o : Nat} (ho : isX1 o) : (am_T (o + 22)).2 = 400 := by
  rcases ho with rfl | rfl <;> decide +kernel
theorem sk_X1_23 {R : HR} {o : Nat} (hs : Stat R) (ho : isX1 o) : am_is R (o + 23) 15 := by
  rcases ho with rfl | rfl <;> exact hs.is (by decide +kernel)
theorem sl_X1_23 {o : Nat} (ho : isX1 o) : (am_T (o + 23)).2 = 400 := by
  rcases ho with rfl | rfl <;> decide +kernel
theorem sk_X1_24 {R : HR} {o : Nat} (hs : Stat R) (ho : isX1 o) : am_is R (o + 24) 0 := by
  rcases ho with rfl | rfl <;> exact hs.is (by decide +kernel)
theorem sk_X1_25 {R : HR} {o : Nat} (hs : Stat R) (ho : isX1 o) : am_is R (o + 25) 13 := by
  rcases ho with rfl | rfl <;> exact hs.is (by decide +kernel)
theorem sl_X1_25 {o : Nat} (ho : isX1 o) : (am_T (o + 25)).2 = 32 := by
  rcases ho with rfl | rfl <;> decide +kernel
theorem sk_X1_26 {R : HR} {o : Nat} (hs : Stat R) (ho : isX1 o) : am_is R (o + 26) 13 := by
  rcases ho with rfl | rfl <;> exact hs.is (by decide +kernel)
theorem sl_X1_26 {o : Nat} (ho : isX1 o) : (am_T (o + 26)).2 = 4 := by
  rcases ho with rfl | rfl <;> decide +kernel
theorem sr_X1_0_1 {R : HR} {o : Nat} (hs : Stat R) (ho : isX1 o) : R o 1 = some (o + 1) := by
  rcases ho with rfl | rfl <;> exact hs.get (by decide +kernel)
theorem sr_X1_0_2 {R : HR} {o : Nat} (hs : Stat R) (ho : isX1 o) : R o 2 = some (o + 4) := by
  rcases ho with rfl | rfl <;> exact hs.get (by decide +kernel)
theorem sr_X1_0_3 {R : HR} {o : Nat} (hs : Stat R) (ho : isX1 o) : R o 3 = some (o + 7) := by
  rcases ho with rfl | rfl <;> exact hs.get (by decide +kernel)
theorem sr_X1_0_4 {R : HR} {o : Nat} (hs : Stat R) (ho : isX1 o) : R o 4 = some (o + 10) := by
  rcases ho with rfl | rfl <;> exact hs.get (by decide +kernel)
theorem sr_X1_0_5 {R : HR} {o : Nat} (hs : Stat R) (ho : isX1 o) : R o 5 = some (o + 13) := by
  rcases ho with rfl | rfl <;> exact hs.get (by decide +kernel)
theorem sr_X1_0_6 {R : HR} {o : Nat} (hs : Stat R) (ho : isX1 o) : R o 6 = some (o + 24) := by
  rcases ho with rfl | rfl <;> exact hs.get (by decide +kernel)
theorem sr_X1_0_7 {R : HR} {o : Nat} (hs : Stat R) (ho : isX1 o) : R o 7 = some (o + 26) := by
  rcases ho with rfl | rfl <;> exact hs.get (by decide +kernel)
theorem sr_X1_1_0 {R : HR} {o : Nat} (hs : Stat R) (ho : isX1 o) : R (o + 1) 0 = some (o + 2) := by
  rcases ho with rfl | rfl <;> exact hs.get (by decide +kernel)
theorem sr_X1_1_1 {R : HR} {o : Nat} (hs : Stat R) (ho : isX1 o) : R (o + 1) 1 = some (o + 3) := by
  rcases ho with rfl | rfl <;> exact hs.get (by decide +kernel)
theorem sr_X1_4_0 {R : HR} {o : Nat} (hs : Stat R) (ho : isX1 o) : R (o + 4) 0 = some (o + 5) := by
  rcases ho with rfl | rfl <;> exact hs.get (by decide +kernel)
theorem sr_X1_4_1 {R : HR} {o : Nat} (hs : Stat R) (ho : isX1 o) : R (o + 4) 1 = some (o + 6) := by
  rcases ho with rfl | rfl <;> exact hs.get (by decide +kernel)
theorem sr_X1_7_0 {R : HR} {o : Nat} (hs : Stat R) (ho : isX1 o) : R (o + 7) 0 = some (o + 8) := by
  rcases ho with rfl | rfl <;> exact hs.get (by decide +kernel)
theorem sr_X1_7_1 {R : HR} {o : Nat} (hs : Stat R) (ho : isX1 o) : R (o + 7) 1 = some (o + 9) := by
  rcases ho with rfl | rfl <;> exact hs.get (by decide +kernel)
theorem sr_X1_10_0 {R : HR} {o : Nat} (hs : Stat R) (ho : isX1 o) : R (o + 10) 0 = some (o + 11) := by
  rcases ho with rfl | rfl <;> exact hs.get (by decide +kernel)
theorem sr_X1_10_1 {R : HR} {o : Nat} (hs : Stat R) (ho : isX1 o) : R (o + 10) 1 = some (o + 12) := by
  rcases ho with rfl | rfl <;> exact hs.get (by decide +kernel)
theorem sr_X1_13_1 {R : HR} {o : Nat} (hs : Stat R) (ho : isX1 o) : R (o + 13) 1 = some (o + 14) := by
  rcases ho with rfl | rfl <;> exact hs.get (by decide +kernel)
theorem sr_X1_13_2 {R : HR} {o : Nat} (hs : Stat R) (ho : isX1 o) : R (o + 13) 2 = some (o + 15) := by
  rcases ho with rfl | rfl <;> exact hs.get (by decide +kernel)
theorem sr_X1_13_3 {R : HR} {o : Nat} (hs : Stat R) (ho : isX1 o) : R (o + 13) 3 = some (o + 16) := by
  rcases ho with rfl | rfl <;> exact hs.get (by decide +kernel)
theorem sr_X1_13_4 {R : HR} {o : Nat} (hs : Stat R) (ho : isX1 o) : R (o + 13) 4 = some (o + 17) := by
  rcases ho with rfl | rfl <;> exact hs.get (by decide +kernel)
theorem sr_X1_13_5 {R : HR} {o : Nat} (hs : Stat R) (ho : isX1 o) : R (o + 13) 5 = some (o + 18) := by
  rcases ho with rfl | rfl <;> exact hs.get (by decide +kernel)
theorem sr_X1_13_6 {R : HR} {o : Nat} (hs : Stat R) (ho : isX1 o) : R (o + 13) 6 = some (o + 19) := by
  rcases ho with rfl | rfl <;> exact hs.get (by decide +kernel)
theorem sr_X1_13_7 {R : HR} {o : Nat} (hs : Stat R) (ho : isX1 o) : R (o + 13) 7 = some (o + 20) := by
  rcases ho with rfl | rfl <;> exact hs.get (by decide +kernel)
theorem sr_X1_13_8 {R : HR} {o : Nat} (hs : Stat R) (ho : isX1 o) : R (o + 13) 8 = some (o + 21) := by
  rcases ho with rfl | rfl <;> exact hs.get (by decide +kernel)
theorem sr_X1_13_9 {R : HR} {o : Nat} (hs : Stat R) (ho : isX1 o) : R (o + 13) 9 = some (o + 22) := by
  rcases ho with rfl | rfl <;> exact hs.get (by decide +kernel)
theorem sr_X1_13_10 {R : HR} {o : Nat} (hs : Stat R) (ho : isX1 o) : R (o + 13) 10 = some (o + 23) := by
  rcases ho with rfl | rfl <;> exact hs.get (by decide +kernel)
theorem sr_X1_24_0 {R : HR} {o : Nat} (hs : Stat R) (ho : isX1 o) : R (o + 24) 0 = some (o + 25) := by
  rcases ho with rfl | rfl <;> exact hs.get (by decide +kernel)
theorem sub_X1_1 {o : Nat} (ho : isX1 o) : isX8 (o + 1) := by
  rcases ho with rfl | rfl <;> simp [isX8]
theorem sub_X1_4 {o : Nat} (ho : isX1 o) : isX8 (o + 4) := by
  rcases ho with rfl | rfl <;> simp [isX8]
theorem sub_X1_7 {o : Nat} (ho : isX1 o) : isX8 (o + 7) := by
  rcases ho with rfl | rfl <;> simp [isX8]
theorem sub_X1_10 {o : Nat} (ho : isX1 o) : isX8 (o + 10) := by
  rcases ho with rfl | rfl <;> simp [isX8]
theorem sub_X1_13 {o : Nat} (ho : isX1 o) : isX9 (o + 13) := by
  rcases ho with rfl | rfl <;> simp [isX9]
theorem sub_X1_24 {o : Nat} (ho : isX1 o) : isX0 (o + 24) := by
  rcases ho with rfl | rfl <;> simp [isX0]
theorem sk_X5_0 {R : HR} {o : Nat} (hs : Stat R) (ho : isX5 o) : am_is R o 4 := by
  rcases ho with rfl | rfl <;> exact hs.is (by decide +kernel)
theorem sk_X5_1 {R : HR} {o : Nat} (hs : Stat R) (ho : isX5 o) : am_is R (o + 1) 13 := by
  rcases ho with rfl | rfl <;> exact hs.is (by decide +kernel)
theorem sl_X5_1 {o : Nat} (ho : isX5 o) : (am_T (o + 1)).2 = 900 := by
  rcases ho with rfl | rfl <;> decide +kernel
theorem sk_X5_2 {R : HR} {o : Nat} (hs : Stat R) (ho : isX5 o) : am_is R (o + 2) 13 := by
  rcases ho with rfl | rfl <;> exact hs.is (by decide +kernel)
theorem sl_X5_2 {o : Nat} (ho : isX5 o) : (am_T (o + 2)).2 = 6 := by
  rcases ho with rfl | rfl <;> decide +kernel
theorem sk_X5_3 {R : HR} {o : Nat} (hs : Stat R) (ho : isX5 o) : am_is R (o + 3) 13 := by
  rcases ho with rfl | rfl <;> exact hs.is (by decide +kernel)
theorem sl_X5_3 {o : Nat} (ho : isX5 o) : (am_T (o + 3)).2 = 6 := by
  rcases ho with rfl | rfl <;> decide +kernel
theorem sr_X5_0_0 {R : HR} {o : Nat} (hs : Stat R) (ho : isX5 o) : R o 0 = some (o + 1) := by
  rcases ho with rfl | rfl <;> exact hs.get (by decide +kernel)
theorem sr_X5_0_7 {R : HR} {o : Nat} (hs : Stat R) (ho : isX5 o) : R o 7 = some (o + 2) := by
  rcases ho with rfl | rfl <;> exact hs.get (by decide +kernel)
theorem sr_X5_0_8 {R : HR} {o : Nat} (hs : Stat R) (ho : isX5 o) : R o 8 = some (o + 3) := by
  rcases ho with rfl | rfl <;> exact hs.get (by decide +kernel)
theorem sk_X8_0 {R : HR} {o : Nat} (hs : Stat R) (ho : isX8 o) : am_is R o 7 := by
  rcases ho with rfl | rfl | rfl | rfl | rfl | rfl | rfl | rfl <;> exact hs.is (by decide +kernel)
theorem sk_X8_1 {R : HR} {o : Nat} (hs : Stat R) (ho : isX8 o) : am_is R (o + 1) 13 := by
  rcases ho with rfl | rfl | rfl | rfl | rfl | rfl | rfl | rfl <;> exact hs.is (by decide +kernel)
theorem sl_X8_1 {o : Nat} (ho : isX8 o) : (am_T (o + 1)).2 = 48 := by
  rcases ho with rfl | rfl | rfl | rfl | rfl | rfl | rfl | rfl <;> decide +kernel
theorem sk_X8_2 {R : HR} {o : Nat} (hs : Stat R) (ho : isX8 o) : am_is R (o + 2) 13 := by
  rcases ho with rfl | rfl | rfl | rfl | rfl | rfl | rfl | rfl <;> exact hs.is (by decide +kernel)
theorem sl_X8_2 {o : Nat} (ho : isX8 o) : (am_T (o + 2)).2 = 48 := by
  rcases ho with rfl | rfl | rfl | rfl | rfl | rfl | rfl | rfl <;> decide +kernel
theorem sr_X8_0_0 {R : HR} {o : Nat} (hs : Stat R) (ho : isX8 o) : R o 0 = some (o + 1) := by
  rcases ho with rfl | rfl | rfl | rfl | rfl | rfl | rfl | rfl <;> exact hs.get (by decide +kernel)
theorem sr_X8_0_1 {R : HR} {o : Nat} (hs : Stat R) (ho : isX8 o) : R o 1 = some (o + 2) := by
  rcases ho with rfl | rfl | rfl | rfl | rfl | rfl | rfl | rfl <;> exact hs.get (by decide +kernel)
theorem sk_X9_0 {R : HR} {o : Nat} (hs : Stat R) (ho : isX9 o) : am_is R o 8 := by
  rcases ho with rfl | rfl <;> exact hs.is (by decide +kernel)
theorem sk_X9_1 {R : HR} {o : Nat} (hs : Stat R) (ho : isX9 o) : am_is R (o + 1) 13 := by
  rcases ho with rfl | rfl <;> exact hs.is (by decide +kernel)
theorem sl_X9_1 {o : Nat} (ho : isX9 o) : (am_T (o + 1)).2 = 400 := by
  rcases ho with rfl | rfl <;> decide +kernel
theorem sk_X9_2 {R : HR} {o : Nat} (hs : Stat R) (ho : isX9 o) : am_is R (o + 2) 13 := by
  rcases ho with rfl | rfl <;> exact hs.is (by decide +kernel)
theorem sl_X9_2 {o : Nat} (ho : isX9 o) : (am_T (o + 2)).2 = 400 := by
  rcases ho with rfl | rfl <;> decide +kernel
theorem sk_X9_3 {R : HR} {o : Nat} (hs : Stat R) (ho : isX9 o) : am_is R (o + 3) 13 := by
  rcases ho with rfl | rfl <;> exact hs.is (by decide +kernel)
theorem sl_X9_3 {o : Nat} (ho : isX9 o) : (am_T (o + 3)).2 = 400 := by
  rcases ho with rfl | rfl <;> decide +kernel
theorem sk_X9_4 {R : HR} {o : Nat} (hs : Stat R) (ho : isX9 o) : am_is R (o + 4) 13 := by
  rcases ho with rfl | rfl <;> exact hs.is (by decide +kernel)
theorem sl_X9_4 {o : Nat} (ho : isX9 o) : (am_T (o + 4)).2 = 400 := by
  rcases ho with rfl | rfl <;> decide +kernel
theorem sk_X9_5 {R : HR} {o : Nat} (hs : Stat R) (ho : isX9 o) : am_is R (o + 5) 13 := by
  rcases ho with rfl | rfl <;> exact hs.is (by decide +kernel)
theorem sl_X9_5 {o : Nat} (ho : isX9 o) : (am_T (o + 5)).2 = 400 := by
  rcases ho with rfl | rfl <;> decide +kernel
theorem sk_X9_6 {R : HR} {o : Nat} (hs : Stat R) (ho : isX9 o) : am_is R (o + 6) 13 := by
  rcases ho with rfl | rfl <;> exact hs.is (by decide +kernel)
theorem sl_X9_6 {o : Nat} (ho : isX9 o) : (am_T (o + 6)).2 = 400 := by
  rcases ho with rfl | rfl <;> decide +kernel
theorem sk_X9_7 {R : HR} {o : Nat} (hs : Stat R) (ho : isX9 o) : am_is R (o + 7) 13 := by
  rcases ho with rfl | rfl <;> exact hs.is (by decide +kernel)
theorem sl_X9_7 {o : Nat} (ho : isX9 o) : (am_T (o + 7)).2 = 400 := by
  rcases ho with rfl | rfl <;> decide +kernel
theorem sk_X9_8 {R : HR} {o : Nat} (hs : Stat R) (ho : isX9 o) : am_is R (o + 8) 13 := by
  rcases ho with rfl | rfl <;> exact hs.is (by decide +kernel)
theorem sl_X9_8 {o : Nat} (ho : isX9 o) : (am_T (o + 8)).2 = 400 := by
  rcases ho with rfl | rfl <;> decide +kernel
theorem sk_X9_9 {R : HR} {o : Nat} (hs : Stat R) (ho : isX9 o) : am_is R (o + 9) 13 := by
  rcases ho with rfl | rfl <;> exact hs.is (by decide +kernel)
theorem sl_X9_9 {o : Nat} (ho : isX9 o) : (am_T (o + 9)).2 = 400 := by
  rcases ho with rfl | rfl <;> decide +kernel
theorem sk_X9_10 {R : HR} {o : Nat} (hs : Stat R) (ho : isX9 o) : am_is R (o + 10) 15 := by
  rcases ho with rfl | rfl <;> exact hs.is (by decide +kernel)
theorem sl_X9_10 {o : Nat} (ho : isX9 o) : (am_T (o + 10)).2 = 400 := by
  rcases ho with rfl | rfl <;> decide +kernel
theorem sr_X9_0_1 {R : HR} {o : Nat} (hs : Stat R) (ho : isX9 o) : R o 1 = some (o + 1) := by
  rcases ho with rfl | rfl <;> exact hs.get (by decide +kernel)
theorem sr_X9_0_2 {R : HR} {o : Nat} (hs : Stat R) (ho : isX9 o) : R o 2 = some (o + 2) := by
  rcases ho with rfl | rfl <;> exact hs.get (by decide +kernel)
theorem sr_X9_0_3 {R : HR} {o : Nat} (hs : Stat R) (ho : isX9 o) : R o 3 = some (o + 3) := by
  rcases ho with rfl | rfl <;> exact hs.get (by decide +kernel)
theorem sr_X9_0_4 {R : HR} {o : Nat} (hs : Stat R) (ho : isX9 o) : R o 4 = some (o + 4) := by
  rcases ho with rfl | rfl <;> exact hs.get (by decide +kernel)
theorem sr_X9_0_5 {R : HR} {o : Nat} (hs : Stat R) (ho : isX9 o) : R o 5 = some (o + 5) := by
  rcases ho with rfl | rfl <;> exact hs.get (by decide +kernel)
theorem sr_X9_0_6 {R : HR} {o : Nat} (hs : Stat R) (ho : isX9 o) : R o 6 = some (o + 6) := by
  rcases ho with rfl | rfl <;> exact hs.get (by decide +kernel)
theorem sr_X9_0_7 {R : HR} {o : Nat} (hs : Stat R) (ho : isX9 o) : R o 7 = some (o + 7) := by
  rcases ho with rfl | rfl <;> exact hs.get (by decide +kernel)
theorem sr_X9_0_8 {R : HR} {o : Nat} (hs : Stat R) (ho : isX9 o) : R o 8 = some (o + 8) := by
  rcases ho with rfl | rfl <;> exact hs.get (by decide +kernel)
theorem sr_X9_0_9 {R : HR} {o : Nat} (hs : Stat R) (ho : isX9 o) : R o 9 = some (o + 9) := by
  rcases ho with rfl | rfl <;> exact hs.get (by decide +kernel)
theorem sr_X9_0_10 {R : HR} {o : Nat} (hs : Stat R) (ho : isX9 o) : R o 10 = some (o + 10) := by
  rcases ho with rfl | rfl <;> exact hs.get (by decide +kernel)
theorem su_X1_0 {R : HR} {o : Nat} {v : Option Nat} (hs : Stat R) (ho : isX1 o) : Stat (up R o 0 v) := by
  rcases ho with rfl | rfl <;> exact stat_up hs (by decide +kernel)
