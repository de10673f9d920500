/-! PRINTED BY wip/whole/gen_link.py: the cells that stand, by their numbers -/
def stab : List (Nat × Nat × Nat) := [(0, 0, 1), (0, 2, 2), (0, 7, 16), (0, 8, 17), (0, 9, 44), (0, 10, 45), (0, 11, 72), (0, 12, 76), (0, 13, 78), (0, 14, 79), (2, 0, 7), (2, 2, 3), (2, 3, 4), (2, 4, 5), (2, 5, 6), (7, 0, 1), (8, 0, 9), (8, 7, 10), (8, 8, 11), (12, 0, 13), (12, 7, 14), (12, 8, 15), (17, 1, 18), (17, 2, 21), (17, 3, 24), (17, 4, 27), (17, 5, 30), (17, 6, 41), (17, 7, 43), (18, 0, 19), (18, 1, 20), (21, 0, 22), (21, 1, 23), (24, 0, 25), (24, 1, 26), (27, 0, 28), (27, 1, 29), (30, 1, 31), (30, 2, 32), (30, 3, 33), (30, 4, 34), (30, 5, 35), (30, 6, 36), (30, 7, 37), (30, 8, 38), (30, 9, 39), (30, 10, 40), (41, 0, 42), (45, 1, 46), (45, 2, 49), (45, 3, 52), (45, 4, 55), (45, 5, 58), (45, 6, 69), (45, 7, 71), (46, 0, 47), (46, 1, 48), (49, 0, 50), (49, 1, 51), (52, 0, 53), (52, 1, 54), (55, 0, 56), (55, 1, 57), (58, 1, 59), (58, 2, 60), (58, 3, 61), (58, 4, 62), (58, 5, 63), (58, 6, 64), (58, 7, 65), (58, 8, 66), (58, 9, 67), (58, 10, 68), (69, 0, 70), (72, 0, 73), (72, 1, 74), (72, 2, 75), (76, 0, 77), (80, 1, 81), (80, 13, 82), (80, 16, 83), (80, 17, 84), (80, 18, 85), (80, 21, 86), (80, 22, 87), (80, 23, 88), (80, 25, 89), (80, 26, 90), (80, 36, 91), (80, 37, 92), (80, 38, 93), (80, 39, 94), (80, 40, 95), (80, 41, 96), (80, 42, 97), (80, 43, 98), (80, 45, 99), (80, 46, 100), (80, 48, 101), (80, 49, 102), (80, 50, 103), (80, 51, 104), (80, 52, 105), (80, 53, 106), (80, 55, 107), (80, 58, 108), (80, 62, 109), (80, 63, 110), (80, 64, 111), (80, 65, 112), (80, 66, 113), (80, 67, 114), (80, 68, 115), (80, 69, 116), (80, 70, 117), (80, 71, 118), (80, 72, 119), (80, 76, 120)]
/-- all cells are made, and the fields that never change hold what they hold -/
def Stat (R : HR) : Prop := R 1000 0 = some 122 ∧ stab.all (fun q => decide (R q.1 q.2.1 = some q.2.2)) = true
theorem Stat.n {R : HR} (h : Stat R) : am_n R = 122 := by simp [am_n, h.1]
theorem Stat.get {R : HR} (h : Stat R) {a k v : Nat} (hm : stab.contains (a, k, v) = true) : R a k = some v := by
  have h1 := List.all_eq_true.mp h.2 (a, k, v) (by simpa using hm)
  simpa using h1
theorem Stat.is {R : HR} (h : Stat R) {a k : Nat} (hm : (decide (a < 122) && decide ((am_T a).1 = k)) = true) : am_is R a k := by
  simp only [Bool.and_eq_true, decide_eq_true_eq] at hm
  exact ⟨by rw [h.n]; exact hm.1, hm.2⟩
theorem stat_up {R : HR} (h : Stat R) {a k : Nat} {v : Option Nat} (hm : (decide (a < 900) && stab.all (fun q => !(decide (q.1 = a) && decide (q.2.1 = k)))) = true) : Stat (up R a k v) := by
  simp only [Bool.and_eq_true, decide_eq_true_eq] at hm
  refine ⟨?_, ?_⟩
  · simp only [up]
    rw [if_neg (by omega)]
    exact h.1
  · refine List.all_eq_true.mpr fun q hq => ?_
    have h1 := List.all_eq_true.mp h.2 q hq
    have h2 := List.all_eq_true.mp hm.2 q hq
    simp only [Bool.not_eq_true', Bool.and_eq_false_iff, decide_eq_false_iff_not] at h2
    rw [decide_eq_true_eq] at h1 ⊢
    simp only [up]
    rw [if_neg (by omega)]
    exact h1
def isX0 (o : Nat) : Prop := o = 41 ∨ o = 69
def isX1 (o : Nat) : Prop := o = 17 ∨ o = 45
def isX5 (o : Nat) : Prop := o = 8 ∨ o = 12
def isX8 (o : Nat) : Prop := o = 18 ∨ o = 21 ∨ o = 24 ∨ o = 27 ∨ o = 46 ∨ o = 49 ∨ o = 52 ∨ o = 55
def isX9 (o : Nat) : Prop := o = 30 ∨ o = 58
theorem sk_X0_0 {R : HR} {o : Nat} (hs : Stat R) (ho : isX0 o) : am_is R o 0 := by
  rcases ho with rfl | rfl <;> exact hs.is (by decide +kernel)
theorem sk_X0_1 {R : HR} {o : Nat} (hs : Stat R) (ho : isX0 o) : am_is R (o + 1) 13 := by
  rcases ho with rfl | rfl <;> exact hs.is (by decide +kernel)
theorem sl_X0_1 {o : Nat} (ho : isX0 o) : (am_T (o + 1)).2 = 32 := by
  rcases ho with rfl | rfl <;> decide +kernel
theorem sr_X0_0_0 {R : HR} {o : Nat} (hs : Stat R) (ho : isX0 o) : R o 0 = some (o + 1) := by
  rcases ho with rfl | rfl <;> exact hs.get (by decide +kernel)
theorem sk_X1_0 {R : HR} {o : Nat} (hs : Stat R) (ho : isX1 o) : am_is R o 1 := by
  rcases ho with rfl | rfl <;> exact hs.is (by decide +kernel)
theorem sk_X1_1 {R : HR} {o : Nat} (hs : Stat R) (ho : isX1 o) : am_is R (o + 1) 7 := by
  rcases ho with rfl | rfl <;> exact hs.is (by decide +kernel)
theorem sk_X1_2 {R : HR} {o : Nat} (hs : Stat R) (ho : isX1 o) : am_is R (o + 2) 13 := by
  rcases ho with rfl | rfl <;> exact hs.is (by decide +kernel)
theorem sl_X1_2 {o : Nat} (ho : isX1 o) : (am_T (o + 2)).2 = 48 := by
  rcases ho with rfl | rfl <;> decide +kernel
theorem sk_X1_3 {R : HR} {o : Nat} (hs : Stat R) (ho : isX1 o) : am_is R (o + 3) 13 := by
  rcases ho with rfl | rfl <;> exact hs.is (by decide +kernel)
theorem sl_X1_3 {o : Nat} (ho : isX1 o) : (am_T (o + 3)).2 = 48 := by
  rcases ho with rfl | rfl <;> decide +kernel
theorem sk_X1_4 {R : HR} {o : Nat} (hs : Stat R) (ho : isX1 o) : am_is R (o + 4) 7 := by
  rcases ho with rfl | rfl <;> exact hs.is (by decide +kernel)
theorem sk_X1_5 {R : HR} {o : Nat} (hs : Stat R) (ho : isX1 o) : am_is R (o + 5) 13 := by
  rcases ho with rfl | rfl <;> exact hs.is (by decide +kernel)
theorem sl_X1_5 {o : Nat} (ho : isX1 o) : (am_T (o + 5)).2 = 48 := by
  rcases ho with rfl | rfl <;> decide +kernel
theorem sk_X1_6 {R : HR} {o : Nat} (hs : Stat R) (ho : isX1 o) : am_is R (o + 6) 13 := by
  rcases ho with rfl | rfl <;> exact hs.is (by decide +kernel)
theorem sl_X1_6 {o : Nat} (ho : isX1 o) : (am_T (o + 6)).2 = 48 := by
  rcases ho with rfl | rfl <;> decide +kernel
theorem sk_X1_7 {R : HR} {o : Nat} (hs : Stat R) (ho : isX1 o) : am_is R (o + 7) 7 := by
  rcases ho with rfl | rfl <;> exact hs.is (by decide +kernel)
theorem sk_X1_8 {R : HR} {o : Nat} (hs : Stat R) (ho : isX1 o) : am_is R (o + 8) 13 := by
  rcases ho with rfl | rfl <;> exact hs.is (by decide +kernel)
theorem sl_X1_8 {o : Nat} (ho : isX1 o) : (am_T (o + 8)).2 = 48 := by
  rcases ho with rfl | rfl <;> decide +kernel
theorem sk_X1_9 {R : HR} {o : Nat} (hs : Stat R) (ho : isX1 o) : am_is R (o + 9) 13 := by
  rcases ho with rfl | rfl <;> exact hs.is (by decide +kernel)
theorem sl_X1_9 {o : Nat} (ho : isX1 o) : (am_T (o + 9)).2 = 48 := by
  rcases ho with rfl | rfl <;> decide +kernel
theorem sk_X1_10 {R : HR} {o : Nat} (hs : Stat R) (ho : isX1 o) : am_is R (o + 10) 7 := by
  rcases ho with rfl | rfl <;> exact hs.is (by decide +kernel)
theorem sk_X1_11 {R : HR} {o : Nat} (hs : Stat R) (ho : isX1 o) : am_is R (o + 11) 13 := by
  rcases ho with rfl | rfl <;> exact hs.is (by decide +kernel)
theorem sl_X1_11 {o : Nat} (ho : isX1 o) : (am_T (o + 11)).2 = 48 := by
  rcases ho with rfl | rfl <;> decide +kernel
theorem sk_X1_12 {R : HR} {o : Nat} (hs : Stat R) (ho : isX1 o) : am_is R (o + 12) 13 := by
  rcases ho with rfl | rfl <;> exact hs.is (by decide +kernel)
theorem sl_X1_12 {o : Nat} (ho : isX1 o) : (am_T (o + 12)).2 = 48 := by
  rcases ho with rfl | rfl <;> decide +kernel
theorem sk_X1_13 {R : HR} {o : Nat} (hs : Stat R) (ho : isX1 o) : am_is R (o + 13) 8 := by
  rcases ho with rfl | rfl <;> exact hs.is (by decide +kernel)
theorem sk_X1_14 {R : HR} {o : Nat} (hs : Stat R) (ho : isX1 o) : am_is R (o + 14) 13 := by
  rcases ho with rfl | rfl <;> exact hs.is (by decide +kernel)
theorem sl_X1_14 {o : Nat} (ho : isX1 o) : (am_T (o + 14)).2 = 400 := by
  rcases ho with rfl | rfl <;> decide +kernel
theorem sk_X1_15 {R : HR} {o : Nat} (hs : Stat R) (ho : isX1 o) : am_is R (o + 15) 13 := by
  rcases ho with rfl | rfl <;> exact hs.is (by decide +kernel)
theorem sl_X1_15 {o : Nat} (ho : isX1 o) : (am_T (o + 15)).2 = 400 := by
  rcases ho with rfl | rfl <;> decide +kernel
theorem sk_X1_16 {R : HR} {o : Nat} (hs : Stat R) (ho : isX1 o) : am_is R (o + 16) 13 := by
  rcases ho with rfl | rfl <;> exact hs.is (by decide +kernel)
theorem sl_X1_16 {o : Nat} (ho : isX1 o) : (am_T (o + 16)).2 = 400 := by
  rcases ho with rfl | rfl <;> decide +kernel
theorem sk_X1_17 {R : HR} {o : Nat} (hs : Stat R) (ho : isX1 o) : am_is R (o + 17) 13 := by
  rcases ho with rfl | rfl <;> exact hs.is (by decide +kernel)
theorem sl_X1_17 {o : Nat} (ho : isX1 o) : (am_T (o + 17)).2 = 400 := by
  rcases ho with rfl | rfl <;> decide +kernel
theorem sk_X1_18 {R : HR} {o : Nat} (hs : Stat R) (ho : isX1 o) : am_is R (o + 18) 13 := by
  rcases ho with rfl | rfl <;> exact hs.is (by decide +kernel)
theorem sl_X1_18 {o : Nat} (ho : isX1 o) : (am_T (o + 18)).2 = 400 := by
  rcases ho with rfl | rfl <;> decide +kernel
theorem sk_X1_19 {R : HR} {o : Nat} (hs : Stat R) (ho : isX1 o) : am_is R (o + 19) 13 := by
  rcases ho with rfl | rfl <;> exact hs.is (by decide +kernel)
theorem sl_X1_19 {o : Nat} (ho : isX1 o) : (am_T (o + 19)).2 = 400 := by
  rcases ho with rfl | rfl <;> decide +kernel
theorem sk_X1_20 {R : HR} {o : Nat} (hs : Stat R) (ho : isX1 o) : am_is R (o + 20) 13 := by
  rcases ho with rfl | rfl <;> exact hs.is (by decide +kernel)
theorem sl_X1_20 {o : Nat} (ho : isX1 o) : (am_T (o + 20)).2 = 400 := by
  rcases ho with rfl | rfl <;> decide +kernel
theorem sk_X1_21 {R : HR} {o : Nat} (hs : Stat R) (ho : isX1 o) : am_is R (o + 21) 13 := by
  rcases ho with rfl | rfl <;> exact hs.is (by decide +kernel)
theorem sl_X1_21 {o : Nat} (ho : isX1 o) : (am_T (o + 21)).2 = 400 := by
  rcases ho with rfl | rfl <;> decide +kernel
theorem sk_X1_22 {R : HR} {o : Nat} (hs : Stat R) (ho : isX1 o) : am_is R (o + 22) 13 := by
  rcases ho with rfl | rfl <;> exact hs.is (by decide +kernel)
theorem sl_X1_22 {o : Nat} (ho : isX1 o) : (am_T (o + 22)).2 = 400 := by
  rcases ho with rfl | rfl <;> decide +kernel
theorem sk_X1_23 {R : HR} {o : Nat} (hs : Stat R) (ho : isX1 o) : am_is R (o + 23) 15 := by
  rcases ho with rfl | rfl <;> exact hs.is (by decide +kernel)
theorem sl_X1_23 {o : Nat} (ho : isX1 o) : (am_T (o + 23)).2 = 400 := by
  rcases ho with rfl | rfl <;> decide +kernel
theorem sk_X1_24 {R : HR} {o : Nat} (hs : Stat R) (ho : isX1 o) : am_is R (o + 24) 0 := by
  rcases ho with rfl | rfl <;> exact hs.is (by decide +kernel)
theorem sk_X1_25 {R : HR} {o : Nat} (hs : Stat R) (ho : isX1 o) : am_is R (o + 25) 13 := by
  rcases ho with rfl | rfl <;> exact hs.is (by decide +kernel)
theorem sl_X1_25 {o : Nat} (ho : isX1 o) : (am_T (o + 25)).2 = 32 := by
  rcases ho with rfl | rfl <;> decide +kernel
theorem sk_X1_26 {R : HR} {o : Nat} (hs : Stat R) (ho : isX1 o) : am_is R (o + 26) 13 := by
  rcases ho with rfl | rfl <;> exact hs.is (by decide +kernel)
theorem sl_X1_26 {o : Nat} (ho : isX1 o) : (am_T (o + 26)).2 = 4 := by
  rcases ho with rfl | rfl <;> decide +kernel
theorem sr_X1_0_1 {R : HR} {o : Nat} (hs : Stat R) (ho : isX1 o) : R o 1 = some (o + 1) := by
  rcases ho with rfl | rfl <;> exact hs.get (by decide +kernel)
theorem sr_X1_0_2 {R : HR} {o : Nat} (hs : Stat R) (ho : isX1 o) : R o 2 = some (o + 4) := by
  rcases ho with rfl | rfl <;> exact hs.get (by decide +kernel)
theorem sr_X1_0_3 {R : HR} {o : Nat} (hs : Stat R) (ho : isX1 o) : R o 3 = some (o + 7) := by
  rcases ho with rfl | rfl <;> exact hs.get (by decide +kernel)
theorem sr_X1_0_4 {R : HR} {o : Nat} (hs : Stat R) (ho : isX1 o) : R o 4 = some (o + 10) := by
  rcases ho with rfl | rfl <;> exact hs.get (by decide +kernel)
theorem sr_X1_0_5 {R : HR} {o : Nat} (hs : Stat R) (ho : isX1 o) : R o 5 = some (o + 13) := by
  rcases ho with rfl | rfl <;> exact hs.get (by decide +kernel)
theorem sr_X1_0_6 {R : HR} {o : Nat} (hs : Stat R) (ho : isX1 o) : R o 6 = some (o + 24) := by
  rcases ho with rfl | rfl <;> exact hs.get (by decide +kernel)
theorem sr_X1_0_7 {R : HR} {o : Nat} (hs : Stat R) (ho : isX1 o) : R o 7 = some (o + 26) := by
  rcases ho with rfl | rfl <;> exact hs.get (by decide +kernel)
theorem sr_X1_1_0 {R : HR} {o : Nat} (hs : Stat R) (ho : isX1 o) : R (o + 1) 0 = some (o + 2) := by
  rcases ho with rfl | rfl <;> exact hs.get (by decide +kernel)
theorem sr_X1_1_1 {R : HR} {o : Nat} (hs : Stat R) (ho : isX1 o) : R (o + 1) 1 = some (o + 3) := by
  rcases ho with rfl | rfl <;> exact hs.get (by decide +kernel)
theorem sr_X1_4_0 {R : HR} {o : Nat} (hs : Stat R) (ho : isX1 o) : R (o + 4) 0 = some (o + 5) := by
  rcases ho with rfl | rfl <;> exact hs.get (by decide +kernel)
theorem sr_X1_4_1 {R : HR} {o : Nat} (hs : Stat R) (ho : isX1 o) : R (o + 4) 1 = some (o + 6) := by
  rcases ho with rfl | rfl <;> exact hs.get (by decide +kernel)
theorem sr_X1_7_0 {R : HR} {o : Nat} (hs : Stat R) (ho : isX1 o) : R (o + 7) 0 = some (o + 8) := by
  rcases ho with rfl | rfl <;> exact hs.get (by decide +kernel)
theorem sr_X1_7_1 {R : HR} {o : Nat} (hs : Stat R) (ho : isX1 o) : R (o + 7) 1 = some (o + 9) := by
  rcases ho with rfl | rfl <;> exact hs.get (by decide +kernel)
theorem sr_X1_10_0 {R : HR} {o : Nat} (hs : Stat R) (ho : isX1 o) : R (o + 10) 0 = some (o + 11) := by
  rcases ho with rfl | rfl <;> exact hs.get (by decide +kernel)
theorem sr_X1_10_1 {R : HR} {o : Nat} (hs : Stat R) (ho : isX1 o) : R (o + 10) 1 = some (o + 12) := by
  rcases ho with rfl | rfl <;> exact hs.get (by decide +kernel)
theorem sr_X1_13_1 {R : HR} {o : Nat} (hs : Stat R) (ho : isX1 o) : R (o + 13) 1 = some (o + 14) := by
  rcases ho with rfl | rfl <;> exact hs.get (by decide +kernel)
theorem sr_X1_13_2 {R : HR} {o : Nat} (hs : Stat R) (ho : isX1 o) : R (o + 13) 2 = some (o + 15) := by
  rcases ho with rfl | rfl <;> exact hs.get (by decide +kernel)
theorem sr_X1_13_3 {R : HR} {o : Nat} (hs : Stat R) (ho : isX1 o) : R (o + 13) 3 = some (o + 16) := by
  rcases ho with rfl | rfl <;> exact hs.get (by decide +kernel)
theorem sr_X1_13_4 {R : HR} {o : Nat} (hs : Stat R) (ho : isX1 o) : R (o + 13) 4 = some (o + 17) := by
  rcases ho with rfl | rfl <;> exact hs.get (by decide +kernel)
theorem sr_X1_13_5 {R : HR} {o : Nat} (hs : Stat R) (ho : isX1 o) : R (o + 13) 5 = some (o + 18) := by
  rcases ho with rfl | rfl <;> exact hs.get (by decide +kernel)
theorem sr_X1_13_6 {R : HR} {o : Nat} (hs : Stat R) (ho : isX1 o) : R (o + 13) 6 = some (o + 19) := by
  rcases ho with rfl | rfl <;> exact hs.get (by decide +kernel)
theorem sr_X1_13_7 {R : HR} {o : Nat} (hs : Stat R) (ho : isX1 o) : R (o + 13) 7 = some (o + 20) := by
  rcases ho with rfl | rfl <;> exact hs.get (by decide +kernel)
theorem sr_X1_13_8 {R : HR} {o : Nat} (hs : Stat R) (ho : isX1 o) : R (o + 13) 8 = some (o + 21) := by
  rcases ho with rfl | rfl <;> exact hs.get (by decide +kernel)
theorem sr_X1_13_9 {R : HR} {o : Nat} (hs : Stat R) (ho : isX1 o) : R (o + 13) 9 = some (o + 22) := by
  rcases ho with rfl | rfl <;> exact hs.get (by decide +kernel)
theorem sr_X1_13_10 {R : HR} {o : Nat} (hs : Stat R) (ho : isX1 o) : R (o + 13) 10 = some (o + 23) := by
  rcases ho with rfl | rfl <;> exact hs.get (by decide +kernel)
theorem sr_X1_24_0 {R : HR} {o : Nat} (hs : Stat R) (ho : isX1 o) : R (o + 24) 0 = some (o + 25) := by
  rcases ho with rfl | rfl <;> exact hs.get (by decide +kernel)
theorem sub_X1_1 {o : Nat} (ho : isX1 o) : isX8 (o + 1) := by
  rcases ho with rfl | rfl <;> simp [isX8]
theorem sub_X1_4 {o : Nat} (ho : isX1 o) : isX8 (o + 4) := by
  rcases ho with rfl | rfl <;> simp [isX8]
theorem sub_X1_7 {o : Nat} (ho : isX1 o) : isX8 (o + 7) := by
  rcases ho with rfl | rfl <;> simp [isX8]
theorem sub_X1_10 {o : Nat} (ho : isX1 o) : isX8 (o + 10) := by
  rcases ho with rfl | rfl <;> simp [isX8]
theorem sub_X1_13 {o : Nat} (ho : isX1 o) : isX9 (o + 13) := by
  rcases ho with rfl | rfl <;> simp [isX9]
theorem sub_X1_24 {o : Nat} (ho : isX1 o) : isX0 (o + 24) := by
  rcases ho with rfl | rfl <;> simp [isX0]
theorem sk_X5_0 {R : HR} {o : Nat} (hs : Stat R) (ho : isX5 o) : am_is R o 4 := by
  rcases ho with rfl | rfl <;> exact hs.is (by decide +kernel)
theorem sk_X5_1 {R : HR} {o : Nat} (hs : Stat R) (ho : isX5 o) : am_is R (o + 1) 13 := by
  rcases ho with rfl | rfl <;> exact hs.is (by decide +kernel)
theorem sl_X5_1 {o : Nat} (ho : isX5 o) : (am_T (o + 1)).2 = 900 := by
  rcases ho with rfl | rfl <;> decide +kernel
theorem sk_X5_2 {R : HR} {o : Nat} (hs : Stat R) (ho : isX5 o) : am_is R (o + 2) 13 := by
  rcases ho with rfl | rfl <;> exact hs.is (by decide +kernel)
theorem sl_X5_2 {o : Nat} (ho : isX5 o) : (am_T (o + 2)).2 = 6 := by
  rcases ho with rfl | rfl <;> decide +kernel
theorem sk_X5_3 {R : HR} {o : Nat} (hs : Stat R) (ho : isX5 o) : am_is R (o + 3) 13 := by
  rcases ho with rfl | rfl <;> exact hs.is (by decide +kernel)
theorem sl_X5_3 {o : Nat} (ho : isX5 o) : (am_T (o + 3)).2 = 6 := by
  rcases ho with rfl | rfl <;> decide +kernel
theorem sr_X5_0_0 {R : HR} {o : Nat} (hs : Stat R) (ho : isX5 o) : R o 0 = some (o + 1) := by
  rcases ho with rfl | rfl <;> exact hs.get (by decide +kernel)
theorem sr_X5_0_7 {R : HR} {o : Nat} (hs : Stat R) (ho : isX5 o) : R o 7 = some (o + 2) := by
  rcases ho with rfl | rfl <;> exact hs.get (by decide +kernel)
theorem sr_X5_0_8 {R : HR} {o : Nat} (hs : Stat R) (ho : isX5 o) : R o 8 = some (o + 3) := by
  rcases ho with rfl | rfl <;> exact hs.get (by decide +kernel)
theorem sk_X8_0 {R : HR} {o : Nat} (hs : Stat R) (ho : isX8 o) : am_is R o 7 := by
  rcases ho with rfl | rfl | rfl | rfl | rfl | rfl | rfl | rfl <;> exact hs.is (by decide +kernel)
theorem sk_X8_1 {R : HR} {o : Nat} (hs : Stat R) (ho : isX8 o) : am_is R (o + 1) 13 := by
  rcases ho with rfl | rfl | rfl | rfl | rfl | rfl | rfl | rfl <;> exact hs.is (by decide +kernel)
theorem sl_X8_1 {o : Nat} (ho : isX8 o) : (am_T (o + 1)).2 = 48 := by
  rcases ho with rfl | rfl | rfl | rfl | rfl | rfl | rfl | rfl <;> decide +kernel
theorem sk_X8_2 {R : HR} {o : Nat} (hs : Stat R) (ho : isX8 o) : am_is R (o + 2) 13 := by
  rcases ho with rfl | rfl | rfl | rfl | rfl | rfl | rfl | rfl <;> exact hs.is (by decide +kernel)
theorem sl_X8_2 {o : Nat} (ho : isX8 o) : (am_T (o + 2)).2 = 48 := by
  rcases ho with rfl | rfl | rfl | rfl | rfl | rfl | rfl | rfl <;> decide +kernel
theorem sr_X8_0_0 {R : HR} {o : Nat} (hs : Stat R) (ho : isX8 o) : R o 0 = some (o + 1) := by
  rcases ho with rfl | rfl | rfl | rfl | rfl | rfl | rfl | rfl <;> exact hs.get (by decide +kernel)
theorem sr_X8_0_1 {R : HR} {o : Nat} (hs : Stat R) (ho : isX8 o) : R o 1 = some (o + 2) := by
  rcases ho with rfl | rfl | rfl | rfl | rfl | rfl | rfl | rfl <;> exact hs.get (by decide +kernel)
theorem sk_X9_0 {R : HR} {o : Nat} (hs : Stat R) (ho : isX9 o) : am_is R o 8 := by
  rcases ho with rfl | rfl <;> exact hs.is (by decide +kernel)
theorem sk_X9_1 {R : HR} {o : Nat} (hs : Stat R) (ho : isX9 o) : am_is R (o + 1) 13 := by
  rcases ho with rfl | rfl <;> exact hs.is (by decide +kernel)
theorem sl_X9_1 {o : Nat} (ho : isX9 o) : (am_T (o + 1)).2 = 400 := by
  rcases ho with rfl | rfl <;> decide +kernel
theorem sk_X9_2 {R : HR} {o : Nat} (hs : Stat R) (ho : isX9 o) : am_is R (o + 2) 13 := by
  rcases ho with rfl | rfl <;> exact hs.is (by decide +kernel)
theorem sl_X9_2 {o : Nat} (ho : isX9 o) : (am_T (o + 2)).2 = 400 := by
  rcases ho with rfl | rfl <;> decide +kernel
theorem sk_X9_3 {R : HR} {o : Nat} (hs : Stat R) (ho : isX9 o) : am_is R (o + 3) 13 := by
  rcases ho with rfl | rfl <;> exact hs.is (by decide +kernel)
theorem sl_X9_3 {o : Nat} (ho : isX9 o) : (am_T (o + 3)).2 = 400 := by
  rcases ho with rfl | rfl <;> decide +kernel
theorem sk_X9_4 {R : HR} {o : Nat} (hs : Stat R) (ho : isX9 o) : am_is R (o + 4) 13 := by
  rcases ho with rfl | rfl <;> exact hs.is (by decide +kernel)
theorem sl_X9_4 {o : Nat} (ho : isX9 o) : (am_T (o + 4)).2 = 400 := by
  rcases ho with rfl | rfl <;> decide +kernel
theorem sk_X9_5 {R : HR} {o : Nat} (hs : Stat R) (ho : isX9 o) : am_is R (o + 5) 13 := by
  rcases ho with rfl | rfl <;> exact hs.is (by decide +kernel)
theorem sl_X9_5 {o : Nat} (ho : isX9 o) : (am_T (o + 5)).2 = 400 := by
  rcases ho with rfl | rfl <;> decide +kernel
theorem sk_X9_6 {R : HR} {o : Nat} (hs : Stat R) (ho : isX9 o) : am_is R (o + 6) 13 := by
  rcases ho with rfl | rfl <;> exact hs.is (by decide +kernel)
theorem sl_X9_6 {o : Nat} (ho : isX9 o) : (am_T (o + 6)).2 = 400 := by
  rcases ho with rfl | rfl <;> decide +kernel
theorem sk_X9_7 {R : HR} {o : Nat} (hs : Stat R) (ho : isX9 o) : am_is R (o + 7) 13 := by
  rcases ho with rfl | rfl <;> exact hs.is (by decide +kernel)
theorem sl_X9_7 {o : Nat} (ho : isX9 o) : (am_T (o + 7)).2 = 400 := by
  rcases ho with rfl | rfl <;> decide +kernel
theorem sk_X9_8 {R : HR} {o : Nat} (hs : Stat R) (ho : isX9 o) : am_is R (o + 8) 13 := by
  rcases ho with rfl | rfl <;> exact hs.is (by decide +kernel)
theorem sl_X9_8 {o : Nat} (ho : isX9 o) : (am_T (o + 8)).2 = 400 := by
  rcases ho with rfl | rfl <;> decide +kernel
theorem sk_X9_9 {R : HR} {o : Nat} (hs : Stat R) (ho : isX9 o) : am_is R (o + 9) 13 := by
  rcases ho with rfl | rfl <;> exact hs.is (by decide +kernel)
theorem sl_X9_9 {o : Nat} (ho : isX9 o) : (am_T (o + 9)).2 = 400 := by
  rcases ho with rfl | rfl <;> decide +kernel
theorem sk_X9_10 {R : HR} {o : Nat} (hs : Stat R) (ho : isX9 o) : am_is R (o + 10) 15 := by
  rcases ho with rfl | rfl <;> exact hs.is (by decide +kernel)
theorem sl_X9_10 {o : Nat} (ho : isX9 o) : (am_T (o + 10)).2 = 400 := by
  rcases ho with rfl | rfl <;> decide +kernel
theorem sr_X9_0_1 {R : HR} {o : Nat} (hs : Stat R) (ho : isX9 o) : R o 1 = some (o + 1) := by
  rcases ho with rfl | rfl <;> exact hs.get (by decide +kernel)
theorem sr_X9_0_2 {R : HR} {o : Nat} (hs : Stat R) (ho : isX9 o) : R o 2 = some (o + 2) := by
  rcases ho with rfl | rfl <;> exact hs.get (by decide +kernel)
theorem sr_X9_0_3 {R : HR} {o : Nat} (hs : Stat R) (ho : isX9 o) : R o 3 = some (o + 3) := by
  rcases ho with rfl | rfl <;> exact hs.get (by decide +kernel)
theorem sr_X9_0_4 {R : HR} {o : Nat} (hs : Stat R) (ho : isX9 o) : R o 4 = some (o + 4) := by
  rcases ho with rfl | rfl <;> exact hs.get (by decide +kernel)
theorem sr_X9_0_5 {R : HR} {o : Nat} (hs : Stat R) (ho : isX9 o) : R o 5 = some (o + 5) := by
  rcases ho with rfl | rfl <;> exact hs.get (by decide +kernel)
theorem sr_X9_0_6 {R : HR} {o : Nat} (hs : Stat R) (ho : isX9 o) : R o 6 = some (o + 6) := by
  rcases ho with rfl | rfl <;> exact hs.get (by decide +kernel)
theorem sr_X9_0_7 {R : HR} {o : Nat} (hs : Stat R) (ho : isX9 o) : R o 7 = some (o + 7) := by
  rcases ho with rfl | rfl <;> exact hs.get (by decide +kernel)
theorem sr_X9_0_8 {R : HR} {o : Nat} (hs : Stat R) (ho : isX9 o) : R o 8 = some (o + 8) := by
  rcases ho with rfl | rfl <;> exact hs.get (by decide +kernel)
theorem sr_X9_0_9 {R : HR} {o : Nat} (hs : Stat R) (ho : isX9 o) : R o 9 = some (o + 9) := by
  rcases ho with rfl | rfl <;> exact hs.get (by decide +kernel)
theorem sr_X9_0_10 {R : HR} {o : Nat} (hs : Stat R) (ho : isX9 o) : R o 10 = some (o + 10) := by
  rcases ho with rfl | rfl <;> exact hs.get (by decide +kernel)
theorem su_X1_0 {R : HR} {o : Nat} {v : Option Nat} (hs : Stat R) (ho : isX1 o) : Stat (up R o 0 v) := by
  rcases ho with rfl | rfl <;> exact stat_up hs (by decide +kernel)
theorem sc_0 {R : HR} (hs : Stat R) : am_is R 0 10 := hs.is (by decide +kernel)
theorem sc_1 {R : HR} (hs : Stat R) : am_is R 1 12 := hs.is (by decide +kernel)
theorem sn_1 : (am_T 1).2 = 900 := by decide +kernel
theorem sc_2 {R : HR} (hs : Stat R) : am_is R 2 3 := hs.is (by decide +kernel)
theorem sc_3 {R : HR} (hs : Stat R) : am_is R 3 13 := hs.is (by decide +kernel)
theorem sn_3 : (am_T 3).2 = 8 := by decide +kernel
theorem sc_4 {R : HR} (hs : Stat R) : am_is R 4 13 := hs.is (by decide +kernel)
theorem sn_4 : (am_T 4).2 = 6 := by decide +kernel
theorem sc_5 {R : HR} (hs : Stat R) : am_is R 5 13 := hs.is (by decide +kernel)
theorem sn_5 : (am_T 5).2 = 4 := by decide +kernel
theorem sc_6 {R : HR} (hs : Stat R) : am_is R 6 13 := hs.is (by decide +kernel)
theorem sn_6 : (am_T 6).2 = 4 := by decide +kernel
theorem sc_7 {R : HR} (hs : Stat R) : am_is R 7 5 := hs.is (by decide +kernel)
theorem sc_8 {R : HR} (hs : Stat R) : am_is R 8 4 := hs.is (by decide +kernel)
theorem sc_9 {R : HR} (hs : Stat R) : am_is R 9 13 := hs.is (by decide +kernel)
theorem sn_9 : (am_T 9).2 = 900 := by decide +kernel
theorem sc_10 {R : HR} (hs : Stat R) : am_is R 10 13 := hs.is (by decide +kernel)
theorem sn_10 : (am_T 10).2 = 6 := by decide +kernel
theorem sc_11 {R : HR} (hs : Stat R) : am_is R 11 13 := hs.is (by decide +kernel)
theorem sn_11 : (am_T 11).2 = 6 := by decide +kernel
theorem sc_12 {R : HR} (hs : Stat R) : am_is R 12 4 := hs.is (by decide +kernel)
theorem sc_13 {R : HR} (hs : Stat R) : am_is R 13 13 := hs.is (by decide +kernel)
theorem sn_13 : (am_T 13).2 = 900 := by decide +kernel
theorem sc_14 {R : HR} (hs : Stat R) : am_is R 14 13 := hs.is (by decide +kernel)
theorem sn_14 : (am_T 14).2 = 6 := by decide +kernel
theorem sc_15 {R : HR} (hs : Stat R) : am_is R 15 13 := hs.is (by decide +kernel)
theorem sn_15 : (am_T 15).2 = 6 := by decide +kernel
theorem sc_16 {R : HR} (hs : Stat R) : am_is R 16 13 := hs.is (by decide +kernel)
theorem sn_16 : (am_T 16).2 = 4 := by decide +kernel
theorem sc_17 {R : HR} (hs : Stat R) : am_is R 17 1 := hs.is (by decide +kernel)
theorem sc_18 {R : HR} (hs : Stat R) : am_is R 18 7 := hs.is (by decide +kernel)
theorem sc_19 {R : HR} (hs : Stat R) : am_is R 19 13 := hs.is (by decide +kernel)
theorem sn_19 : (am_T 19).2 = 48 := by decide +kernel
theorem sc_20 {R : HR} (hs : Stat R) : am_is R 20 13 := hs.is (by decide +kernel)
theorem sn_20 : (am_T 20).2 = 48 := by decide +kernel
theorem sc_21 {R : HR} (hs : Stat R) : am_is R 21 7 := hs.is (by decide +kernel)
theorem sc_22 {R : HR} (hs : Stat R) : am_is R 22 13 := hs.is (by decide +kernel)
theorem sn_22 : (am_T 22).2 = 48 := by decide +kernel
theorem sc_23 {R : HR} (hs : Stat R) : am_is R 23 13 := hs.is (by decide +kernel)
theorem sn_23 : (am_T 23).2 = 48 := by decide +kernel
theorem sc_24 {R : HR} (hs : Stat R) : am_is R 24 7 := hs.is (by decide +kernel)
theorem sc_25 {R : HR} (hs : Stat R) : am_is R 25 13 := hs.is (by decide +kernel)
theorem sn_25 : (am_T 25).2 = 48 := by decide +kernel
theorem sc_26 {R : HR} (hs : Stat R) : am_is R 26 13 := hs.is (by decide +kernel)
theorem sn_26 : (am_T 26).2 = 48 := by decide +kernel
theorem sc_27 {R : HR} (hs : Stat R) : am_is R 27 7 := hs.is (by decide +kernel)
theorem sc_28 {R : HR} (hs : Stat R) : am_is R 28 13 := hs.is (by decide +kernel)
theorem sn_28 : (am_T 28).2 = 48 := by decide +kernel
theorem sc_29 {R : HR} (hs : Stat R) : am_is R 29 13 := hs.is (by decide +kernel)
theorem sn_29 : (am_T 29).2 = 48 := by decide +kernel
theorem sc_30 {R : HR} (hs : Stat R) : am_is R 30 8 := hs.is (by decide +kernel)
theorem sc_31 {R : HR} (hs : Stat R) : am_is R 31 13 := hs.is (by decide +kernel)
theorem sn_31 : (am_T 31).2 = 400 := by decide +kernel
theorem sc_32 {R : HR} (hs : Stat R) : am_is R 32 13 := hs.is (by decide +kernel)
theorem sn_32 : (am_T 32).2 = 400 := by decide +kernel
theorem sc_33 {R : HR} (hs : Stat R) : am_is R 33 13 := hs.is (by decide +kernel)
theorem sn_33 : (am_T 33).2 = 400 := by decide +kernel
theorem sc_34 {R : HR} (hs : Stat R) : am_is R 34 13 := hs.is (by decide +kernel)
theorem sn_34 : (am_T 34).2 = 400 := by decide +kernel
theorem sc_35 {R : HR} (hs : Stat R) : am_is R 35 13 := hs.is (by decide +kernel)
theorem sn_35 : (am_T 35).2 = 400 := by decide +kernel
theorem sc_36 {R : HR} (hs : Stat R) : am_is R 36 13 := hs.is (by decide +kernel)
theorem sn_36 : (am_T 36).2 = 400 := by decide +kernel
theorem sc_37 {R : HR} (hs : Stat R) : am_is R 37 13 := hs.is (by decide +kernel)
theorem sn_37 : (am_T 37).2 = 400 := by decide +kernel
theorem sc_38 {R : HR} (hs : Stat R) : am_is R 38 13 := hs.is (by decide +kernel)
theorem sn_38 : (am_T 38).2 = 400 := by decide +kernel
theorem sc_39 {R : HR} (hs : Stat R) : am_is R 39 13 := hs.is (by decide +kernel)
theorem sn_39 : (am_T 39).2 = 400 := by decide +kernel
theorem sc_40 {R : HR} (hs : Stat R) : am_is R 40 15 := hs.is (by decide +kernel)
theorem sn_40 : (am_T 40).2 = 400 := by decide +kernel
theorem sc_41 {R : HR} (hs : Stat R) : am_is R 41 0 := hs.is (by decide +kernel)
theorem sc_42 {R : HR} (hs : Stat R) : am_is R 42 13 := hs.is (by decide +kernel)
theorem sn_42 : (am_T 42).2 = 32 := by decide +kernel
theorem sc_43 {R : HR} (hs : Stat R) : am_is R 43 13 := hs.is (by decide +kernel)
theorem sn_43 : (am_T 43).2 = 4 := by decide +kernel
theorem sc_44 {R : HR} (hs : Stat R) : am_is R 44 13 := hs.is (by decide +kernel)
theorem sn_44 : (am_T 44).2 = 4 := by decide +kernel
theorem sc_45 {R : HR} (hs : Stat R) : am_is R 45 1 := hs.is (by decide +kernel)
theorem sc_46 {R : HR} (hs : Stat R) : am_is R 46 7 := hs.is (by decide +kernel)
theorem sc_47 {R : HR} (hs : Stat R) : am_is R 47 13 := hs.is (by decide +kernel)
theorem sn_47 : (am_T 47).2 = 48 := by decide +kernel
theorem sc_48 {R : HR} (hs : Stat R) : am_is R 48 13 := hs.is (by decide +kernel)
theorem sn_48 : (am_T 48).2 = 48 := by decide +kernel
theorem sc_49 {R : HR} (hs : Stat R) : am_is R 49 7 := hs.is (by decide +kernel)
theorem sc_50 {R : HR} (hs : Stat R) : am_is R 50 13 := hs.is (by decide +kernel)
theorem sn_50 : (am_T 50).2 = 48 := by decide +kernel
theorem sc_51 {R : HR} (hs : Stat R) : am_is R 51 13 := hs.is (by decide +kernel)
theorem sn_51 : (am_T 51).2 = 48 := by decide +kernel
theorem sc_52 {R : HR} (hs : Stat R) : am_is R 52 7 := hs.is (by decide +kernel)
theorem sc_53 {R : HR} (hs : Stat R) : am_is R 53 13 := hs.is (by decide +kernel)
theorem sn_53 : (am_T 53).2 = 48 := by decide +kernel
theorem sc_54 {R : HR} (hs : Stat R) : am_is R 54 13 := hs.is (by decide +kernel)
theorem sn_54 : (am_T 54).2 = 48 := by decide +kernel
theorem sc_55 {R : HR} (hs : Stat R) : am_is R 55 7 := hs.is (by decide +kernel)
theorem sc_56 {R : HR} (hs : Stat R) : am_is R 56 13 := hs.is (by decide +kernel)
theorem sn_56 : (am_T 56).2 = 48 := by decide +kernel
theorem sc_57 {R : HR} (hs : Stat R) : am_is R 57 13 := hs.is (by decide +kernel)
theorem sn_57 : (am_T 57).2 = 48 := by decide +kernel
theorem sc_58 {R : HR} (hs : Stat R) : am_is R 58 8 := hs.is (by decide +kernel)
theorem sc_59 {R : HR} (hs : Stat R) : am_is R 59 13 := hs.is (by decide +kernel)
theorem sn_59 : (am_T 59).2 = 400 := by decide +kernel
theorem sc_60 {R : HR} (hs : Stat R) : am_is R 60 13 := hs.is (by decide +kernel)
theorem sn_60 : (am_T 60).2 = 400 := by decide +kernel
theorem sc_61 {R : HR} (hs : Stat R) : am_is R 61 13 := hs.is (by decide +kernel)
theorem sn_61 : (am_T 61).2 = 400 := by decide +kernel
theorem sc_62 {R : HR} (hs : Stat R) : am_is R 62 13 := hs.is (by decide +kernel)
theorem sn_62 : (am_T 62).2 = 400 := by decide +kernel
theorem sc_63 {R : HR} (hs : Stat R) : am_is R 63 13 := hs.is (by decide +kernel)
theorem sn_63 : (am_T 63).2 = 400 := by decide +kernel
theorem sc_64 {R : HR} (hs : Stat R) : am_is R 64 13 := hs.is (by decide +kernel)
theorem sn_64 : (am_T 64).2 = 400 := by decide +kernel
theorem sc_65 {R : HR} (hs : Stat R) : am_is R 65 13 := hs.is (by decide +kernel)
theorem sn_65 : (am_T 65).2 = 400 := by decide +kernel
theorem sc_66 {R : HR} (hs : Stat R) : am_is R 66 13 := hs.is (by decide +kernel)
theorem sn_66 : (am_T 66).2 = 400 := by decide +kernel
theorem sc_67 {R : HR} (hs : Stat R) : am_is R 67 13 := hs.is (by decide +kernel)
theorem sn_67 : (am_T 67).2 = 400 := by decide +kernel
theorem sc_68 {R : HR} (hs : Stat R) : am_is R 68 15 := hs.is (by decide +kernel)
theorem sn_68 : (am_T 68).2 = 400 := by decide +kernel
theorem sc_69 {R : HR} (hs : Stat R) : am_is R 69 0 := hs.is (by decide +kernel)
theorem sc_70 {R : HR} (hs : Stat R) : am_is R 70 13 := hs.is (by decide +kernel)
theorem sn_70 : (am_T 70).2 = 32 := by decide +kernel
theorem sc_71 {R : HR} (hs : Stat R) : am_is R 71 13 := hs.is (by decide +kernel)
theorem sn_71 : (am_T 71).2 = 4 := by decide +kernel
theorem sc_72 {R : HR} (hs : Stat R) : am_is R 72 6 := hs.is (by decide +kernel)
theorem sc_73 {R : HR} (hs : Stat R) : am_is R 73 13 := hs.is (by decide +kernel)
theorem sn_73 : (am_T 73).2 = 400 := by decide +kernel
theorem sc_74 {R : HR} (hs : Stat R) : am_is R 74 13 := hs.is (by decide +kernel)
theorem sn_74 : (am_T 74).2 = 400 := by decide +kernel
theorem sc_75 {R : HR} (hs : Stat R) : am_is R 75 13 := hs.is (by decide +kernel)
theorem sn_75 : (am_T 75).2 = 400 := by decide +kernel
theorem sc_76 {R : HR} (hs : Stat R) : am_is R 76 2 := hs.is (by decide +kernel)
theorem sc_77 {R : HR} (hs : Stat R) : am_is R 77 13 := hs.is (by decide +kernel)
theorem sn_77 : (am_T 77).2 = 80 := by decide +kernel
theorem sc_78 {R : HR} (hs : Stat R) : am_is R 78 9 := hs.is (by decide +kernel)
theorem sc_79 {R : HR} (hs : Stat R) : am_is R 79 13 := hs.is (by decide +kernel)
theorem sn_79 : (am_T 79).2 = 11 := by decide +kernel
theorem sc_80 {R : HR} (hs : Stat R) : am_is R 80 11 := hs.is (by decide +kernel)
theorem sc_81 {R : HR} (hs : Stat R) : am_is R 81 13 := hs.is (by decide +kernel)
theorem sn_81 : (am_T 81).2 = 900 := by decide +kernel
theorem sc_82 {R : HR} (hs : Stat R) : am_is R 82 13 := hs.is (by decide +kernel)
theorem sn_82 : (am_T 82).2 = 8 := by decide +kernel
theorem sc_83 {R : HR} (hs : Stat R) : am_is R 83 13 := hs.is (by decide +kernel)
theorem sn_83 : (am_T 83).2 = 6 := by decide +kernel
theorem sc_84 {R : HR} (hs : Stat R) : am_is R 84 13 := hs.is (by decide +kernel)
theorem sn_84 : (am_T 84).2 = 12 := by decide +kernel
theorem sc_85 {R : HR} (hs : Stat R) : am_is R 85 13 := hs.is (by decide +kernel)
theorem sn_85 : (am_T 85).2 = 12 := by decide +kernel
theorem sc_86 {R : HR} (hs : Stat R) : am_is R 86 13 := hs.is (by decide +kernel)
theorem sn_86 : (am_T 86).2 = 2000 := by decide +kernel
theorem sc_87 {R : HR} (hs : Stat R) : am_is R 87 13 := hs.is (by decide +kernel)
theorem sn_87 : (am_T 87).2 = 2000 := by decide +kernel
theorem sc_88 {R : HR} (hs : Stat R) : am_is R 88 13 := hs.is (by decide +kernel)
theorem sn_88 : (am_T 88).2 = 2000 := by decide +kernel
theorem sc_89 {R : HR} (hs : Stat R) : am_is R 89 13 := hs.is (by decide +kernel)
theorem sn_89 : (am_T 89).2 = 4 := by decide +kernel
theorem sc_90 {R : HR} (hs : Stat R) : am_is R 90 13 := hs.is (by decide +kernel)
theorem sn_90 : (am_T 90).2 = 4 := by decide +kernel
theorem sc_91 {R : HR} (hs : Stat R) : am_is R 91 14 := hs.is (by decide +kernel)
theorem sn_91 : (am_T 91).2 = 4 := by decide +kernel
theorem sc_92 {R : HR} (hs : Stat R) : am_is R 92 13 := hs.is (by decide +kernel)
theorem sn_92 : (am_T 92).2 = 400 := by decide +kernel
theorem sc_93 {R : HR} (hs : Stat R) : am_is R 93 14 := hs.is (by decide +kernel)
theorem sn_93 : (am_T 93).2 = 400 := by decide +kernel
theorem sc_94 {R : HR} (hs : Stat R) : am_is R 94 14 := hs.is (by decide +kernel)
theorem sn_94 : (am_T 94).2 = 400 := by decide +kernel
theorem sc_95 {R : HR} (hs : Stat R) : am_is R 95 14 := hs.is (by decide +kernel)
theorem sn_95 : (am_T 95).2 = 400 := by decide +kernel
theorem sc_96 {R : HR} (hs : Stat R) : am_is R 96 13 := hs.is (by decide +kernel)
theorem sn_96 : (am_T 96).2 = 400 := by decide +kernel
theorem sc_97 {R : HR} (hs : Stat R) : am_is R 97 13 := hs.is (by decide +kernel)
theorem sn_97 : (am_T 97).2 = 400 := by decide +kernel
theorem sc_98 {R : HR} (hs : Stat R) : am_is R 98 13 := hs.is (by decide +kernel)
theorem sn_98 : (am_T 98).2 = 400 := by decide +kernel
theorem sc_99 {R : HR} (hs : Stat R) : am_is R 99 14 := hs.is (by decide +kernel)
theorem sn_99 : (am_T 99).2 = 64 := by decide +kernel
theorem sc_100 {R : HR} (hs : Stat R) : am_is R 100 13 := hs.is (by decide +kernel)
theorem sn_100 : (am_T 100).2 = 64 := by decide +kernel
theorem sc_101 {R : HR} (hs : Stat R) : am_is R 101 14 := hs.is (by decide +kernel)
theorem sn_101 : (am_T 101).2 = 8 := by decide +kernel
theorem sc_102 {R : HR} (hs : Stat R) : am_is R 102 13 := hs.is (by decide +kernel)
theorem sn_102 : (am_T 102).2 = 8 := by decide +kernel
theorem sc_103 {R : HR} (hs : Stat R) : am_is R 103 14 := hs.is (by decide +kernel)
theorem sn_103 : (am_T 103).2 = 48 := by decide +kernel
theorem sc_104 {R : HR} (hs : Stat R) : am_is R 104 13 := hs.is (by decide +kernel)
theorem sn_104 : (am_T 104).2 = 48 := by decide +kernel
theorem sc_105 {R : HR} (hs : Stat R) : am_is R 105 14 := hs.is (by decide +kernel)
theorem sn_105 : (am_T 105).2 = 20 := by decide +kernel
theorem sc_106 {R : HR} (hs : Stat R) : am_is R 106 13 := hs.is (by decide +kernel)
theorem sn_106 : (am_T 106).2 = 20 := by decide +kernel
theorem sc_107 {R : HR} (hs : Stat R) : am_is R 107 13 := hs.is (by decide +kernel)
theorem sn_107 : (am_T 107).2 = 3000 := by decide +kernel
theorem sc_108 {R : HR} (hs : Stat R) : am_is R 108 13 := hs.is (by decide +kernel)
theorem sn_108 : (am_T 108).2 = 1000 := by decide +kernel
theorem sc_109 {R : HR} (hs : Stat R) : am_is R 109 15 := hs.is (by decide +kernel)
theorem sn_109 : (am_T 109).2 = 400 := by decide +kernel
theorem sc_110 {R : HR} (hs : Stat R) : am_is R 110 15 := hs.is (by decide +kernel)
theorem sn_110 : (am_T 110).2 = 400 := by decide +kernel
theorem sc_111 {R : HR} (hs : Stat R) : am_is R 111 15 := hs.is (by decide +kernel)
theorem sn_111 : (am_T 111).2 = 400 := by decide +kernel
theorem sc_112 {R : HR} (hs : Stat R) : am_is R 112 14 := hs.is (by decide +kernel)
theorem sn_112 : (am_T 112).2 = 400 := by decide +kernel
theorem sc_113 {R : HR} (hs : Stat R) : am_is R 113 14 := hs.is (by decide +kernel)
theorem sn_113 : (am_T 113).2 = 400 := by decide +kernel
theorem sc_114 {R : HR} (hs : Stat R) : am_is R 114 14 := hs.is (by decide +kernel)
theorem sn_114 : (am_T 114).2 = 400 := by decide +kernel
theorem sc_115 {R : HR} (hs : Stat R) : am_is R 115 14 := hs.is (by decide +kernel)
theorem sn_115 : (am_T 115).2 = 80 := by decide +kernel
theorem sc_116 {R : HR} (hs : Stat R) : am_is R 116 14 := hs.is (by decide +kernel)
theorem sn_116 : (am_T 116).2 = 11 := by decide +kernel
theorem sc_117 {R : HR} (hs : Stat R) : am_is R 117 13 := hs.is (by decide +kernel)
theorem sn_117 : (am_T 117).2 = 3000 := by decide +kernel
theorem sc_118 {R : HR} (hs : Stat R) : am_is R 118 13 := hs.is (by decide +kernel)
theorem sn_118 : (am_T 118).2 = 8421 := by decide +kernel
theorem sc_119 {R : HR} (hs : Stat R) : am_is R 119 13 := hs.is (by decide +kernel)
theorem sn_119 : (am_T 119).2 = 8421 := by decide +kernel
theorem sc_120 {R : HR} (hs : Stat R) : am_is R 120 13 := hs.is (by decide +kernel)
theorem sn_120 : (am_T 120).2 = 3 := by decide +kernel
theorem sc_121 {R : HR} (hs : Stat R) : am_is R 121 14 := hs.is (by decide +kernel)
theorem sn_121 : (am_T 121).2 = 1 := by decide +kernel
theorem sf_0_0 {R : HR} (hs : Stat R) : R 0 0 = some 1 := hs.get (by decide +kernel)
theorem sf_0_2 {R : HR} (hs : Stat R) : R 0 2 = some 2 := hs.get (by decide +kernel)
theorem sf_0_7 {R : HR} (hs : Stat R) : R 0 7 = some 16 := hs.get (by decide +kernel)
theorem sf_0_8 {R : HR} (hs : Stat R) : R 0 8 = some 17 := hs.get (by decide +kernel)
theorem sf_0_9 {R : HR} (hs : Stat R) : R 0 9 = some 44 := hs.get (by decide +kernel)
theorem sf_0_10 {R : HR} (hs : Stat R) : R 0 10 = some 45 := hs.get (by decide +kernel)
theorem sf_0_11 {R : HR} (hs : Stat R) : R 0 11 = some 72 := hs.get (by decide +kernel)
theorem sf_0_12 {R : HR} (hs : Stat R) : R 0 12 = some 76 := hs.get (by decide +kernel)
theorem sf_0_13 {R : HR} (hs : Stat R) : R 0 13 = some 78 := hs.get (by decide +kernel)
theorem sf_0_14 {R : HR} (hs : Stat R) : R 0 14 = some 79 := hs.get (by decide +kernel)
theorem sf_2_0 {R : HR} (hs : Stat R) : R 2 0 = some 7 := hs.get (by decide +kernel)
theorem sf_2_2 {R : HR} (hs : Stat R) : R 2 2 = some 3 := hs.get (by decide +kernel)
theorem sf_2_3 {R : HR} (hs : Stat R) : R 2 3 = some 4 := hs.get (by decide +kernel)
theorem sf_2_4 {R : HR} (hs : Stat R) : R 2 4 = some 5 := hs.get (by decide +kernel)
theorem sf_2_5 {R : HR} (hs : Stat R) : R 2 5 = some 6 := hs.get (by decide +kernel)
theorem sf_7_0 {R : HR} (hs : Stat R) : R 7 0 = some 1 := hs.get (by decide +kernel)
theorem sf_8_0 {R : HR} (hs : Stat R) : R 8 0 = some 9 := hs.get (by decide +kernel)
theorem sf_8_7 {R : HR} (hs : Stat R) : R 8 7 = some 10 := hs.get (by decide +kernel)
theorem sf_8_8 {R : HR} (hs : Stat R) : R 8 8 = some 11 := hs.get (by decide +kernel)
theorem sf_12_0 {R : HR} (hs : Stat R) : R 12 0 = some 13 := hs.get (by decide +kernel)
theorem sf_12_7 {R : HR} (hs : Stat R) : R 12 7 = some 14 := hs.get (by decide +kernel)
theorem sf_12_8 {R : HR} (hs : Stat R) : R 12 8 = some 15 := hs.get (by decide +kernel)
theorem sf_17_1 {R : HR} (hs : Stat R) : R 17 1 = some 18 := hs.get (by decide +kernel)
theorem sf_17_2 {R : HR} (hs : Stat R) : R 17 2 = some 21 := hs.get (by decide +kernel)
theorem sf_17_3 {R : HR} (hs : Stat R) : R 17 3 = some 24 := hs.get (by decide +kernel)
theorem sf_17_4 {R : HR} (hs : Stat R) : R 17 4 = some 27 := hs.get (by decide +kernel)
theorem sf_17_5 {R : HR} (hs : Stat R) : R 17 5 = some 30 := hs.get (by decide +kernel)
theorem sf_17_6 {R : HR} (hs : Stat R) : R 17 6 = some 41 := hs.get (by decide +kernel)
theorem sf_17_7 {R : HR} (hs : Stat R) : R 17 7 = some 43 := hs.get (by decide +kernel)
theorem sf_18_0 {R : HR} (hs : Stat R) : R 18 0 = some 19 := hs.get (by decide +kernel)
theorem sf_18_1 {R : HR} (hs : Stat R) : R 18 1 = some 20 := hs.get (by decide +kernel)
theorem sf_21_0 {R : HR} (hs : Stat R) : R 21 0 = some 22 := hs.get (by decide +kernel)
theorem sf_21_1 {R : HR} (hs : Stat R) : R 21 1 = some 23 := hs.get (by decide +kernel)
theorem sf_24_0 {R : HR} (hs : Stat R) : R 24 0 = some 25 := hs.get (by decide +kernel)
theorem sf_24_1 {R : HR} (hs : Stat R) : R 24 1 = some 26 := hs.get (by decide +kernel)
theorem sf_27_0 {R : HR} (hs : Stat R) : R 27 0 = some 28 := hs.get (by decide +kernel)
theorem sf_27_1 {R : HR} (hs : Stat R) : R 27 1 = some 29 := hs.get (by decide +kernel)
theorem sf_30_1 {R : HR} (hs : Stat R) : R 30 1 = some 31 := hs.get (by decide +kernel)
theorem sf_30_2 {R : HR} (hs : Stat R) : R 30 2 = some 32 := hs.get (by decide +kernel)
theorem sf_30_3 {R : HR} (hs : Stat R) : R 30 3 = some 33 := hs.get (by decide +kernel)
theorem sf_30_4 {R : HR} (hs : Stat R) : R 30 4 = some 34 := hs.get (by decide +kernel)
theorem sf_30_5 {R : HR} (hs : Stat R) : R 30 5 = some 35 := hs.get (by decide +kernel)
theorem sf_30_6 {R : HR} (hs : Stat R) : R 30 6 = some 36 := hs.get (by decide +kernel)
theorem sf_30_7 {R : HR} (hs : Stat R) : R 30 7 = some 37 := hs.get (by decide +kernel)
theorem sf_30_8 {R : HR} (hs : Stat R) : R 30 8 = some 38 := hs.get (by decide +kernel)
theorem sf_30_9 {R : HR} (hs : Stat R) : R 30 9 = some 39 := hs.get (by decide +kernel)
theorem sf_30_10 {R : HR} (hs : Stat R) : R 30 10 = some 40 := hs.get (by decide +kernel)
theorem sf_41_0 {R : HR} (hs : Stat R) : R 41 0 = some 42 := hs.get (by decide +kernel)
theorem sf_45_1 {R : HR} (hs : Stat R) : R 45 1 = some 46 := hs.get (by decide +kernel)
theorem sf_45_2 {R : HR} (hs : Stat R) : R 45 2 = some 49 := hs.get (by decide +kernel)
theorem sf_45_3 {R : HR} (hs : Stat R) : R 45 3 = some 52 := hs.get (by decide +kernel)
theorem sf_45_4 {R : HR} (hs : Stat R) : R 45 4 = some 55 := hs.get (by decide +kernel)
theorem sf_45_5 {R : HR} (hs : Stat R) : R 45 5 = some 58 := hs.get (by decide +kernel)
theorem sf_45_6 {R : HR} (hs : Stat R) : R 45 6 = some 69 := hs.get (by decide +kernel)
theorem sf_45_7 {R : HR} (hs : Stat R) : R 45 7 = some 71 := hs.get (by decide +kernel)
theorem sf_46_0 {R : HR} (hs : Stat R) : R 46 0 = some 47 := hs.get (by decide +kernel)
theorem sf_46_1 {R : HR} (hs : Stat R) : R 46 1 = some 48 := hs.get (by decide +kernel)
theorem sf_49_0 {R : HR} (hs : Stat R) : R 49 0 = some 50 := hs.get (by decide +kernel)
theorem sf_49_1 {R : HR} (hs : Stat R) : R 49 1 = some 51 := hs.get (by decide +kernel)
theorem sf_52_0 {R : HR} (hs : Stat R) : R 52 0 = some 53 := hs.get (by decide +kernel)
theorem sf_52_1 {R : HR} (hs : Stat R) : R 52 1 = some 54 := hs.get (by decide +kernel)
theorem sf_55_0 {R : HR} (hs : Stat R) : R 55 0 = some 56 := hs.get (by decide +kernel)
theorem sf_55_1 {R : HR} (hs : Stat R) : R 55 1 = some 57 := hs.get (by decide +kernel)
theorem sf_58_1 {R : HR} (hs : Stat R) : R 58 1 = some 59 := hs.get (by decide +kernel)
theorem sf_58_2 {R : HR} (hs : Stat R) : R 58 2 = some 60 := hs.get (by decide +kernel)
theorem sf_58_3 {R : HR} (hs : Stat R) : R 58 3 = some 61 := hs.get (by decide +kernel)
theorem sf_58_4 {R : HR} (hs : Stat R) : R 58 4 = some 62 := hs.get (by decide +kernel)
theorem sf_58_5 {R : HR} (hs : Stat R) : R 58 5 = some 63 := hs.get (by decide +kernel)
theorem sf_58_6 {R : HR} (hs : Stat R) : R 58 6 = some 64 := hs.get (by decide +kernel)
theorem sf_58_7 {R : HR} (hs : Stat R) : R 58 7 = some 65 := hs.get (by decide +kernel)
theorem sf_58_8 {R : HR} (hs : Stat R) : R 58 8 = some 66 := hs.get (by decide +kernel)
theorem sf_58_9 {R : HR} (hs : Stat R) : R 58 9 = some 67 := hs.get (by decide +kernel)
theorem sf_58_10 {R : HR} (hs : Stat R) : R 58 10 = some 68 := hs.get (by decide +kernel)
theorem sf_69_0 {R : HR} (hs : Stat R) : R 69 0 = some 70 := hs.get (by decide +kernel)
theorem sf_72_0 {R : HR} (hs : Stat R) : R 72 0 = some 73 := hs.get (by decide +kernel)
theorem sf_72_1 {R : HR} (hs : Stat R) : R 72 1 = some 74 := hs.get (by decide +kernel)
theorem sf_72_2 {R : HR} (hs : Stat R) : R 72 2 = some 75 := hs.get (by decide +kernel)
theorem sf_76_0 {R : HR} (hs : Stat R) : R 76 0 = some 77 := hs.get (by decide +kernel)
theorem sf_80_1 {R : HR} (hs : Stat R) : R 80 1 = some 81 := hs.get (by decide +kernel)
theorem sf_80_13 {R : HR} (hs : Stat R) : R 80 13 = some 82 := hs.get (by decide +kernel)
theorem sf_80_16 {R : HR} (hs : Stat R) : R 80 16 = some 83 := hs.get (by decide +kernel)
theorem sf_80_17 {R : HR} (hs : Stat R) : R 80 17 = some 84 := hs.get (by decide +kernel)
theorem sf_80_18 {R : HR} (hs : Stat R) : R 80 18 = some 85 := hs.get (by decide +kernel)
theorem sf_80_21 {R : HR} (hs : Stat R) : R 80 21 = some 86 := hs.get (by decide +kernel)
theorem sf_80_22 {R : HR} (hs : Stat R) : R 80 22 = some 87 := hs.get (by decide +kernel)
theorem sf_80_23 {R : HR} (hs : Stat R) : R 80 23 = some 88 := hs.get (by decide +kernel)
theorem sf_80_25 {R : HR} (hs : Stat R) : R 80 25 = some 89 := hs.get (by decide +kernel)
theorem sf_80_26 {R : HR} (hs : Stat R) : R 80 26 = some 90 := hs.get (by decide +kernel)
theorem sf_80_36 {R : HR} (hs : Stat R) : R 80 36 = some 91 := hs.get (by decide +kernel)
theorem sf_80_37 {R : HR} (hs : Stat R) : R 80 37 = some 92 := hs.get (by decide +kernel)
theorem sf_80_38 {R : HR} (hs : Stat R) : R 80 38 = some 93 := hs.get (by decide +kernel)
theorem sf_80_39 {R : HR} (hs : Stat R) : R 80 39 = some 94 := hs.get (by decide +kernel)
theorem sf_80_40 {R : HR} (hs : Stat R) : R 80 40 = some 95 := hs.get (by decide +kernel)
theorem sf_80_41 {R : HR} (hs : Stat R) : R 80 41 = some 96 := hs.get (by decide +kernel)
theorem sf_80_42 {R : HR} (hs : Stat R) : R 80 42 = some 97 := hs.get (by decide +kernel)
theorem sf_80_43 {R : HR} (hs : Stat R) : R 80 43 = some 98 := hs.get (by decide +kernel)
theorem sf_80_45 {R : HR} (hs : Stat R) : R 80 45 = some 99 := hs.get (by decide +kernel)
theorem sf_80_46 {R : HR} (hs : Stat R) : R 80 46 = some 100 := hs.get (by decide +kernel)
theorem sf_80_48 {R : HR} (hs : Stat R) : R 80 48 = some 101 := hs.get (by decide +kernel)
theorem sf_80_49 {R : HR} (hs : Stat R) : R 80 49 = some 102 := hs.get (by decide +kernel)
theorem sf_80_50 {R : HR} (hs : Stat R) : R 80 50 = some 103 := hs.get (by decide +kernel)
theorem sf_80_51 {R : HR} (hs : Stat R) : R 80 51 = some 104 := hs.get (by decide +kernel)
theorem sf_80_52 {R : HR} (hs : Stat R) : R 80 52 = some 105 := hs.get (by decide +kernel)
theorem sf_80_53 {R : HR} (hs : Stat R) : R 80 53 = some 106 := hs.get (by decide +kernel)
theorem sf_80_55 {R : HR} (hs : Stat R) : R 80 55 = some 107 := hs.get (by decide +kernel)
theorem sf_80_58 {R : HR} (hs : Stat R) : R 80 58 = some 108 := hs.get (by decide +kernel)
theorem sf_80_62 {R : HR} (hs : Stat R) : R 80 62 = some 109 := hs.get (by decide +kernel)
theorem sf_80_63 {R : HR} (hs : Stat R) : R 80 63 = some 110 := hs.get (by decide +kernel)
theorem sf_80_64 {R : HR} (hs : Stat R) : R 80 64 = some 111 := hs.get (by decide +kernel)
theorem sf_80_65 {R : HR} (hs : Stat R) : R 80 65 = some 112 := hs.get (by decide +kernel)
theorem sf_80_66 {R : HR} (hs : Stat R) : R 80 66 = some 113 := hs.get (by decide +kernel)
theorem sf_80_67 {R : HR} (hs : Stat R) : R 80 67 = some 114 := hs.get (by decide +kernel)
theorem sf_80_68 {R : HR} (hs : Stat R) : R 80 68 = some 115 := hs.get (by decide +kernel)
theorem sf_80_69 {R : HR} (hs : Stat R) : R 80 69 = some 116 := hs.get (by decide +kernel)
theorem sf_80_70 {R : HR} (hs : Stat R) : R 80 70 = some 117 := hs.get (by decide +kernel)
theorem sf_80_71 {R : HR} (hs : Stat R) : R 80 71 = some 118 := hs.get (by decide +kernel)
theorem sf_80_72 {R : HR} (hs : Stat R) : R 80 72 = some 119 := hs.get (by decide +kernel)
theorem sf_80_76 {R : HR} (hs : Stat R) : R 80 76 = some 120 := hs.get (by decide +kernel)
theorem lt_X0 {o : Nat} (ho : isX0 o) : o < 900 := by
  rcases ho with rfl | rfl <;> decide
theorem lt_X1 {o : Nat} (ho : isX1 o) : o < 900 := by
  rcases ho with rfl | rfl <;> decide
theorem lt_X5 {o : Nat} (ho : isX5 o) : o < 900 := by
  rcases ho with rfl | rfl <;> decide
theorem lt_X8 {o : Nat} (ho : isX8 o) : o < 900 := by
  rcases ho with rfl | rfl | rfl | rfl | rfl | rfl | rfl | rfl <;> decide
theorem lt_X9 {o : Nat} (ho : isX9 o) : o < 900 := by
  rcases ho with rfl | rfl <;> decide
theorem su_X5 {R : HR} {o : Nat} {v : Option Nat} (hs : Stat R) : Stat (up R 0 5 v) := stat_up hs (by decide +kernel)
theorem lmath_0 : am_in (.initialized "java/lang/Math") := am_ac in_t1 14 rfl rfl
theorem lmath_min_1 : am_in (.static Lib.Math.min.name) := am_ac in_t3 91 rfl rfl
theorem lmath_min_2 : am_in (.code Lib.Math.min.name Lib.Math.min.code 2 (some .int)) := am_ac in_t3 92 rfl rfl
theorem lmath_max_1 : am_in (.static Lib.Math.max.name) := am_ac in_t3 94 rfl rfl
theorem lmath_max_2 : am_in (.code Lib.Math.max.name Lib.Math.max.code 2 (some .int)) := am_ac in_t3 95 rfl rfl
theorem lx_X8_18 : am_in (.methodLink RX8 18 Lib.Math.min.name) := am_ac in_t3 90 rfl rfl
theorem lx_X8_24 : am_in (.methodLink RX8 24 Lib.Math.max.name) := am_ac in_t3 93 rfl rfl
theorem lx_X9_99 : am_in (.methodLink RX9 99 Lib.Math.max.name) := am_ac in_t4 43 rfl rfl
theorem lcopy_1 : am_in (.methodLink RX11 301 arraycopyName) := am_ac in_t4 155 rfl rfl
theorem lx_X9_94 : am_in (.methodLink RX9 94 Lib.Math.min.name) := am_ac in_t4 192 rfl rfl
theorem lx_X10_50 : am_in (.methodLink RX10 50 Lib.Math.max.name) := am_ac in_t5 9 rfl rfl
theorem lcopy_2 : am_in (.native arraycopyName) := am_ac in_t4 157 rfl rfl
theorem lcopy_3 : am_in (.static arraycopyName) := am_ac in_t4 156 rfl rfl
theorem lcopy_4 : am_in (.initialized "java/lang/System") := am_ac in_t1 21 rfl rfl
