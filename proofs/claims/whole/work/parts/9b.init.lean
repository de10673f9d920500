/-! PRINTED BY wip/whole/gen_init.py: the constructors of the class -/
set_option maxHeartbeats 4000000 in
theorem n_X6_7 {d : Nat} {I : HI} {J : HJ} {R0 : HR} {Q : PQ} (hb : frs I J R0 8) (h : ∀ R', sz I J R0 R' 8 8 7 [(7, 0, 1)] → Q none I J R') : am_W (d + 1) M_X6_init [.ref 7, .ref 1] I J R0 Q := ⟨Nat.le_of_ble_eq_true rfl, fun K hK => by
  have z0 := sz_0 7 hb
  refine k_ld hK 0 dX6_init_0 rfl rfl rfl rfl ?_
  refine k_zob hK dX6_init_1 (am_ac in_t1 41 rfl rfl) (by decide) ?_
  refine k_ld hK 0 dX6_init_4 rfl rfl rfl rfl ?_
  refine k_ld hK 1 dX6_init_5 rfl rfl rfl rfl ?_
  refine k_zpR hK z0 dX6_init_6 lf_X6_9 rfl (by first | exact Or.inl rfl | exact Or.inr ⟨rfl, rfl⟩) (by decide +kernel) (by decide +kernel) (fun R1 z1 => ?_)
  exact k_vret hK dX6_init_9 rfl (sz_done z1 (by decide +kernel)) (h R1 z1)⟩
set_option maxHeartbeats 4000000 in
theorem n_X4_2 {d : Nat} {I : HI} {J : HJ} {R0 : HR} {Q : PQ} (hb : frs I J R0 3) (h : ∀ R', sz I J R0 R' 3 8 2 [(2, 0, 7), (7, 0, 1), (2, 5, 6), (2, 4, 5), (2, 3, 4), (2, 2, 3)] → Q none I J R') : am_W (d + 2) M_X4_init [.ref 2, .ref 1] I J R0 Q := ⟨Nat.le_of_ble_eq_true rfl, fun K hK => by
  have z0 := sz_0 2 hb
  refine k_ld hK 0 dX4_init_0 rfl rfl rfl rfl ?_
  refine k_zob hK dX4_init_1 (am_ac in_t1 35 rfl rfl) (by decide) ?_
  refine k_ld hK 0 dX4_init_4 rfl rfl rfl rfl ?_
  refine k_bi hK dX4_init_5 (v := 8) (by decide) ?_
  refine k_zna hK z0 dX4_init_7 (am_ac in_t1 65 rfl rfl) (by decide +kernel) (fun R1 z1 => ?_)
  refine k_zpR hK z1 dX4_init_9 lf_X4_9 rfl (by first | exact Or.inl rfl | exact Or.inr ⟨rfl, rfl⟩) (by decide +kernel) (by decide +kernel) (fun R2 z2 => ?_)
  refine k_ld hK 0 dX4_init_12 rfl rfl rfl rfl ?_
  refine k_bi hK dX4_init_13 (v := 6) (by decide) ?_
  refine k_zna hK z2 dX4_init_15 (am_ac in_t1 65 rfl rfl) (by decide +kernel) (fun R3 z3 => ?_)
  refine k_zpR hK z3 dX4_init_17 lf_X4_15 rfl (by first | exact Or.inl rfl | exact Or.inr ⟨rfl, rfl⟩) (by decide +kernel) (by decide +kernel) (fun R4 z4 => ?_)
  refine k_ld hK 0 dX4_init_20 rfl rfl rfl rfl ?_
  refine k_ic hK dX4_init_21 (v := 4) (by decide) ?_
  refine k_zna hK z4 dX4_init_22 (am_ac in_t1 65 rfl rfl) (by decide +kernel) (fun R5 z5 => ?_)
  refine k_zpR hK z5 dX4_init_24 lf_X4_18 rfl (by first | exact Or.inl rfl | exact Or.inr ⟨rfl, rfl⟩) (by decide +kernel) (by decide +kernel) (fun R6 z6 => ?_)
  refine k_ld hK 0 dX4_init_27 rfl rfl rfl rfl ?_
  refine k_ic hK dX4_init_28 (v := 4) (by decide) ?_
  refine k_zna hK z6 dX4_init_29 (am_ac in_t1 65 rfl rfl) (by decide +kernel) (fun R7 z7 => ?_)
  refine k_zpR hK z7 dX4_init_31 lf_X4_21 rfl (by first | exact Or.inl rfl | exact Or.inr ⟨rfl, rfl⟩) (by decide +kernel) (by decide +kernel) (fun R8 z8 => ?_)
  refine k_ld hK 0 dX4_init_34 rfl rfl rfl rfl ?_
  refine k_znew hK z8 (k := 5) dX4_init_35 rfl (am_ac in_t1 36 rfl rfl) (am_ac in_t1 37 rfl rfl) (am_ac in_t1 3 rfl rfl) (by decide +kernel) (fun R9 z9 => ?_)
  refine k_op hK dX4_init_38 rfl rfl ?_
  refine k_ld hK 1 dX4_init_39 rfl rfl rfl rfl ?_
  refine k_zci (As := [.ref 1]) (a := 7) hK dX4_init_40 lm_X4_26 rfl (by decide) (sz_fit z9 (by decide +kernel)) rfl (n_X6_7 z9.2.1 (fun R10 y10 => ?_))
  have z10 := sz_tr z9 y10 (by decide +kernel)
  clear y10
  refine k_zpR hK z10 dX4_init_43 lf_X4_29 rfl (by first | exact Or.inl rfl | exact Or.inr ⟨rfl, rfl⟩) (by decide +kernel) (by decide +kernel) (fun R11 z11 => ?_)
  exact k_vret hK dX4_init_46 rfl (sz_done z11 (by decide +kernel)) (h R11 z11)⟩
set_option maxHeartbeats 4000000 in
theorem n_X5_8 {d : Nat} {I : HI} {J : HJ} {R0 : HR} {Q : PQ} (hb : frs I J R0 9) (h : ∀ R', sz I J R0 R' 9 12 8 [(8, 8, 11), (8, 7, 10), (8, 0, 9)] → Q none I J R') : am_W (d + 1) M_X5_init [.ref 8] I J R0 Q := ⟨Nat.le_of_ble_eq_true rfl, fun K hK => by
  have z0 := sz_0 8 hb
  refine k_ld hK 0 dX5_init_0 rfl rfl rfl rfl ?_
  refine k_zob hK dX5_init_1 (am_ac in_t1 104 rfl rfl) (by decide) ?_
  refine k_ld hK 0 dX5_init_4 rfl rfl rfl rfl ?_
  refine k_si hK dX5_init_5 (v := 900) (by decide) ?_
  refine k_zna hK z0 dX5_init_8 (am_ac in_t1 65 rfl rfl) (by decide +kernel) (fun R1 z1 => ?_)
  refine k_zpR hK z1 dX5_init_10 lf_X5_9 rfl (by first | exact Or.inl rfl | exact Or.inr ⟨rfl, rfl⟩) (by decide +kernel) (by decide +kernel) (fun R2 z2 => ?_)
  refine k_ld hK 0 dX5_init_13 rfl rfl rfl rfl ?_
  refine k_bi hK dX5_init_14 (v := 6) (by decide) ?_
  refine k_zna hK z2 dX5_init_16 (am_ac in_t1 65 rfl rfl) (by decide +kernel) (fun R3 z3 => ?_)
  refine k_zpR hK z3 dX5_init_18 lf_X5_15 rfl (by first | exact Or.inl rfl | exact Or.inr ⟨rfl, rfl⟩) (by decide +kernel) (by decide +kernel) (fun R4 z4 => ?_)
  refine k_ld hK 0 dX5_init_21 rfl rfl rfl rfl ?_
  refine k_bi hK dX5_init_22 (v := 6) (by decide) ?_
  refine k_zna hK z4 dX5_init_24 (am_ac in_t1 65 rfl rfl) (by decide +kernel) (fun R5 z5 => ?_)
  refine k_zpR hK z5 dX5_init_26 lf_X5_18 rfl (by first | exact Or.inl rfl | exact Or.inr ⟨rfl, rfl⟩) (by decide +kernel) (by decide +kernel) (fun R6 z6 => ?_)
  exact k_vret hK dX5_init_29 rfl (sz_done z6 (by decide +kernel)) (h R6 z6)⟩
set_option maxHeartbeats 4000000 in
theorem n_X5_12 {d : Nat} {I : HI} {J : HJ} {R0 : HR} {Q : PQ} (hb : frs I J R0 13) (h : ∀ R', sz I J R0 R' 13 16 12 [(12, 8, 15), (12, 7, 14), (12, 0, 13)] → Q none I J R') : am_W (d + 1) M_X5_init [.ref 12] I J R0 Q := ⟨Nat.le_of_ble_eq_true rfl, fun K hK => by
  have z0 := sz_0 12 hb
  refine k_ld hK 0 dX5_init_0 rfl rfl rfl rfl ?_
  refine k_zob hK dX5_init_1 (am_ac in_t1 104 rfl rfl) (by decide) ?_
  refine k_ld hK 0 dX5_init_4 rfl rfl rfl rfl ?_
  refine k_si hK dX5_init_5 (v := 900) (by decide) ?_
  refine k_zna hK z0 dX5_init_8 (am_ac in_t1 65 rfl rfl) (by decide +kernel) (fun R1 z1 => ?_)
  refine k_zpR hK z1 dX5_init_10 lf_X5_9 rfl (by first | exact Or.inl rfl | exact Or.inr ⟨rfl, rfl⟩) (by decide +kernel) (by decide +kernel) (fun R2 z2 => ?_)
  refine k_ld hK 0 dX5_init_13 rfl rfl rfl rfl ?_
  refine k_bi hK dX5_init_14 (v := 6) (by decide) ?_
  refine k_zna hK z2 dX5_init_16 (am_ac in_t1 65 rfl rfl) (by decide +kernel) (fun R3 z3 => ?_)
  refine k_zpR hK z3 dX5_init_18 lf_X5_15 rfl (by first | exact Or.inl rfl | exact Or.inr ⟨rfl, rfl⟩) (by decide +kernel) (by decide +kernel) (fun R4 z4 => ?_)
  refine k_ld hK 0 dX5_init_21 rfl rfl rfl rfl ?_
  refine k_bi hK dX5_init_22 (v := 6) (by decide) ?_
  refine k_zna hK z4 dX5_init_24 (am_ac in_t1 65 rfl rfl) (by decide +kernel) (fun R5 z5 => ?_)
  refine k_zpR hK z5 dX5_init_26 lf_X5_18 rfl (by first | exact Or.inl rfl | exact Or.inr ⟨rfl, rfl⟩) (by decide +kernel) (by decide +kernel) (fun R6 z6 => ?_)
  exact k_vret hK dX5_init_29 rfl (sz_done z6 (by decide +kernel)) (h R6 z6)⟩
set_option maxHeartbeats 4000000 in
theorem n_X8_18 {d : Nat} {I : HI} {J : HJ} {R0 : HR} {Q : PQ} (hb : frs I J R0 19) (h : ∀ R', sz I J R0 R' 19 21 18 [(18, 1, 20), (18, 0, 19)] → Q none I J R') : am_W (d + 1) M_X8_init [.ref 18] I J R0 Q := ⟨Nat.le_of_ble_eq_true rfl, fun K hK => by
  have z0 := sz_0 18 hb
  refine k_ld hK 0 dX8_init_0 rfl rfl rfl rfl ?_
  refine k_zob hK dX8_init_1 (am_ac in_t1 164 rfl rfl) (by decide) ?_
  refine k_ld hK 0 dX8_init_4 rfl rfl rfl rfl ?_
  refine k_bi hK dX8_init_5 (v := 48) (by decide) ?_
  refine k_zna hK z0 dX8_init_7 (am_ac in_t1 65 rfl rfl) (by decide +kernel) (fun R1 z1 => ?_)
  refine k_zpR hK z1 dX8_init_9 lf_X8_11 rfl (by first | exact Or.inl rfl | exact Or.inr ⟨rfl, rfl⟩) (by decide +kernel) (by decide +kernel) (fun R2 z2 => ?_)
  refine k_ld hK 0 dX8_init_12 rfl rfl rfl rfl ?_
  refine k_bi hK dX8_init_13 (v := 48) (by decide) ?_
  refine k_zna hK z2 dX8_init_15 (am_ac in_t1 65 rfl rfl) (by decide +kernel) (fun R3 z3 => ?_)
  refine k_zpR hK z3 dX8_init_17 lf_X8_15 rfl (by first | exact Or.inl rfl | exact Or.inr ⟨rfl, rfl⟩) (by decide +kernel) (by decide +kernel) (fun R4 z4 => ?_)
  exact k_vret hK dX8_init_20 rfl (sz_done z4 (by decide +kernel)) (h R4 z4)⟩
set_option maxHeartbeats 4000000 in
theorem n_X8_21 {d : Nat} {I : HI} {J : HJ} {R0 : HR} {Q : PQ} (hb : frs I J R0 22) (h : ∀ R', sz I J R0 R' 22 24 21 [(21, 1, 23), (21, 0, 22)] → Q none I J R') : am_W (d + 1) M_X8_init [.ref 21] I J R0 Q := ⟨Nat.le_of_ble_eq_true rfl, fun K hK => by
  have z0 := sz_0 21 hb
  refine k_ld hK 0 dX8_init_0 rfl rfl rfl rfl ?_
  refine k_zob hK dX8_init_1 (am_ac in_t1 164 rfl rfl) (by decide) ?_
  refine k_ld hK 0 dX8_init_4 rfl rfl rfl rfl ?_
  refine k_bi hK dX8_init_5 (v := 48) (by decide) ?_
  refine k_zna hK z0 dX8_init_7 (am_ac in_t1 65 rfl rfl) (by decide +kernel) (fun R1 z1 => ?_)
  refine k_zpR hK z1 dX8_init_9 lf_X8_11 rfl (by first | exact Or.inl rfl | exact Or.inr ⟨rfl, rfl⟩) (by decide +kernel) (by decide +kernel) (fun R2 z2 => ?_)
  refine k_ld hK 0 dX8_init_12 rfl rfl rfl rfl ?_
  refine k_bi hK dX8_init_13 (v := 48) (by decide) ?_
  refine k_zna hK z2 dX8_init_15 (am_ac in_t1 65 rfl rfl) (by decide +kernel) (fun R3 z3 => ?_)
  refine k_zpR hK z3 dX8_init_17 lf_X8_15 rfl (by first | exact Or.inl rfl | exact Or.inr ⟨rfl, rfl⟩) (by decide +kernel) (by decide +kernel) (fun R4 z4 => ?_)
  exact k_vret hK dX8_init_20 rfl (sz_done z4 (by decide +kernel)) (h R4 z4)⟩
set_option maxHeartbeats 4000000 in
theorem n_X8_24 {d : Nat} {I : HI} {J : HJ} {R0 : HR} {Q : PQ} (hb : frs I J R0 25) (h : ∀ R', sz I J R0 R' 25 27 24 [(24, 1, 26), (24, 0, 25)] → Q none I J R') : am_W (d + 1) M_X8_init [.ref 24] I J R0 Q := ⟨Nat.le_of_ble_eq_true rfl, fun K hK => by
  have z0 := sz_0 24 hb
  refine k_ld hK 0 dX8_init_0 rfl rfl rfl rfl ?_
  refine k_zob hK dX8_init_1 (am_ac in_t1 164 rfl rfl) (by decide) ?_
  refine k_ld hK 0 dX8_init_4 rfl rfl rfl rfl ?_
  refine k_bi hK dX8_init_5 (v := 48) (by decide) ?_
  refine k_zna hK z0 dX8_init_7 (am_ac in_t1 65 rfl rfl) (by decide +kernel) (fun R1 z1 => ?_)
  refine k_zpR hK z1 dX8_init_9 lf_X8_11 rfl (by first | exact Or.inl rfl | exact Or.inr ⟨rfl, rfl⟩) (by decide +kernel) (by decide +kernel) (fun R2 z2 => ?_)
  refine k_ld hK 0 dX8_init_12 rfl rfl rfl rfl ?_
  refine k_bi hK dX8_init_13 (v := 48) (by decide) ?_
  refine k_zna hK z2 dX8_init_15 (am_ac in_t1 65 rfl rfl) (by decide +kernel) (fun R3 z3 => ?_)
  refine k_zpR hK z3 dX8_init_17 lf_X8_15 rfl (by first | exact Or.inl rfl | exact Or.inr ⟨rfl, rfl⟩) (by decide +kernel) (by decide +kernel) (fun R4 z4 => ?_)
  exact k_vret hK dX8_init_20 rfl (sz_done z4 (by decide +kernel)) (h R4 z4)⟩
set_option maxHeartbeats 4000000 in
theorem n_X8_27 {d : Nat} {I : HI} {J : HJ} {R0 : HR} {Q : PQ} (hb : frs I J R0 28) (h : ∀ R', sz I J R0 R' 28 30 27 [(27, 1, 29), (27, 0, 28)] → Q none I J R') : am_W (d + 1) M_X8_init [.ref 27] I J R0 Q := ⟨Nat.le_of_ble_eq_true rfl, fun K hK => by
  have z0 := sz_0 27 hb
  refine k_ld hK 0 dX8_init_0 rfl rfl rfl rfl ?_
  refine k_zob hK dX8_init_1 (am_ac in_t1 164 rfl rfl) (by decide) ?_
  refine k_ld hK 0 dX8_init_4 rfl rfl rfl rfl ?_
  refine k_bi hK dX8_init_5 (v := 48) (by decide) ?_
  refine k_zna hK z0 dX8_init_7 (am_ac in_t1 65 rfl rfl) (by decide +kernel) (fun R1 z1 => ?_)
  refine k_zpR hK z1 dX8_init_9 lf_X8_11 rfl (by first | exact Or.inl rfl | exact Or.inr ⟨rfl, rfl⟩) (by decide +kernel) (by decide +kernel) (fun R2 z2 => ?_)
  refine k_ld hK 0 dX8_init_12 rfl rfl rfl rfl ?_
  refine k_bi hK dX8_init_13 (v := 48) (by decide) ?_
  refine k_zna hK z2 dX8_init_15 (am_ac in_t1 65 rfl rfl) (by decide +kernel) (fun R3 z3 => ?_)
  refine k_zpR hK z3 dX8_init_17 lf_X8_15 rfl (by first | exact Or.inl rfl | exact Or.inr ⟨rfl, rfl⟩) (by decide +kernel) (by decide +kernel) (fun R4 z4 => ?_)
  exact k_vret hK dX8_init_20 rfl (sz_done z4 (by decide +kernel)) (h R4 z4)⟩
set_option maxHeartbeats 4000000 in
theorem n_X9_30 {d : Nat} {I : HI} {J : HJ} {R0 : HR} {Q : PQ} (hb : frs I J R0 31) (h : ∀ R', sz I J R0 R' 31 41 30 [(30, 10, 40), (30, 9, 39), (30, 8, 38), (30, 7, 37), (30, 6, 36), (30, 5, 35), (30, 4, 34), (30, 3, 33), (30, 2, 32), (30, 1, 31)] → Q none I J R') : am_W (d + 1) M_X9_init [.ref 30] I J R0 Q := ⟨Nat.le_of_ble_eq_true rfl, fun K hK => by
  have z0 := sz_0 30 hb
  refine k_ld hK 0 dX9_init_0 rfl rfl rfl rfl ?_
  refine k_zob hK dX9_init_1 (am_ac in_t1 183 rfl rfl) (by decide) ?_
  refine k_ld hK 0 dX9_init_4 rfl rfl rfl rfl ?_
  refine k_si hK dX9_init_5 (v := 400) (by decide) ?_
  refine k_zna hK z0 dX9_init_8 (am_ac in_t1 65 rfl rfl) (by decide +kernel) (fun R1 z1 => ?_)
  refine k_zpR hK z1 dX9_init_10 lf_X9_9 rfl (by first | exact Or.inl rfl | exact Or.inr ⟨rfl, rfl⟩) (by decide +kernel) (by decide +kernel) (fun R2 z2 => ?_)
  refine k_ld hK 0 dX9_init_13 rfl rfl rfl rfl ?_
  refine k_si hK dX9_init_14 (v := 400) (by decide) ?_
  refine k_zna hK z2 dX9_init_17 (am_ac in_t1 65 rfl rfl) (by decide +kernel) (fun R3 z3 => ?_)
  refine k_zpR hK z3 dX9_init_19 lf_X9_15 rfl (by first | exact Or.inl rfl | exact Or.inr ⟨rfl, rfl⟩) (by decide +kernel) (by decide +kernel) (fun R4 z4 => ?_)
  refine k_ld hK 0 dX9_init_22 rfl rfl rfl rfl ?_
  refine k_si hK dX9_init_23 (v := 400) (by decide) ?_
  refine k_zna hK z4 dX9_init_26 (am_ac in_t1 65 rfl rfl) (by decide +kernel) (fun R5 z5 => ?_)
  refine k_zpR hK z5 dX9_init_28 lf_X9_18 rfl (by first | exact Or.inl rfl | exact Or.inr ⟨rfl, rfl⟩) (by decide +kernel) (by decide +kernel) (fun R6 z6 => ?_)
  refine k_ld hK 0 dX9_init_31 rfl rfl rfl rfl ?_
  refine k_si hK dX9_init_32 (v := 400) (by decide) ?_
  refine k_zna hK z6 dX9_init_35 (am_ac in_t1 65 rfl rfl) (by decide +kernel) (fun R7 z7 => ?_)
  refine k_zpR hK z7 dX9_init_37 lf_X9_21 rfl (by first | exact Or.inl rfl | exact Or.inr ⟨rfl, rfl⟩) (by decide +kernel) (by decide +kernel) (fun R8 z8 => ?_)
  refine k_ld hK 0 dX9_init_40 rfl rfl rfl rfl ?_
  refine k_si hK dX9_init_41 (v := 400) (by decide) ?_
  refine k_zna hK z8 dX9_init_44 (am_ac in_t1 65 rfl rfl) (by decide +kernel) (fun R9 z9 => ?_)
  refine k_zpR hK z9 dX9_init_46 lf_X9_24 rfl (by first | exact Or.inl rfl | exact Or.inr ⟨rfl, rfl⟩) (by decide +kernel) (by decide +kernel) (fun R10 z10 => ?_)
  refine k_ld hK 0 dX9_init_49 rfl rfl rfl rfl ?_
  refine k_si hK dX9_init_50 (v := 400) (by decide) ?_
  refine k_zna hK z10 dX9_init_53 (am_ac in_t1 65 rfl rfl) (by decide +kernel) (fun R11 z11 => ?_)
  refine k_zpR hK z11 dX9_init_55 lf_X9_27 rfl (by first | exact Or.inl rfl | exact Or.inr ⟨rfl, rfl⟩) (by decide +kernel) (by decide +kernel) (fun R12 z12 => ?_)
  refine k_ld hK 0 dX9_init_58 rfl rfl rfl rfl ?_
  refine k_si hK dX9_init_59 (v := 400) (by decide) ?_
  refine k_zna hK z12 dX9_init_62 (am_ac in_t1 65 rfl rfl) (by decide +kernel) (fun R13 z13 => ?_)
  refine k_zpR hK z13 dX9_init_64 lf_X9_30 rfl (by first | exact Or.inl rfl | exact Or.inr ⟨rfl, rfl⟩) (by decide +kernel) (by decide +kernel) (fun R14 z14 => ?_)
  refine k_ld hK 0 dX9_init_67 rfl rfl rfl rfl ?_
  refine k_si hK dX9_init_68 (v := 400) (by decide) ?_
  refine k_zna hK z14 dX9_init_71 (am_ac in_t1 65 rfl rfl) (by decide +kernel) (fun R15 z15 => ?_)
  refine k_zpR hK z15 dX9_init_73 lf_X9_33 rfl (by first | exact Or.inl rfl | exact Or.inr ⟨rfl, rfl⟩) (by decide +kernel) (by decide +kernel) (fun R16 z16 => ?_)
  refine k_ld hK 0 dX9_init_76 rfl rfl rfl rfl ?_
  refine k_si hK dX9_init_77 (v := 400) (by decide) ?_
  refine k_zna hK z16 dX9_init_80 (am_ac in_t1 65 rfl rfl) (by decide +kernel) (fun R17 z17 => ?_)
  refine k_zpR hK z17 dX9_init_82 lf_X9_36 rfl (by first | exact Or.inl rfl | exact Or.inr ⟨rfl, rfl⟩) (by decide +kernel) (by decide +kernel) (fun R18 z18 => ?_)
  refine k_ld hK 0 dX9_init_85 rfl rfl rfl rfl ?_
  refine k_si hK dX9_init_86 (v := 400) (by decide) ?_
  refine k_zna hK z18 dX9_init_89 (am_ac in_t1 236 rfl rfl) (by decide +kernel) (fun R19 z19 => ?_)
  refine k_zpR hK z19 dX9_init_91 lf_X9_39 rfl (by first | exact Or.inl rfl | exact Or.inr ⟨rfl, rfl⟩) (by decide +kernel) (by decide +kernel) (fun R20 z20 => ?_)
  exact k_vret hK dX9_init_94 rfl (sz_done z20 (by decide +kernel)) (h R20 z20)⟩
set_option maxHeartbeats 4000000 in
theorem n_X0_41 {d : Nat} {I : HI} {J : HJ} {R0 : HR} {Q : PQ} (hb : frs I J R0 42) (h : ∀ R', sz I J R0 R' 42 43 41 [(41, 0, 42)] → Q none I J R') : am_W (d + 1) M_X0_init [.ref 41] I J R0 Q := ⟨Nat.le_of_ble_eq_true rfl, fun K hK => by
  have z0 := sz_0 41 hb
  refine k_ld hK 0 dX0_init_0 rfl rfl rfl rfl ?_
  refine k_zob hK dX0_init_1 (am_ac in_t2 2 rfl rfl) (by decide) ?_
  refine k_ld hK 0 dX0_init_4 rfl rfl rfl rfl ?_
  refine k_bi hK dX0_init_5 (v := 32) (by decide) ?_
  refine k_zna hK z0 dX0_init_7 (am_ac in_t1 65 rfl rfl) (by decide +kernel) (fun R1 z1 => ?_)
  refine k_zpR hK z1 dX0_init_9 lf_X0_11 rfl (by first | exact Or.inl rfl | exact Or.inr ⟨rfl, rfl⟩) (by decide +kernel) (by decide +kernel) (fun R2 z2 => ?_)
  exact k_vret hK dX0_init_12 rfl (sz_done z2 (by decide +kernel)) (h R2 z2)⟩
set_option maxHeartbeats 4000000 in
theorem n_X1_17 {d : Nat} {I : HI} {J : HJ} {R0 : HR} {Q : PQ} (hb : frs I J R0 18) (h : ∀ R', sz I J R0 R' 18 44 17 [(17, 7, 43), (17, 6, 41), (41, 0, 42), (17, 5, 30), (30, 10, 40), (30, 9, 39), (30, 8, 38), (30, 7, 37), (30, 6, 36), (30, 5, 35), (30, 4, 34), (30, 3, 33), (30, 2, 32), (30, 1, 31), (17, 4, 27), (27, 1, 29), (27, 0, 28), (17, 3, 24), (24, 1, 26), (24, 0, 25), (17, 2, 21), (21, 1, 23), (21, 0, 22), (17, 1, 18), (18, 1, 20), (18, 0, 19)] → Q none I J R') : am_W (d + 2) M_X1_init [.ref 17] I J R0 Q := ⟨Nat.le_of_ble_eq_true rfl, fun K hK => by
  have z0 := sz_0 17 hb
  refine k_ld hK 0 dX1_init_0 rfl rfl rfl rfl ?_
  refine k_zob hK dX1_init_1 (am_ac in_t1 158 rfl rfl) (by decide) ?_
  refine k_ld hK 0 dX1_init_4 rfl rfl rfl rfl ?_
  refine k_znew hK z0 (k := 7) dX1_init_5 rfl (am_ac in_t1 159 rfl rfl) (am_ac in_t1 160 rfl rfl) (am_ac in_t1 6 rfl rfl) (by decide +kernel) (fun R1 z1 => ?_)
  refine k_op hK dX1_init_8 rfl rfl ?_
  refine k_zci (As := []) (a := 18) hK dX1_init_9 lm_X1_11 rfl (by decide) (sz_fit z1 (by decide +kernel)) rfl (n_X8_18 z1.2.1 (fun R2 y2 => ?_))
  have z2 := sz_tr z1 y2 (by decide +kernel)
  clear y2
  refine k_zpR hK z2 dX1_init_12 lf_X1_12 rfl (by first | exact Or.inl rfl | exact Or.inr ⟨rfl, rfl⟩) (by decide +kernel) (by decide +kernel) (fun R3 z3 => ?_)
  refine k_ld hK 0 dX1_init_15 rfl rfl rfl rfl ?_
  refine k_znew hK z3 (k := 7) dX1_init_16 rfl (am_ac in_t1 159 rfl rfl) (am_ac in_t1 160 rfl rfl) (am_ac in_t1 6 rfl rfl) (by decide +kernel) (fun R4 z4 => ?_)
  refine k_op hK dX1_init_19 rfl rfl ?_
  refine k_zci (As := []) (a := 21) hK dX1_init_20 lm_X1_11 rfl (by decide) (sz_fit z4 (by decide +kernel)) rfl (n_X8_21 z4.2.1 (fun R5 y5 => ?_))
  have z5 := sz_tr z4 y5 (by decide +kernel)
  clear y5
  refine k_zpR hK z5 dX1_init_23 lf_X1_18 rfl (by first | exact Or.inl rfl | exact Or.inr ⟨rfl, rfl⟩) (by decide +kernel) (by decide +kernel) (fun R6 z6 => ?_)
  refine k_ld hK 0 dX1_init_26 rfl rfl rfl rfl ?_
  refine k_znew hK z6 (k := 7) dX1_init_27 rfl (am_ac in_t1 159 rfl rfl) (am_ac in_t1 160 rfl rfl) (am_ac in_t1 6 rfl rfl) (by decide +kernel) (fun R7 z7 => ?_)
  refine k_op hK dX1_init_30 rfl rfl ?_
  refine k_zci (As := []) (a := 24) hK dX1_init_31 lm_X1_11 rfl (by decide) (sz_fit z7 (by decide +kernel)) rfl (n_X8_24 z7.2.1 (fun R8 y8 => ?_))
  have z8 := sz_tr z7 y8 (by decide +kernel)
  clear y8
  refine k_zpR hK z8 dX1_init_34 lf_X1_21 rfl (by first | exact Or.inl rfl | exact Or.inr ⟨rfl, rfl⟩) (by decide +kernel) (by decide +kernel) (fun R9 z9 => ?_)
  refine k_ld hK 0 dX1_init_37 rfl rfl rfl rfl ?_
  refine k_znew hK z9 (k := 7) dX1_init_38 rfl (am_ac in_t1 159 rfl rfl) (am_ac in_t1 160 rfl rfl) (am_ac in_t1 6 rfl rfl) (by decide +kernel) (fun R10 z10 => ?_)
  refine k_op hK dX1_init_41 rfl rfl ?_
  refine k_zci (As := []) (a := 27) hK dX1_init_42 lm_X1_11 rfl (by decide) (sz_fit z10 (by decide +kernel)) rfl (n_X8_27 z10.2.1 (fun R11 y11 => ?_))
  have z11 := sz_tr z10 y11 (by decide +kernel)
  clear y11
  refine k_zpR hK z11 dX1_init_45 lf_X1_24 rfl (by first | exact Or.inl rfl | exact Or.inr ⟨rfl, rfl⟩) (by decide +kernel) (by decide +kernel) (fun R12 z12 => ?_)
  refine k_ld hK 0 dX1_init_48 rfl rfl rfl rfl ?_
  refine k_znew hK z12 (k := 8) dX1_init_49 rfl (am_ac in_t1 178 rfl rfl) (am_ac in_t1 179 rfl rfl) (am_ac in_t1 7 rfl rfl) (by decide +kernel) (fun R13 z13 => ?_)
  refine k_op hK dX1_init_52 rfl rfl ?_
  refine k_zci (As := []) (a := 30) hK dX1_init_53 lm_X1_29 rfl (by decide) (sz_fit z13 (by decide +kernel)) rfl (n_X9_30 z13.2.1 (fun R14 y14 => ?_))
  have z14 := sz_tr z13 y14 (by decide +kernel)
  clear y14
  refine k_zpR hK z14 dX1_init_56 lf_X1_30 rfl (by first | exact Or.inl rfl | exact Or.inr ⟨rfl, rfl⟩) (by decide +kernel) (by decide +kernel) (fun R15 z15 => ?_)
  refine k_ld hK 0 dX1_init_59 rfl rfl rfl rfl ?_
  refine k_znew hK z15 (k := 0) dX1_init_60 rfl (am_ac in_t1 237 rfl rfl) (am_ac in_t1 238 rfl rfl) (am_ac in_t1 8 rfl rfl) (by decide +kernel) (fun R16 z16 => ?_)
  refine k_op hK dX1_init_63 rfl rfl ?_
  refine k_zci (As := []) (a := 41) hK dX1_init_64 lm_X1_36 rfl (by decide) (sz_fit z16 (by decide +kernel)) rfl (n_X0_41 z16.2.1 (fun R17 y17 => ?_))
  have z17 := sz_tr z16 y17 (by decide +kernel)
  clear y17
  refine k_zpR hK z17 dX1_init_67 lf_X1_37 rfl (by first | exact Or.inl rfl | exact Or.inr ⟨rfl, rfl⟩) (by decide +kernel) (by decide +kernel) (fun R18 z18 => ?_)
  refine k_ld hK 0 dX1_init_70 rfl rfl rfl rfl ?_
  refine k_ic hK dX1_init_71 (v := 4) (by decide) ?_
  refine k_zna hK z18 dX1_init_72 (am_ac in_t1 65 rfl rfl) (by decide +kernel) (fun R19 z19 => ?_)
  refine k_zpR hK z19 dX1_init_74 lf_X1_41 rfl (by first | exact Or.inl rfl | exact Or.inr ⟨rfl, rfl⟩) (by decide +kernel) (by decide +kernel) (fun R20 z20 => ?_)
  exact k_vret hK dX1_init_77 rfl (sz_done z20 (by decide +kernel)) (h R20 z20)⟩
set_option maxHeartbeats 4000000 in
theorem n_X8_46 {d : Nat} {I : HI} {J : HJ} {R0 : HR} {Q : PQ} (hb : frs I J R0 47) (h : ∀ R', sz I J R0 R' 47 49 46 [(46, 1, 48), (46, 0, 47)] → Q none I J R') : am_W (d + 1) M_X8_init [.ref 46] I J R0 Q := ⟨Nat.le_of_ble_eq_true rfl, fun K hK => by
  have z0 := sz_0 46 hb
  refine k_ld hK 0 dX8_init_0 rfl rfl rfl rfl ?_
  refine k_zob hK dX8_init_1 (am_ac in_t1 164 rfl rfl) (by decide) ?_
  refine k_ld hK 0 dX8_init_4 rfl rfl rfl rfl ?_
  refine k_bi hK dX8_init_5 (v := 48) (by decide) ?_
  refine k_zna hK z0 dX8_init_7 (am_ac in_t1 65 rfl rfl) (by decide +kernel) (fun R1 z1 => ?_)
  refine k_zpR hK z1 dX8_init_9 lf_X8_11 rfl (by first | exact Or.inl rfl | exact Or.inr ⟨rfl, rfl⟩) (by decide +kernel) (by decide +kernel) (fun R2 z2 => ?_)
  refine k_ld hK 0 dX8_init_12 rfl rfl rfl rfl ?_
  refine k_bi hK dX8_init_13 (v := 48) (by decide) ?_
  refine k_zna hK z2 dX8_init_15 (am_ac in_t1 65 rfl rfl) (by decide +kernel) (fun R3 z3 => ?_)
  refine k_zpR hK z3 dX8_init_17 lf_X8_15 rfl (by first | exact Or.inl rfl | exact Or.inr ⟨rfl, rfl⟩) (by decide +kernel) (by decide +kernel) (fun R4 z4 => ?_)
  exact k_vret hK dX8_init_20 rfl (sz_done z4 (by decide +kernel)) (h R4 z4)⟩
set_option maxHeartbeats 4000000 in
theorem n_X8_49 {d : Nat} {I : HI} {J : HJ} {R0 : HR} {Q : PQ} (hb : frs I J R0 50) (h : ∀ R', sz I J R0 R' 50 52 49 [(49, 1, 51), (49, 0, 50)] → Q none I J R') : am_W (d + 1) M_X8_init [.ref 49] I J R0 Q := ⟨Nat.le_of_ble_eq_true rfl, fun K hK => by
  have z0 := sz_0 49 hb
  refine k_ld hK 0 dX8_init_0 rfl rfl rfl rfl ?_
  refine k_zob hK dX8_init_1 (am_ac in_t1 164 rfl rfl) (by decide) ?_
  refine k_ld hK 0 dX8_init_4 rfl rfl rfl rfl ?_
  refine k_bi hK dX8_init_5 (v := 48) (by decide) ?_
  refine k_zna hK z0 dX8_init_7 (am_ac in_t1 65 rfl rfl) (by decide +kernel) (fun R1 z1 => ?_)
  refine k_zpR hK z1 dX8_init_9 lf_X8_11 rfl (by first | exact Or.inl rfl | exact Or.inr ⟨rfl, rfl⟩) (by decide +kernel) (by decide +kernel) (fun R2 z2 => ?_)
  refine k_ld hK 0 dX8_init_12 rfl rfl rfl rfl ?_
  refine k_bi hK dX8_init_13 (v := 48) (by decide) ?_
  refine k_zna hK z2 dX8_init_15 (am_ac in_t1 65 rfl rfl) (by decide +kernel) (fun R3 z3 => ?_)
  refine k_zpR hK z3 dX8_init_17 lf_X8_15 rfl (by first | exact Or.inl rfl | exact Or.inr ⟨rfl, rfl⟩) (by decide +kernel) (by decide +kernel) (fun R4 z4 => ?_)
  exact k_vret hK dX8_init_20 rfl (sz_done z4 (by decide +kernel)) (h R4 z4)⟩
set_option maxHeartbeats 4000000 in
theorem n_X8_52 {d : Nat} {I : HI} {J : HJ} {R0 : HR} {Q : PQ} (hb : frs I J R0 53) (h : ∀ R', sz I J R0 R' 53 55 52 [(52, 1, 54), (52, 0, 53)] → Q none I J R') : am_W (d + 1) M_X8_init [.ref 52] I J R0 Q := ⟨Nat.le_of_ble_eq_true rfl, fun K hK => by
  have z0 := sz_0 52 hb
  refine k_ld hK 0 dX8_init_0 rfl rfl rfl rfl ?_
  refine k_zob hK dX8_init_1 (am_ac in_t1 164 rfl rfl) (by decide) ?_
  refine k_ld hK 0 dX8_init_4 rfl rfl rfl rfl ?_
  refine k_bi hK dX8_init_5 (v := 48) (by decide) ?_
  refine k_zna hK z0 dX8_init_7 (am_ac in_t1 65 rfl rfl) (by decide +kernel) (fun R1 z1 => ?_)
  refine k_zpR hK z1 dX8_init_9 lf_X8_11 rfl (by first | exact Or.inl rfl | exact Or.inr ⟨rfl, rfl⟩) (by decide +kernel) (by decide +kernel) (fun R2 z2 => ?_)
  refine k_ld hK 0 dX8_init_12 rfl rfl rfl rfl ?_
  refine k_bi hK dX8_init_13 (v := 48) (by decide) ?_
  refine k_zna hK z2 dX8_init_15 (am_ac in_t1 65 rfl rfl) (by decide +kernel) (fun R3 z3 => ?_)
  refine k_zpR hK z3 dX8_init_17 lf_X8_15 rfl (by first | exact Or.inl rfl | exact Or.inr ⟨rfl, rfl⟩) (by decide +kernel) (by decide +kernel) (fun R4 z4 => ?_)
  exact k_vret hK dX8_init_20 rfl (sz_done z4 (by decide +kernel)) (h R4 z4)⟩
set_option maxHeartbeats 4000000 in
theorem n_X8_55 {d : Nat} {I : HI} {J : HJ} {R0 : HR} {Q : PQ} (hb : frs I J R0 56) (h : ∀ R', sz I J R0 R' 56 58 55 [(55, 1, 57), (55, 0, 56)] → Q none I J R') : am_W (d + 1) M_X8_init [.ref 55] I J R0 Q := ⟨Nat.le_of_ble_eq_true rfl, fun K hK => by
  have z0 := sz_0 55 hb
  refine k_ld hK 0 dX8_init_0 rfl rfl rfl rfl ?_
  refine k_zob hK dX8_init_1 (am_ac in_t1 164 rfl rfl) (by decide) ?_
  refine k_ld hK 0 dX8_init_4 rfl rfl rfl rfl ?_
  refine k_bi hK dX8_init_5 (v := 48) (by decide) ?_
  refine k_zna hK z0 dX8_init_7 (am_ac in_t1 65 rfl rfl) (by decide +kernel) (fun R1 z1 => ?_)
  refine k_zpR hK z1 dX8_init_9 lf_X8_11 rfl (by first | exact Or.inl rfl | exact Or.inr ⟨rfl, rfl⟩) (by decide +kernel) (by decide +kernel) (fun R2 z2 => ?_)
  refine k_ld hK 0 dX8_init_12 rfl rfl rfl rfl ?_
  refine k_bi hK dX8_init_13 (v := 48) (by decide) ?_
  refine k_zna hK z2 dX8_init_15 (am_ac in_t1 65 rfl rfl) (by decide +kernel) (fun R3 z3 => ?_)
  refine k_zpR hK z3 dX8_init_17 lf_X8_15 rfl (by first | exact Or.inl rfl | exact Or.inr ⟨rfl, rfl⟩) (by decide +kernel) (by decide +kernel) (fun R4 z4 => ?_)
  exact k_vret hK dX8_init_20 rfl (sz_done z4 (by decide +kernel)) (h R4 z4)⟩
set_option maxHeartbeats 4000000 in
theorem n_X9_58 {d : Nat} {I : HI} {J : HJ} {R0 : HR} {Q : PQ} (hb : frs I J R0 59) (h : ∀ R', sz I J R0 R' 59 69 58 [(58, 10, 68), (58, 9, 67), (58, 8, 66), (58, 7, 65), (58, 6, 64), (58, 5, 63), (58, 4, 62), (58, 3, 61), (58, 2, 60), (58, 1, 59)] → Q none I J R') : am_W (d + 1) M_X9_init [.ref 58] I J R0 Q := ⟨Nat.le_of_ble_eq_true rfl, fun K hK => by
  have z0 := sz_0 58 hb
  refine k_ld hK 0 dX9_init_0 rfl rfl rfl rfl ?_
  refine k_zob hK dX9_init_1 (am_ac in_t1 183 rfl rfl) (by decide) ?_
  refine k_ld hK 0 dX9_init_4 rfl rfl rfl rfl ?_
  refine k_si hK dX9_init_5 (v := 400) (by decide) ?_
  refine k_zna hK z0 dX9_init_8 (am_ac in_t1 65 rfl rfl) (by decide +kernel) (fun R1 z1 => ?_)
  refine k_zpR hK z1 dX9_init_10 lf_X9_9 rfl (by first | exact Or.inl rfl | exact Or.inr ⟨rfl, rfl⟩) (by decide +kernel) (by decide +kernel) (fun R2 z2 => ?_)
  refine k_ld hK 0 dX9_init_13 rfl rfl rfl rfl ?_
  refine k_si hK dX9_init_14 (v := 400) (by decide) ?_
  refine k_zna hK z2 dX9_init_17 (am_ac in_t1 65 rfl rfl) (by decide +kernel) (fun R3 z3 => ?_)
  refine k_zpR hK z3 dX9_init_19 lf_X9_15 rfl (by first | exact Or.inl rfl | exact Or.inr ⟨rfl, rfl⟩) (by decide +kernel) (by decide +kernel) (fun R4 z4 => ?_)
  refine k_ld hK 0 dX9_init_22 rfl rfl rfl rfl ?_
  refine k_si hK dX9_init_23 (v := 400) (by decide) ?_
  refine k_zna hK z4 dX9_init_26 (am_ac in_t1 65 rfl rfl) (by decide +kernel) (fun R5 z5 => ?_)
  refine k_zpR hK z5 dX9_init_28 lf_X9_18 rfl (by first | exact Or.inl rfl | exact Or.inr ⟨rfl, rfl⟩) (by decide +kernel) (by decide +kernel) (fun R6 z6 => ?_)
  refine k_ld hK 0 dX9_init_31 rfl rfl rfl rfl ?_
  refine k_si hK dX9_init_32 (v := 400) (by decide) ?_
  refine k_zna hK z6 dX9_init_35 (am_ac in_t1 65 rfl rfl) (by decide +kernel) (fun R7 z7 => ?_)
  refine k_zpR hK z7 dX9_init_37 lf_X9_21 rfl (by first | exact Or.inl rfl | exact Or.inr ⟨rfl, rfl⟩) (by decide +kernel) (by decide +kernel) (fun R8 z8 => ?_)
  refine k_ld hK 0 dX9_init_40 rfl rfl rfl rfl ?_
  refine k_si hK dX9_init_41 (v := 400) (by decide) ?_
  refine k_zna hK z8 dX9_init_44 (am_ac in_t1 65 rfl rfl) (by decide +kernel) (fun R9 z9 => ?_)
  refine k_zpR hK z9 dX9_init_46 lf_X9_24 rfl (by first | exact Or.inl rfl | exact Or.inr ⟨rfl, rfl⟩) (by decide +kernel) (by decide +kernel) (fun R10 z10 => ?_)
  refine k_ld hK 0 dX9_init_49 rfl rfl rfl rfl ?_
  refine k_si hK dX9_init_50 (v := 400) (by decide) ?_
  refine k_zna hK z10 dX9_init_53 (am_ac in_t1 65 rfl rfl) (by decide +kernel) (fun R11 z11 => ?_)
  refine k_zpR hK z11 dX9_init_55 lf_X9_27 rfl (by first | exact Or.inl rfl | exact Or.inr ⟨rfl, rfl⟩) (by decide +kernel) (by decide +kernel) (fun R12 z12 => ?_)
  refine k_ld hK 0 dX9_init_58 rfl rfl rfl rfl ?_
  refine k_si hK dX9_init_59 (v := 400) (by decide) ?_
  refine k_zna hK z12 dX9_init_62 (am_ac in_t1 65 rfl rfl) (by decide +kernel) (fun R13 z13 => ?_)
  refine k_zpR hK z13 dX9_init_64 lf_X9_30 rfl (by first | exact Or.inl rfl | exact Or.inr ⟨rfl, rfl⟩) (by decide +kernel) (by decide +kernel) (fun R14 z14 => ?_)
  refine k_ld hK 0 dX9_init_67 rfl rfl rfl rfl ?_
  refine k_si hK dX9_init_68 (v := 400) (by decide) ?_
  refine k_zna hK z14 dX9_init_71 (am_ac in_t1 65 rfl rfl) (by decide +kernel) (fun R15 z15 => ?_)
  refine k_zpR hK z15 dX9_init_73 lf_X9_33 rfl (by first | exact Or.inl rfl | exact Or.inr ⟨rfl, rfl⟩) (by decide +kernel) (by decide +kernel) (fun R16 z16 => ?_)
  refine k_ld hK 0 dX9_init_76 rfl rfl rfl rfl ?_
  refine k_si hK dX9_init_77 (v := 400) (by decide) ?_
  refine k_zna hK z16 dX9_init_80 (am_ac in_t1 65 rfl rfl) (by decide +kernel) (fun R17 z17 => ?_)
  refine k_zpR hK z17 dX9_init_82 lf_X9_36 rfl (by first | exact Or.inl rfl | exact Or.inr ⟨rfl, rfl⟩) (by decide +kernel) (by decide +kernel) (fun R18 z18 => ?_)
  refine k_ld hK 0 dX9_init_85 rfl rfl rfl rfl ?_
  refine k_si hK dX9_init_86 (v := 400) (by decide) ?_
  refine k_zna hK z18 dX9_init_89 (am_ac in_t1 236 rfl rfl) (by decide +kernel) (fun R19 z19 => ?_)
  refine k_zpR hK z19 dX9_init_91 lf_X9_39 rfl (by first | exact Or.inl rfl | exact Or.inr ⟨rfl, rfl⟩) (by decide +kernel) (by decide +kernel) (fun R20 z20 => ?_)
  exact k_vret hK dX9_init_94 rfl (sz_done z20 (by decide +kernel)) (h R20 z20)⟩
set_option maxHeartbeats 4000000 in
theorem n_X0_69 {d : Nat} {I : HI} {J : HJ} {R0 : HR} {Q : PQ} (hb : frs I J R0 70) (h : ∀ R', sz I J R0 R' 70 71 69 [(69, 0, 70)] → Q none I J R') : am_W (d + 1) M_X0_init [.ref 69] I J R0 Q := ⟨Nat.le_of_ble_eq_true rfl, fun K hK => by
  have z0 := sz_0 69 hb
  refine k_ld hK 0 dX0_init_0 rfl rfl rfl rfl ?_
  refine k_zob hK dX0_init_1 (am_ac in_t2 2 rfl rfl) (by decide) ?_
  refine k_ld hK 0 dX0_init_4 rfl rfl rfl rfl ?_
  refine k_bi hK dX0_init_5 (v := 32) (by decide) ?_
  refine k_zna hK z0 dX0_init_7 (am_ac in_t1 65 rfl rfl) (by decide +kernel) (fun R1 z1 => ?_)
  refine k_zpR hK z1 dX0_init_9 lf_X0_11 rfl (by first | exact Or.inl rfl | exact Or.inr ⟨rfl, rfl⟩) (by decide +kernel) (by decide +kernel) (fun R2 z2 => ?_)
  exact k_vret hK dX0_init_12 rfl (sz_done z2 (by decide +kernel)) (h R2 z2)⟩
set_option maxHeartbeats 4000000 in
theorem n_X1_45 {d : Nat} {I : HI} {J : HJ} {R0 : HR} {Q : PQ} (hb : frs I J R0 46) (h : ∀ R', sz I J R0 R' 46 72 45 [(45, 7, 71), (45, 6, 69), (69, 0, 70), (45, 5, 58), (58, 10, 68), (58, 9, 67), (58, 8, 66), (58, 7, 65), (58, 6, 64), (58, 5, 63), (58, 4, 62), (58, 3, 61), (58, 2, 60), (58, 1, 59), (45, 4, 55), (55, 1, 57), (55, 0, 56), (45, 3, 52), (52, 1, 54), (52, 0, 53), (45, 2, 49), (49, 1, 51), (49, 0, 50), (45, 1, 46), (46, 1, 48), (46, 0, 47)] → Q none I J R') : am_W (d + 2) M_X1_init [.ref 45] I J R0 Q := ⟨Nat.le_of_ble_eq_true rfl, fun K hK => by
  have z0 := sz_0 45 hb
  refine k_ld hK 0 dX1_init_0 rfl rfl rfl rfl ?_
  refine k_zob hK dX1_init_1 (am_ac in_t1 158 rfl rfl) (by decide) ?_
  refine k_ld hK 0 dX1_init_4 rfl rfl rfl rfl ?_
  refine k_znew hK z0 (k := 7) dX1_init_5 rfl (am_ac in_t1 159 rfl rfl) (am_ac in_t1 160 rfl rfl) (am_ac in_t1 6 rfl rfl) (by decide +kernel) (fun R1 z1 => ?_)
  refine k_op hK dX1_init_8 rfl rfl ?_
  refine k_zci (As := []) (a := 46) hK dX1_init_9 lm_X1_11 rfl (by decide) (sz_fit z1 (by decide +kernel)) rfl (n_X8_46 z1.2.1 (fun R2 y2 => ?_))
  have z2 := sz_tr z1 y2 (by decide +kernel)
  clear y2
  refine k_zpR hK z2 dX1_init_12 lf_X1_12 rfl (by first | exact Or.inl rfl | exact Or.inr ⟨rfl, rfl⟩) (by decide +kernel) (by decide +kernel) (fun R3 z3 => ?_)
  refine k_ld hK 0 dX1_init_15 rfl rfl rfl rfl ?_
  refine k_znew hK z3 (k := 7) dX1_init_16 rfl (am_ac in_t1 159 rfl rfl) (am_ac in_t1 160 rfl rfl) (am_ac in_t1 6 rfl rfl) (by decide +kernel) (fun R4 z4 => ?_)
  refine k_op hK dX1_init_19 rfl rfl ?_
  refine k_zci (As := []) (a := 49) hK dX1_init_20 lm_X1_11 rfl (by decide) (sz_fit z4 (by decide +kernel)) rfl (n_X8_49 z4.2.1 (fun R5 y5 => ?_))
  have z5 := sz_tr z4 y5 (by decide +kernel)
  clear y5
  refine k_zpR hK z5 dX1_init_23 lf_X1_18 rfl (by first | exact Or.inl rfl | exact Or.inr ⟨rfl, rfl⟩) (by decide +kernel) (by decide +kernel) (fun R6 z6 => ?_)
  refine k_ld hK 0 dX1_init_26 rfl rfl rfl rfl ?_
  refine k_znew hK z6 (k := 7) dX1_init_27 rfl (am_ac in_t1 159 rfl rfl) (am_ac in_t1 160 rfl rfl) (am_ac in_t1 6 rfl rfl) (by decide +kernel) (fun R7 z7 => ?_)
  refine k_op hK dX1_init_30 rfl rfl ?_
  refine k_zci (As := []) (a := 52) hK dX1_init_31 lm_X1_11 rfl (by decide) (sz_fit z7 (by decide +kernel)) rfl (n_X8_52 z7.2.1 (fun R8 y8 => ?_))
  have z8 := sz_tr z7 y8 (by decide +kernel)
  clear y8
  refine k_zpR hK z8 dX1_init_34 lf_X1_21 rfl (by first | exact Or.inl rfl | exact Or.inr ⟨rfl, rfl⟩) (by decide +kernel) (by decide +kernel) (fun R9 z9 => ?_)
  refine k_ld hK 0 dX1_init_37 rfl rfl rfl rfl ?_
  refine k_znew hK z9 (k := 7) dX1_init_38 rfl (am_ac in_t1 159 rfl rfl) (am_ac in_t1 160 rfl rfl) (am_ac in_t1 6 rfl rfl) (by decide +kernel) (fun R10 z10 => ?_)
  refine k_op hK dX1_init_41 rfl rfl ?_
  refine k_zci (As := []) (a := 55) hK dX1_init_42 lm_X1_11 rfl (by decide) (sz_fit z10 (by decide +kernel)) rfl (n_X8_55 z10.2.1 (fun R11 y11 => ?_))
  have z11 := sz_tr z10 y11 (by decide +kernel)
  clear y11
  refine k_zpR hK z11 dX1_init_45 lf_X1_24 rfl (by first | exact Or.inl rfl | exact Or.inr ⟨rfl, rfl⟩) (by decide +kernel) (by decide +kernel) (fun R12 z12 => ?_)
  refine k_ld hK 0 dX1_init_48 rfl rfl rfl rfl ?_
  refine k_znew hK z12 (k := 8) dX1_init_49 rfl (am_ac in_t1 178 rfl rfl) (am_ac in_t1 179 rfl rfl) (am_ac in_t1 7 rfl rfl) (by decide +kernel) (fun R13 z13 => ?_)
  refine k_op hK dX1_init_52 rfl rfl ?_
  refine k_zci (As := []) (a := 58) hK dX1_init_53 lm_X1_29 rfl (by decide) (sz_fit z13 (by decide +kernel)) rfl (n_X9_58 z13.2.1 (fun R14 y14 => ?_))
  have z14 := sz_tr z13 y14 (by decide +kernel)
  clear y14
  refine k_zpR hK z14 dX1_init_56 lf_X1_30 rfl (by first | exact Or.inl rfl | exact Or.inr ⟨rfl, rfl⟩) (by decide +kernel) (by decide +kernel) (fun R15 z15 => ?_)
  refine k_ld hK 0 dX1_init_59 rfl rfl rfl rfl ?_
  refine k_znew hK z15 (k := 0) dX1_init_60 rfl (am_ac in_t1 237 rfl rfl) (am_ac in_t1 238 rfl rfl) (am_ac in_t1 8 rfl rfl) (by decide +kernel) (fun R16 z16 => ?_)
  refine k_op hK dX1_init_63 rfl rfl ?_
  refine k_zci (As := []) (a := 69) hK dX1_init_64 lm_X1_36 rfl (by decide) (sz_fit z16 (by decide +kernel)) rfl (n_X0_69 z16.2.1 (fun R17 y17 => ?_))
  have z17 := sz_tr z16 y17 (by decide +kernel)
  clear y17
  refine k_zpR hK z17 dX1_init_67 lf_X1_37 rfl (by first | exact Or.inl rfl | exact Or.inr ⟨rfl, rfl⟩) (by decide +kernel) (by decide +kernel) (fun R18 z18 => ?_)
  refine k_ld hK 0 dX1_init_70 rfl rfl rfl rfl ?_
  refine k_ic hK dX1_init_71 (v := 4) (by decide) ?_
  refine k_zna hK z18 dX1_init_72 (am_ac in_t1 65 rfl rfl) (by decide +kernel) (fun R19 z19 => ?_)
  refine k_zpR hK z19 dX1_init_74 lf_X1_41 rfl (by first | exact Or.inl rfl | exact Or.inr ⟨rfl, rfl⟩) (by decide +kernel) (by decide +kernel) (fun R20 z20 => ?_)
  exact k_vret hK dX1_init_77 rfl (sz_done z20 (by decide +kernel)) (h R20 z20)⟩
set_option maxHeartbeats 4000000 in
theorem n_X7_72 {d : Nat} {I : HI} {J : HJ} {R0 : HR} {Q : PQ} (hb : frs I J R0 73) (h : ∀ R', sz I J R0 R' 73 76 72 [(72, 2, 75), (72, 1, 74), (72, 0, 73)] → Q none I J R') : am_W (d + 1) M_X7_init [.ref 72] I J R0 Q := ⟨Nat.le_of_ble_eq_true rfl, fun K hK => by
  have z0 := sz_0 72 hb
  refine k_ld hK 0 dX7_init_0 rfl rfl rfl rfl ?_
  refine k_zob hK dX7_init_1 (am_ac in_t2 65 rfl rfl) (by decide) ?_
  refine k_ld hK 0 dX7_init_4 rfl rfl rfl rfl ?_
  refine k_si hK dX7_init_5 (v := 400) (by decide) ?_
  refine k_zna hK z0 dX7_init_8 (am_ac in_t1 65 rfl rfl) (by decide +kernel) (fun R1 z1 => ?_)
  refine k_zpR hK z1 dX7_init_10 lf_X7_9 rfl (by first | exact Or.inl rfl | exact Or.inr ⟨rfl, rfl⟩) (by decide +kernel) (by decide +kernel) (fun R2 z2 => ?_)
  refine k_ld hK 0 dX7_init_13 rfl rfl rfl rfl ?_
  refine k_si hK dX7_init_14 (v := 400) (by decide) ?_
  refine k_zna hK z2 dX7_init_17 (am_ac in_t1 65 rfl rfl) (by decide +kernel) (fun R3 z3 => ?_)
  refine k_zpR hK z3 dX7_init_19 lf_X7_15 rfl (by first | exact Or.inl rfl | exact Or.inr ⟨rfl, rfl⟩) (by decide +kernel) (by decide +kernel) (fun R4 z4 => ?_)
  refine k_ld hK 0 dX7_init_22 rfl rfl rfl rfl ?_
  refine k_si hK dX7_init_23 (v := 400) (by decide) ?_
  refine k_zna hK z4 dX7_init_26 (am_ac in_t1 65 rfl rfl) (by decide +kernel) (fun R5 z5 => ?_)
  refine k_zpR hK z5 dX7_init_28 lf_X7_18 rfl (by first | exact Or.inl rfl | exact Or.inr ⟨rfl, rfl⟩) (by decide +kernel) (by decide +kernel) (fun R6 z6 => ?_)
  exact k_vret hK dX7_init_31 rfl (sz_done z6 (by decide +kernel)) (h R6 z6)⟩
set_option maxHeartbeats 4000000 in
theorem n_X2_76 {d : Nat} {I : HI} {J : HJ} {R0 : HR} {Q : PQ} (hb : frs I J R0 77) (h : ∀ R', sz I J R0 R' 77 78 76 [(76, 0, 77)] → Q none I J R') : am_W (d + 1) M_X2_init [.ref 76] I J R0 Q := ⟨Nat.le_of_ble_eq_true rfl, fun K hK => by
  have z0 := sz_0 76 hb
  refine k_ld hK 0 dX2_init_0 rfl rfl rfl rfl ?_
  refine k_zob hK dX2_init_1 (am_ac in_t2 81 rfl rfl) (by decide) ?_
  refine k_ld hK 0 dX2_init_4 rfl rfl rfl rfl ?_
  refine k_bi hK dX2_init_5 (v := 80) (by decide) ?_
  refine k_zna hK z0 dX2_init_7 (am_ac in_t1 65 rfl rfl) (by decide +kernel) (fun R1 z1 => ?_)
  refine k_zpR hK z1 dX2_init_9 lf_X2_9 rfl (by first | exact Or.inl rfl | exact Or.inr ⟨rfl, rfl⟩) (by decide +kernel) (by decide +kernel) (fun R2 z2 => ?_)
  exact k_vret hK dX2_init_12 rfl (sz_done z2 (by decide +kernel)) (h R2 z2)⟩
set_option maxHeartbeats 4000000 in
theorem n_X10_78 {d : Nat} {I : HI} {J : HJ} {R0 : HR} {Q : PQ} (hb : frs I J R0 79) (h : ∀ R', sz I J R0 R' 79 79 78 [] → Q none I J R') : am_W (d + 1) M_X10_init [.ref 78] I J R0 Q := ⟨Nat.le_of_ble_eq_true rfl, fun K hK => by
  have z0 := sz_0 78 hb
  refine k_ld hK 0 dX10_init_0 rfl rfl rfl rfl ?_
  refine k_zob hK dX10_init_1 (am_ac in_t2 99 rfl rfl) (by decide) ?_
  exact k_vret hK dX10_init_4 rfl (sz_done z0 (by decide +kernel)) (h R0 z0)⟩
set_option maxHeartbeats 4000000 in
theorem n_X11_0 {d : Nat} {I : HI} {J : HJ} {R0 : HR} {Q : PQ} (hb : frs I J R0 1) (h : ∀ R', sz (up I 0 4 (-1)) J R0 R' 1 80 0 [(0, 14, 79), (0, 13, 78), (0, 12, 76), (76, 0, 77), (0, 11, 72), (72, 2, 75), (72, 1, 74), (72, 0, 73), (0, 10, 45), (45, 7, 71), (45, 6, 69), (69, 0, 70), (45, 5, 58), (58, 10, 68), (58, 9, 67), (58, 8, 66), (58, 7, 65), (58, 6, 64), (58, 5, 63), (58, 4, 62), (58, 3, 61), (58, 2, 60), (58, 1, 59), (45, 4, 55), (55, 1, 57), (55, 0, 56), (45, 3, 52), (52, 1, 54), (52, 0, 53), (45, 2, 49), (49, 1, 51), (49, 0, 50), (45, 1, 46), (46, 1, 48), (46, 0, 47), (0, 9, 44), (0, 8, 17), (17, 7, 43), (17, 6, 41), (41, 0, 42), (17, 5, 30), (30, 10, 40), (30, 9, 39), (30, 8, 38), (30, 7, 37), (30, 6, 36), (30, 5, 35), (30, 4, 34), (30, 3, 33), (30, 2, 32), (30, 1, 31), (17, 4, 27), (27, 1, 29), (27, 0, 28), (17, 3, 24), (24, 1, 26), (24, 0, 25), (17, 2, 21), (21, 1, 23), (21, 0, 22), (17, 1, 18), (18, 1, 20), (18, 0, 19), (0, 7, 16), (0, 6, 12), (12, 8, 15), (12, 7, 14), (12, 0, 13), (0, 5, 8), (8, 8, 11), (8, 7, 10), (8, 0, 9), (0, 2, 2), (2, 0, 7), (7, 0, 1), (2, 5, 6), (2, 4, 5), (2, 3, 4), (2, 2, 3), (0, 0, 1)] → Q none (up I 0 4 (-1)) J R') : am_W (d + 3) M_X11_init [.ref 0] I J R0 Q := ⟨Nat.le_of_ble_eq_true rfl, fun K hK => by
  have z0 := sz_0 0 hb
  refine k_ld hK 0 dX11_init_0 rfl rfl rfl rfl ?_
  refine k_zob hK dX11_init_1 (am_ac in_t1 27 rfl rfl) (by decide) ?_
  refine k_ld hK 0 dX11_init_4 rfl rfl rfl rfl ?_
  refine k_si hK dX11_init_5 (v := 900) (by decide) ?_
  refine k_zna hK z0 dX11_init_8 (am_ac in_t1 64 rfl rfl) (by decide +kernel) (fun R1 z1 => ?_)
  refine k_zpR hK z1 dX11_init_10 lf_X11_9 rfl (by first | exact Or.inl rfl | exact Or.inr ⟨rfl, rfl⟩) (by decide +kernel) (by decide +kernel) (fun R2 z2 => ?_)
  refine k_ld hK 0 dX11_init_13 rfl rfl rfl rfl ?_
  refine k_znew hK z2 (k := 3) dX11_init_14 rfl (am_ac in_t1 30 rfl rfl) (am_ac in_t1 31 rfl rfl) (am_ac in_t1 2 rfl rfl) (by decide +kernel) (fun R3 z3 => ?_)
  refine k_op hK dX11_init_17 rfl rfl ?_
  refine k_ld hK 0 dX11_init_18 rfl rfl rfl rfl ?_
  refine k_gR hK dX11_init_19 lf_X11_9 rfl (sz_is z3 (by decide +kernel)) (sz_get z3 (v := 1) (by decide +kernel)) ?_
  refine k_zci (As := [.ref 1]) (a := 2) hK dX11_init_22 lm_X11_15 rfl (by decide) (sz_fit z3 (by decide +kernel)) rfl (n_X4_2 z3.2.1 (fun R4 y4 => ?_))
  have z4 := sz_tr z3 y4 (by decide +kernel)
  clear y4
  refine k_zpR hK z4 dX11_init_25 lf_X11_18 rfl (by first | exact Or.inl rfl | exact Or.inr ⟨rfl, rfl⟩) (by decide +kernel) (by decide +kernel) (fun R5 z5 => ?_)
  refine k_ld hK 0 dX11_init_28 rfl rfl rfl rfl ?_
  refine k_ic hK dX11_init_29 (v := (-1)) (by decide) ?_
  refine k_pI hK dX11_init_30 lf_X11_22 rfl rfl rfl (sz_is z5 (by decide +kernel)) ?_
  have z6 := sz_I (a := 0) (k := 4) (x := (-1)) z5 (by omega)
  refine k_ld hK 0 dX11_init_33 rfl rfl rfl rfl ?_
  refine k_znew hK z6 (k := 4) dX11_init_34 rfl (am_ac in_t1 99 rfl rfl) (am_ac in_t1 100 rfl rfl) (am_ac in_t1 4 rfl rfl) (by decide +kernel) (fun R7 z7 => ?_)
  refine k_op hK dX11_init_37 rfl rfl ?_
  refine k_zci (As := []) (a := 8) hK dX11_init_38 lm_X11_28 rfl (by decide) (sz_fit z7 (by decide +kernel)) rfl (n_X5_8 z7.2.1 (fun R8 y8 => ?_))
  have z8 := sz_tr z7 y8 (by decide +kernel)
  clear y8
  refine k_zpR hK z8 dX11_init_41 lf_X11_29 rfl (by first | exact Or.inl rfl | exact Or.inr ⟨rfl, rfl⟩) (by decide +kernel) (by decide +kernel) (fun R9 z9 => ?_)
  refine k_ld hK 0 dX11_init_44 rfl rfl rfl rfl ?_
  refine k_znew hK z9 (k := 4) dX11_init_45 rfl (am_ac in_t1 99 rfl rfl) (am_ac in_t1 100 rfl rfl) (am_ac in_t1 4 rfl rfl) (by decide +kernel) (fun R10 z10 => ?_)
  refine k_op hK dX11_init_48 rfl rfl ?_
  refine k_zci (As := []) (a := 12) hK dX11_init_49 lm_X11_28 rfl (by decide) (sz_fit z10 (by decide +kernel)) rfl (n_X5_12 z10.2.1 (fun R11 y11 => ?_))
  have z11 := sz_tr z10 y11 (by decide +kernel)
  clear y11
  refine k_zpR hK z11 dX11_init_52 lf_X11_33 rfl (by first | exact Or.inl rfl | exact Or.inr ⟨rfl, rfl⟩) (by decide +kernel) (by decide +kernel) (fun R12 z12 => ?_)
  refine k_ld hK 0 dX11_init_55 rfl rfl rfl rfl ?_
  refine k_ic hK dX11_init_56 (v := 4) (by decide) ?_
  refine k_zna hK z12 dX11_init_57 (am_ac in_t1 65 rfl rfl) (by decide +kernel) (fun R13 z13 => ?_)
  refine k_zpR hK z13 dX11_init_59 lf_X11_36 rfl (by first | exact Or.inl rfl | exact Or.inr ⟨rfl, rfl⟩) (by decide +kernel) (by decide +kernel) (fun R14 z14 => ?_)
  refine k_ld hK 0 dX11_init_62 rfl rfl rfl rfl ?_
  refine k_znew hK z14 (k := 1) dX11_init_63 rfl (am_ac in_t1 153 rfl rfl) (am_ac in_t1 154 rfl rfl) (am_ac in_t1 5 rfl rfl) (by decide +kernel) (fun R15 z15 => ?_)
  refine k_op hK dX11_init_66 rfl rfl ?_
  refine k_zci (As := []) (a := 17) hK dX11_init_67 lm_X11_42 rfl (by decide) (sz_fit z15 (by decide +kernel)) rfl (n_X1_17 z15.2.1 (fun R16 y16 => ?_))
  have z16 := sz_tr z15 y16 (by decide +kernel)
  clear y16
  refine k_zpR hK z16 dX11_init_70 lf_X11_43 rfl (by first | exact Or.inl rfl | exact Or.inr ⟨rfl, rfl⟩) (by decide +kernel) (by decide +kernel) (fun R17 z17 => ?_)
  refine k_ld hK 0 dX11_init_73 rfl rfl rfl rfl ?_
  refine k_ic hK dX11_init_74 (v := 4) (by decide) ?_
  refine k_zna hK z17 dX11_init_75 (am_ac in_t1 65 rfl rfl) (by decide +kernel) (fun R18 z18 => ?_)
  refine k_zpR hK z18 dX11_init_77 lf_X11_47 rfl (by first | exact Or.inl rfl | exact Or.inr ⟨rfl, rfl⟩) (by decide +kernel) (by decide +kernel) (fun R19 z19 => ?_)
  refine k_ld hK 0 dX11_init_80 rfl rfl rfl rfl ?_
  refine k_znew hK z19 (k := 1) dX11_init_81 rfl (am_ac in_t1 153 rfl rfl) (am_ac in_t1 154 rfl rfl) (am_ac in_t1 5 rfl rfl) (by decide +kernel) (fun R20 z20 => ?_)
  refine k_op hK dX11_init_84 rfl rfl ?_
  refine k_zci (As := []) (a := 45) hK dX11_init_85 lm_X11_42 rfl (by decide) (sz_fit z20 (by decide +kernel)) rfl (n_X1_45 z20.2.1 (fun R21 y21 => ?_))
  have z21 := sz_tr z20 y21 (by decide +kernel)
  clear y21
  refine k_zpR hK z21 dX11_init_88 lf_X11_50 rfl (by first | exact Or.inl rfl | exact Or.inr ⟨rfl, rfl⟩) (by decide +kernel) (by decide +kernel) (fun R22 z22 => ?_)
  refine k_ld hK 0 dX11_init_91 rfl rfl rfl rfl ?_
  refine k_znew hK z22 (k := 6) dX11_init_92 rfl (am_ac in_t2 60 rfl rfl) (am_ac in_t2 61 rfl rfl) (am_ac in_t1 9 rfl rfl) (by decide +kernel) (fun R23 z23 => ?_)
  refine k_op hK dX11_init_95 rfl rfl ?_
  refine k_zci (As := []) (a := 72) hK dX11_init_96 lm_X11_55 rfl (by decide) (sz_fit z23 (by decide +kernel)) rfl (n_X7_72 z23.2.1 (fun R24 y24 => ?_))
  have z24 := sz_tr z23 y24 (by decide +kernel)
  clear y24
  refine k_zpR hK z24 dX11_init_99 lf_X11_56 rfl (by first | exact Or.inl rfl | exact Or.inr ⟨rfl, rfl⟩) (by decide +kernel) (by decide +kernel) (fun R25 z25 => ?_)
  refine k_ld hK 0 dX11_init_102 rfl rfl rfl rfl ?_
  refine k_znew hK z25 (k := 2) dX11_init_103 rfl (am_ac in_t2 76 rfl rfl) (am_ac in_t2 77 rfl rfl) (am_ac in_t1 10 rfl rfl) (by decide +kernel) (fun R26 z26 => ?_)
  refine k_op hK dX11_init_106 rfl rfl ?_
  refine k_zci (As := []) (a := 76) hK dX11_init_107 lm_X11_62 rfl (by decide) (sz_fit z26 (by decide +kernel)) rfl (n_X2_76 z26.2.1 (fun R27 y27 => ?_))
  have z27 := sz_tr z26 y27 (by decide +kernel)
  clear y27
  refine k_zpR hK z27 dX11_init_110 lf_X11_63 rfl (by first | exact Or.inl rfl | exact Or.inr ⟨rfl, rfl⟩) (by decide +kernel) (by decide +kernel) (fun R28 z28 => ?_)
  refine k_ld hK 0 dX11_init_113 rfl rfl rfl rfl ?_
  refine k_znew hK z28 (k := 9) dX11_init_114 rfl (am_ac in_t2 94 rfl rfl) (am_ac in_t2 95 rfl rfl) (am_ac in_t1 11 rfl rfl) (by decide +kernel) (fun R29 z29 => ?_)
  refine k_op hK dX11_init_117 rfl rfl ?_
  refine k_zci (As := []) (a := 78) hK dX11_init_118 lm_X11_69 rfl (by decide) (sz_fit z29 (by decide +kernel)) rfl (n_X10_78 z29.2.1 (fun R30 y30 => ?_))
  have z30 := sz_tr z29 y30 (by decide +kernel)
  clear y30
  refine k_zpR hK z30 dX11_init_121 lf_X11_70 rfl (by first | exact Or.inl rfl | exact Or.inr ⟨rfl, rfl⟩) (by decide +kernel) (by decide +kernel) (fun R31 z31 => ?_)
  refine k_ld hK 0 dX11_init_124 rfl rfl rfl rfl ?_
  refine k_bi hK dX11_init_125 (v := 11) (by decide) ?_
  refine k_zna hK z31 dX11_init_127 (am_ac in_t1 65 rfl rfl) (by decide +kernel) (fun R32 z32 => ?_)
  refine k_zpR hK z32 dX11_init_129 lf_X11_74 rfl (by first | exact Or.inl rfl | exact Or.inr ⟨rfl, rfl⟩) (by decide +kernel) (by decide +kernel) (fun R33 z33 => ?_)
  exact k_vret hK dX11_init_132 rfl (sz_done z33 (by decide +kernel)) (h R33 z33)⟩
