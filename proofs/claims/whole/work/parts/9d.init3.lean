def tl11 : List (Nat × Nat × Nat) := [(0, 14, 79), (0, 13, 78), (0, 12, 76), (76, 0, 77), (0, 11, 72), (72, 2, 75), (72, 1, 74), (72, 0, 73), (0, 10, 45), (45, 7, 71), (45, 6, 69), (69, 0, 70), (45, 5, 58), (58, 10, 68), (58, 9, 67), (58, 8, 66), (58, 7, 65), (58, 6, 64), (58, 5, 63), (58, 4, 62), (58, 3, 61), (58, 2, 60), (58, 1, 59), (45, 4, 55), (55, 1, 57), (55, 0, 56), (45, 3, 52), (52, 1, 54), (52, 0, 53), (45, 2, 49), (49, 1, 51), (49, 0, 50), (45, 1, 46), (46, 1, 48), (46, 0, 47), (0, 9, 44), (0, 8, 17), (17, 7, 43), (17, 6, 41), (41, 0, 42), (17, 5, 30), (30, 10, 40), (30, 9, 39), (30, 8, 38), (30, 7, 37), (30, 6, 36), (30, 5, 35), (30, 4, 34), (30, 3, 33), (30, 2, 32), (30, 1, 31), (17, 4, 27), (27, 1, 29), (27, 0, 28), (17, 3, 24), (24, 1, 26), (24, 0, 25), (17, 2, 21), (21, 1, 23), (21, 0, 22), (17, 1, 18), (18, 1, 20), (18, 0, 19), (0, 7, 16), (0, 6, 12), (12, 8, 15), (12, 7, 14), (12, 0, 13), (0, 5, 8), (8, 8, 11), (8, 7, 10), (8, 0, 9), (0, 2, 2), (2, 0, 7), (7, 0, 1), (2, 5, 6), (2, 4, 5), (2, 3, 4), (2, 2, 3), (0, 0, 1)]
/-- the empty program -/
def G0 : SP := fun _ _ => 0
def z0 : Nat → Nat := fun _ => 0
theorem run_G0 : theRun G0 z0 = startT G0 z0 := rfl
theorem sz_sta {I : HI} {J : HJ} {R0 R : HR} {n0 : Nat} {T : List (Nat × Nat × Nat)} (hz : sz I J R0 R n0 121 80 T) (h0 : hld R0 tl11) (hc : stab.all (fun q => T.contains q || (tl11.contains q && decide (q.1 < 80))) = true) : Sta1 R := by
  refine ⟨hz.2.1.1, List.all_eq_true.mpr fun q hq => ?_⟩
  have h1 := List.all_eq_true.mp hc q hq
  rw [decide_eq_true_eq]
  simp only [Bool.or_eq_true, Bool.and_eq_true, decide_eq_true_eq] at h1
  rcases h1 with h1 | ⟨h1, h2⟩
  · exact hz.2.2.2 q (by simpa using h1)
  · rw [hz.2.2.1 _ _ h2]
    exact h0 q (by simpa using h1)
/-- what begins() leaves of the empty program -/
def nbQ (I : HI) (J : HJ) (I' : HI) (J' : HJ) : Prop := pM I' G0 ∧ qM I' J' (startT G0 z0) [] ∧ stM I' (startT G0 z0) ∧ (∀ j, j < 4 → J' 91 j = lN 0) ∧ (∀ a, ¬ a = 80 → (a < 92 ∨ 108 < a) → I' a = I a) ∧ (∀ k, (k < 30 ∨ 61 < k) → I' 80 k = I 80 k) ∧ (∀ a, (a < 91 ∨ 108 < a) → J' a = J a)
def fTx (I : HI) : HI := up (up (up (up (up (up (up (up I 80 3 0) 80 14 0) 80 15 0) 80 19 0) 80 20 0) 80 24 0) 80 27 0) 80 28 0
theorem n_runs {d : Nat} {I : HI} {J : HJ} {R : HR} {Q : Unit → HI → HJ → Prop} (hs : Sta1 R) (h35 : I 80 35 = 0) (h31 : I 80 31 = 0) (h : ∀ I' J', qM I' J' (startT G0 z0) [] → stM I' (startT G0 z0) → frR I I' J J' → Q () I' J') : Wd fv (d + 2) M_X12_runs [.ref 80] I J R Q := by
  refine ⟨Nat.le_of_ble_eq_true rfl, fun K hK => ng_X12_runs_0 hK hs ?_⟩
  refine n_clears (G := G0) (inp := z0) hs (by decide) h31 (fun j hj => absurd hj (Nat.not_lt_zero j)) (fun I' J' g1 g2 g3 => ?_)
  refine ng_X12_runs_6 hK hs ⟨fun _ => h I' J' g1 g2 g3, fun z => absurd ?_ z⟩
  rw [g3.2.1 35 (by decide), h35]
  decide
theorem n_begins {d : Nat} {I : HI} {J : HJ} {R : HR} {Q : Unit → HI → HJ → Prop} (hs : Sta1 R) (hz : ∀ k, (k = 3 ∨ k = 14 ∨ k = 15 ∨ k = 19 ∨ k = 20 ∨ k = 24) → I 80 k = 0) (h : ∀ I' J', pM I' G0 → qM I' J' (startT G0 z0) [] → stM I' (startT G0 z0) → (∀ j, j < 4 → J' 91 j = lN 0) → (∀ a, ¬ a = 80 → (a < 92 ∨ 108 < a) → I' a = I a) → (∀ k, (k < 30 ∨ 61 < k) → I' 80 k = I 80 k) → (∀ a, (a < 91 ∨ 108 < a) → J' a = J a) → Q () I' J') : Wd fv (d + 3) M_X12_begins [.ref 80] I J R Q := by
  refine ⟨Nat.le_of_ble_eq_true rfl, fun K hK => ng_X12_begins_0 hK hs ?_⟩
  generalize hI1 : up (up (up (up (up (up I 80 30 (I 80 3)) 80 31 (I 80 15)) 80 32 (I 80 14)) 80 33 (I 80 19)) 80 34 (I 80 20)) 80 35 (I 80 24) = I1
  have e : I1 80 30 = 0 ∧ I1 80 31 = 0 ∧ I1 80 32 = 0 ∧ I1 80 33 = 0 ∧ I1 80 34 = 0 ∧ I1 80 35 = 0 := by
    subst hI1
    exact ⟨hz 3 (by simp), hz 15 (by simp), hz 14 (by simp), hz 19 (by simp), hz 20 (by simp), hz 24 (by simp)⟩
  have fa : ∀ a, ¬ a = 80 → I1 a = I a := fun a ha => by subst hI1; rw [up_ne _ _ _ _ ha, up_ne _ _ _ _ ha, up_ne _ _ _ _ ha, up_ne _ _ _ _ ha, up_ne _ _ _ _ ha, up_ne _ _ _ _ ha]
  have fk : ∀ k, (k < 30 ∨ 35 < k) → I1 80 k = I 80 k := fun k hk => by subst hI1; rw [up_nk (by omega), up_nk (by omega), up_nk (by omega), up_nk (by omega), up_nk (by omega), up_nk (by omega)]
  have hp : pM I1 G0 := ⟨e.2.2.2.2.2, e.1, e.2.1, e.2.2.1, e.2.2.2.1, e.2.2.2.2.1, fun i hi => absurd hi (Nat.not_lt_zero i), fun i hi => absurd hi (Nat.not_lt_zero i)⟩
  have run : ∀ (m i : Nat) (J1 : HJ), i + m = 4 → (∀ j, j < i → J1 91 j = lN 0) → (∀ a, ¬ a = 91 → J1 a = J a) → K 160 [(0, .ref 80), (1, .int (nI i))] [] I1 J1 R := by
    intro m
    induction m with
    | zero =>
      intro i J1 hi k2 k5
      have : i = 4 := by omega
      subst this
      refine ng_X12_begins_160 hK hs ⟨fun _ => ?_, fun z => absurd (by decide) z⟩
      refine n_runs hs e.2.2.2.2.2 e.2.1 (fun I' J' g1 g2 g3 => ?_)
      refine h I' J' (pM_fr g3 hp) g1 g2 (fun j hj => by rw [g3.2.2 91 (by decide)]; exact k2 j hj) (fun a a1 a2 => (g3.1 a a1 (by omega)).trans (fa a a1)) (fun k hk => (g3.2.1 k (by omega)).trans (fk k (by omega))) (fun a ha => (g3.2.2 a (by omega)).trans (k5 a (by omega)))
    | succ m ih =>
      intro i J1 hi k2 k5
      refine ng_X12_begins_160 hK hs ⟨fun z => absurd z (nI_ge (b := 4) (by omega) (by decide)), fun _ => ⟨i, rfl, by omega, ?_⟩⟩
      rw [nI_1]
      refine ih (i + 1) _ (by omega) (fun j hj => ?_) (fun a ha => (up_ne _ _ _ _ ha).trans (k5 a ha))
      by_cases hji : j = i
      · rw [hji, up_s]; rfl
      · rw [up_nk hji]; exact k2 j (by omega)
  refine ng_X12_begins_50 hK hs ⟨fun _ => ?_, fun z => absurd ?_ z⟩
  · refine ng_X12_begins_114 hK hs ⟨fun _ => run 4 0 J rfl (fun j hj => absurd hj (by omega)) (fun _ _ => rfl), fun z => absurd ?_ z⟩
    rw [fk 19 (by decide), hz 19 (by simp)]
    decide
  · rw [fk 24 (by decide), hz 24 (by simp)]
    decide
set_option maxHeartbeats 8000000 in
theorem n_X12_80 {d : Nat} {I : HI} {J : HJ} {R0 : HR} {Q : PQ} (hb : frs I J R0 81) (h0 : hld R0 tl11) (h : ∀ I' J' R', Sta1 R' → frs (up I 80 12 (-1)) J R' 121 → (∀ a j, a < 80 → R' a j = R0 a j) → nbQ (fTx (up I 80 12 (-1))) J I' J' → Q none I' J' R') : am_W (d + 4) M_X12_init [.ref 80] I J R0 Q := ⟨Nat.le_of_ble_eq_true rfl, fun K hK => by
  have fT_0 : ∀ k, (k = 3 ∨ k = 14 ∨ k = 15 ∨ k = 19 ∨ k = 20 ∨ k = 24) → fTx (up I 80 12 (-1)) 80 k = 0 := by rintro k (rfl | rfl | rfl | rfl | rfl | rfl) <;> rfl
  have z0 := sz_0 80 hb
  refine k_ld hK 0 dX12_init_0 rfl rfl rfl rfl ?_
  refine k_zob hK dX12_init_1 (am_ac in_t5 125 rfl rfl) (by decide) ?_
  refine k_ld hK 0 dX12_init_4 rfl rfl rfl rfl ?_
  refine k_si hK dX12_init_5 (v := 900) (by decide) ?_
  refine k_zna hK z0 dX12_init_8 (am_ac in_t1 65 rfl rfl) (by decide +kernel) (fun R1 z1 => ?_)
  refine k_zpR hK z1 dX12_init_10 lf_X12_7 rfl (by first | exact Or.inl rfl | exact Or.inr ⟨rfl, rfl⟩) (by decide +kernel) (by decide +kernel) (fun R2 z2 => ?_)
  refine k_ld hK 0 dX12_init_13 rfl rfl rfl rfl ?_
  refine k_ic hK dX12_init_14 (v := (-1)) (by decide) ?_
  refine k_pI hK dX12_init_15 lf_X12_13 rfl rfl rfl (sz_is z2 (by decide +kernel)) ?_
  have z3 := sz_I (a := 80) (k := 12) (x := (-1)) z2 (by omega)
  refine k_ld hK 0 dX12_init_18 rfl rfl rfl rfl ?_
  refine k_bi hK dX12_init_19 (v := 8) (by decide) ?_
  refine k_zna hK z3 dX12_init_21 (am_ac in_t1 65 rfl rfl) (by decide +kernel) (fun R4 z4 => ?_)
  refine k_zpR hK z4 dX12_init_23 lf_X12_17 rfl (by first | exact Or.inl rfl | exact Or.inr ⟨rfl, rfl⟩) (by decide +kernel) (by decide +kernel) (fun R5 z5 => ?_)
  refine k_ld hK 0 dX12_init_26 rfl rfl rfl rfl ?_
  refine k_bi hK dX12_init_27 (v := 6) (by decide) ?_
  refine k_zna hK z5 dX12_init_29 (am_ac in_t1 65 rfl rfl) (by decide +kernel) (fun R6 z6 => ?_)
  refine k_zpR hK z6 dX12_init_31 lf_X12_20 rfl (by first | exact Or.inl rfl | exact Or.inr ⟨rfl, rfl⟩) (by decide +kernel) (by decide +kernel) (fun R7 z7 => ?_)
  refine k_ld hK 0 dX12_init_34 rfl rfl rfl rfl ?_
  refine k_bi hK dX12_init_35 (v := 12) (by decide) ?_
  refine k_zna hK z7 dX12_init_37 (am_ac in_t1 65 rfl rfl) (by decide +kernel) (fun R8 z8 => ?_)
  refine k_zpR hK z8 dX12_init_39 lf_X12_23 rfl (by first | exact Or.inl rfl | exact Or.inr ⟨rfl, rfl⟩) (by decide +kernel) (by decide +kernel) (fun R9 z9 => ?_)
  refine k_ld hK 0 dX12_init_42 rfl rfl rfl rfl ?_
  refine k_bi hK dX12_init_43 (v := 12) (by decide) ?_
  refine k_zna hK z9 dX12_init_45 (am_ac in_t1 65 rfl rfl) (by decide +kernel) (fun R10 z10 => ?_)
  refine k_zpR hK z10 dX12_init_47 lf_X12_26 rfl (by first | exact Or.inl rfl | exact Or.inr ⟨rfl, rfl⟩) (by decide +kernel) (by decide +kernel) (fun R11 z11 => ?_)
  refine k_ld hK 0 dX12_init_50 rfl rfl rfl rfl ?_
  refine k_si hK dX12_init_51 (v := 2000) (by decide) ?_
  refine k_zna hK z11 dX12_init_54 (am_ac in_t1 65 rfl rfl) (by decide +kernel) (fun R12 z12 => ?_)
  refine k_zpR hK z12 dX12_init_56 lf_X12_29 rfl (by first | exact Or.inl rfl | exact Or.inr ⟨rfl, rfl⟩) (by decide +kernel) (by decide +kernel) (fun R13 z13 => ?_)
  refine k_ld hK 0 dX12_init_59 rfl rfl rfl rfl ?_
  refine k_si hK dX12_init_60 (v := 2000) (by decide) ?_
  refine k_zna hK z13 dX12_init_63 (am_ac in_t1 65 rfl rfl) (by decide +kernel) (fun R14 z14 => ?_)
  refine k_zpR hK z14 dX12_init_65 lf_X12_32 rfl (by first | exact Or.inl rfl | exact Or.inr ⟨rfl, rfl⟩) (by decide +kernel) (by decide +kernel) (fun R15 z15 => ?_)
  refine k_ld hK 0 dX12_init_68 rfl rfl rfl rfl ?_
  refine k_si hK dX12_init_69 (v := 2000) (by decide) ?_
  refine k_zna hK z15 dX12_init_72 (am_ac in_t1 65 rfl rfl) (by decide +kernel) (fun R16 z16 => ?_)
  refine k_zpR hK z16 dX12_init_74 lf_X12_35 rfl (by first | exact Or.inl rfl | exact Or.inr ⟨rfl, rfl⟩) (by decide +kernel) (by decide +kernel) (fun R17 z17 => ?_)
  refine k_ld hK 0 dX12_init_77 rfl rfl rfl rfl ?_
  refine k_ic hK dX12_init_78 (v := 4) (by decide) ?_
  refine k_zna hK z17 dX12_init_79 (am_ac in_t1 65 rfl rfl) (by decide +kernel) (fun R18 z18 => ?_)
  refine k_zpR hK z18 dX12_init_81 lf_X12_38 rfl (by first | exact Or.inl rfl | exact Or.inr ⟨rfl, rfl⟩) (by decide +kernel) (by decide +kernel) (fun R19 z19 => ?_)
  refine k_ld hK 0 dX12_init_84 rfl rfl rfl rfl ?_
  refine k_ic hK dX12_init_85 (v := 4) (by decide) ?_
  refine k_zna hK z19 dX12_init_86 (am_ac in_t1 65 rfl rfl) (by decide +kernel) (fun R20 z20 => ?_)
  refine k_zpR hK z20 dX12_init_88 lf_X12_41 rfl (by first | exact Or.inl rfl | exact Or.inr ⟨rfl, rfl⟩) (by decide +kernel) (by decide +kernel) (fun R21 z21 => ?_)
  refine k_ld hK 0 dX12_init_91 rfl rfl rfl rfl ?_
  refine k_ic hK dX12_init_92 (v := 4) (by decide) ?_
  refine k_zna hK z21 dX12_init_93 (am_ac in_t6 195 rfl rfl) (by decide +kernel) (fun R22 z22 => ?_)
  refine k_zpR hK z22 dX12_init_95 lf_X12_44 rfl (by first | exact Or.inl rfl | exact Or.inr ⟨rfl, rfl⟩) (by decide +kernel) (by decide +kernel) (fun R23 z23 => ?_)
  refine k_ld hK 0 dX12_init_98 rfl rfl rfl rfl ?_
  refine k_si hK dX12_init_99 (v := 400) (by decide) ?_
  refine k_zna hK z23 dX12_init_102 (am_ac in_t1 65 rfl rfl) (by decide +kernel) (fun R24 z24 => ?_)
  refine k_zpR hK z24 dX12_init_104 lf_X12_48 rfl (by first | exact Or.inl rfl | exact Or.inr ⟨rfl, rfl⟩) (by decide +kernel) (by decide +kernel) (fun R25 z25 => ?_)
  refine k_ld hK 0 dX12_init_107 rfl rfl rfl rfl ?_
  refine k_si hK dX12_init_108 (v := 400) (by decide) ?_
  refine k_zna hK z25 dX12_init_111 (am_ac in_t6 195 rfl rfl) (by decide +kernel) (fun R26 z26 => ?_)
  refine k_zpR hK z26 dX12_init_113 lf_X12_51 rfl (by first | exact Or.inl rfl | exact Or.inr ⟨rfl, rfl⟩) (by decide +kernel) (by decide +kernel) (fun R27 z27 => ?_)
  refine k_ld hK 0 dX12_init_116 rfl rfl rfl rfl ?_
  refine k_si hK dX12_init_117 (v := 400) (by decide) ?_
  refine k_zna hK z27 dX12_init_120 (am_ac in_t6 195 rfl rfl) (by decide +kernel) (fun R28 z28 => ?_)
  refine k_zpR hK z28 dX12_init_122 lf_X12_54 rfl (by first | exact Or.inl rfl | exact Or.inr ⟨rfl, rfl⟩) (by decide +kernel) (by decide +kernel) (fun R29 z29 => ?_)
  refine k_ld hK 0 dX12_init_125 rfl rfl rfl rfl ?_
  refine k_si hK dX12_init_126 (v := 400) (by decide) ?_
  refine k_zna hK z29 dX12_init_129 (am_ac in_t6 195 rfl rfl) (by decide +kernel) (fun R30 z30 => ?_)
  refine k_zpR hK z30 dX12_init_131 lf_X12_57 rfl (by first | exact Or.inl rfl | exact Or.inr ⟨rfl, rfl⟩) (by decide +kernel) (by decide +kernel) (fun R31 z31 => ?_)
  refine k_ld hK 0 dX12_init_134 rfl rfl rfl rfl ?_
  refine k_si hK dX12_init_135 (v := 400) (by decide) ?_
  refine k_zna hK z31 dX12_init_138 (am_ac in_t1 65 rfl rfl) (by decide +kernel) (fun R32 z32 => ?_)
  refine k_zpR hK z32 dX12_init_140 lf_X12_60 rfl (by first | exact Or.inl rfl | exact Or.inr ⟨rfl, rfl⟩) (by decide +kernel) (by decide +kernel) (fun R33 z33 => ?_)
  refine k_ld hK 0 dX12_init_143 rfl rfl rfl rfl ?_
  refine k_si hK dX12_init_144 (v := 400) (by decide) ?_
  refine k_zna hK z33 dX12_init_147 (am_ac in_t1 65 rfl rfl) (by decide +kernel) (fun R34 z34 => ?_)
  refine k_zpR hK z34 dX12_init_149 lf_X12_63 rfl (by first | exact Or.inl rfl | exact Or.inr ⟨rfl, rfl⟩) (by decide +kernel) (by decide +kernel) (fun R35 z35 => ?_)
  refine k_ld hK 0 dX12_init_152 rfl rfl rfl rfl ?_
  refine k_si hK dX12_init_153 (v := 400) (by decide) ?_
  refine k_zna hK z35 dX12_init_156 (am_ac in_t1 65 rfl rfl) (by decide +kernel) (fun R36 z36 => ?_)
  refine k_zpR hK z36 dX12_init_158 lf_X12_66 rfl (by first | exact Or.inl rfl | exact Or.inr ⟨rfl, rfl⟩) (by decide +kernel) (by decide +kernel) (fun R37 z37 => ?_)
  refine k_ld hK 0 dX12_init_161 rfl rfl rfl rfl ?_
  refine k_bi hK dX12_init_162 (v := 64) (by decide) ?_
  refine k_zna hK z37 dX12_init_164 (am_ac in_t6 195 rfl rfl) (by decide +kernel) (fun R38 z38 => ?_)
  refine k_zpR hK z38 dX12_init_166 lf_X12_69 rfl (by first | exact Or.inl rfl | exact Or.inr ⟨rfl, rfl⟩) (by decide +kernel) (by decide +kernel) (fun R39 z39 => ?_)
  refine k_ld hK 0 dX12_init_169 rfl rfl rfl rfl ?_
  refine k_bi hK dX12_init_170 (v := 64) (by decide) ?_
  refine k_zna hK z39 dX12_init_172 (am_ac in_t1 65 rfl rfl) (by decide +kernel) (fun R40 z40 => ?_)
  refine k_zpR hK z40 dX12_init_174 lf_X12_72 rfl (by first | exact Or.inl rfl | exact Or.inr ⟨rfl, rfl⟩) (by decide +kernel) (by decide +kernel) (fun R41 z41 => ?_)
  refine k_ld hK 0 dX12_init_177 rfl rfl rfl rfl ?_
  refine k_bi hK dX12_init_178 (v := 8) (by decide) ?_
  refine k_zna hK z41 dX12_init_180 (am_ac in_t6 195 rfl rfl) (by decide +kernel) (fun R42 z42 => ?_)
  refine k_zpR hK z42 dX12_init_182 lf_X12_75 rfl (by first | exact Or.inl rfl | exact Or.inr ⟨rfl, rfl⟩) (by decide +kernel) (by decide +kernel) (fun R43 z43 => ?_)
  refine k_ld hK 0 dX12_init_185 rfl rfl rfl rfl ?_
  refine k_bi hK dX12_init_186 (v := 8) (by decide) ?_
  refine k_zna hK z43 dX12_init_188 (am_ac in_t1 65 rfl rfl) (by decide +kernel) (fun R44 z44 => ?_)
  refine k_zpR hK z44 dX12_init_190 lf_X12_78 rfl (by first | exact Or.inl rfl | exact Or.inr ⟨rfl, rfl⟩) (by decide +kernel) (by decide +kernel) (fun R45 z45 => ?_)
  refine k_ld hK 0 dX12_init_193 rfl rfl rfl rfl ?_
  refine k_bi hK dX12_init_194 (v := 48) (by decide) ?_
  refine k_zna hK z45 dX12_init_196 (am_ac in_t6 195 rfl rfl) (by decide +kernel) (fun R46 z46 => ?_)
  refine k_zpR hK z46 dX12_init_198 lf_X12_81 rfl (by first | exact Or.inl rfl | exact Or.inr ⟨rfl, rfl⟩) (by decide +kernel) (by decide +kernel) (fun R47 z47 => ?_)
  refine k_ld hK 0 dX12_init_201 rfl rfl rfl rfl ?_
  refine k_bi hK dX12_init_202 (v := 48) (by decide) ?_
  refine k_zna hK z47 dX12_init_204 (am_ac in_t1 65 rfl rfl) (by decide +kernel) (fun R48 z48 => ?_)
  refine k_zpR hK z48 dX12_init_206 lf_X12_84 rfl (by first | exact Or.inl rfl | exact Or.inr ⟨rfl, rfl⟩) (by decide +kernel) (by decide +kernel) (fun R49 z49 => ?_)
  refine k_ld hK 0 dX12_init_209 rfl rfl rfl rfl ?_
  refine k_bi hK dX12_init_210 (v := 20) (by decide) ?_
  refine k_zna hK z49 dX12_init_212 (am_ac in_t6 195 rfl rfl) (by decide +kernel) (fun R50 z50 => ?_)
  refine k_zpR hK z50 dX12_init_214 lf_X12_87 rfl (by first | exact Or.inl rfl | exact Or.inr ⟨rfl, rfl⟩) (by decide +kernel) (by decide +kernel) (fun R51 z51 => ?_)
  refine k_ld hK 0 dX12_init_217 rfl rfl rfl rfl ?_
  refine k_bi hK dX12_init_218 (v := 20) (by decide) ?_
  refine k_zna hK z51 dX12_init_220 (am_ac in_t1 65 rfl rfl) (by decide +kernel) (fun R52 z52 => ?_)
  refine k_zpR hK z52 dX12_init_222 lf_X12_90 rfl (by first | exact Or.inl rfl | exact Or.inr ⟨rfl, rfl⟩) (by decide +kernel) (by decide +kernel) (fun R53 z53 => ?_)
  refine k_ld hK 0 dX12_init_225 rfl rfl rfl rfl ?_
  refine k_si hK dX12_init_226 (v := 3000) (by decide) ?_
  refine k_zna hK z53 dX12_init_229 (am_ac in_t1 65 rfl rfl) (by decide +kernel) (fun R54 z54 => ?_)
  refine k_zpR hK z54 dX12_init_231 lf_X12_93 rfl (by first | exact Or.inl rfl | exact Or.inr ⟨rfl, rfl⟩) (by decide +kernel) (by decide +kernel) (fun R55 z55 => ?_)
  refine k_ld hK 0 dX12_init_234 rfl rfl rfl rfl ?_
  refine k_si hK dX12_init_235 (v := 1000) (by decide) ?_
  refine k_zna hK z55 dX12_init_238 (am_ac in_t1 65 rfl rfl) (by decide +kernel) (fun R56 z56 => ?_)
  refine k_zpR hK z56 dX12_init_240 lf_X12_96 rfl (by first | exact Or.inl rfl | exact Or.inr ⟨rfl, rfl⟩) (by decide +kernel) (by decide +kernel) (fun R57 z57 => ?_)
  refine k_ld hK 0 dX12_init_243 rfl rfl rfl rfl ?_
  refine k_si hK dX12_init_244 (v := 400) (by decide) ?_
  refine k_zna hK z57 dX12_init_247 (am_ac in_t1 236 rfl rfl) (by decide +kernel) (fun R58 z58 => ?_)
  refine k_zpR hK z58 dX12_init_249 lf_X12_99 rfl (by first | exact Or.inl rfl | exact Or.inr ⟨rfl, rfl⟩) (by decide +kernel) (by decide +kernel) (fun R59 z59 => ?_)
  refine k_ld hK 0 dX12_init_252 rfl rfl rfl rfl ?_
  refine k_si hK dX12_init_253 (v := 400) (by decide) ?_
  refine k_zna hK z59 dX12_init_256 (am_ac in_t1 236 rfl rfl) (by decide +kernel) (fun R60 z60 => ?_)
  refine k_zpR hK z60 dX12_init_258 lf_X12_103 rfl (by first | exact Or.inl rfl | exact Or.inr ⟨rfl, rfl⟩) (by decide +kernel) (by decide +kernel) (fun R61 z61 => ?_)
  refine k_ld hK 0 dX12_init_261 rfl rfl rfl rfl ?_
  refine k_si hK dX12_init_262 (v := 400) (by decide) ?_
  refine k_zna hK z61 dX12_init_265 (am_ac in_t1 236 rfl rfl) (by decide +kernel) (fun R62 z62 => ?_)
  refine k_zpR hK z62 dX12_init_267 lf_X12_106 rfl (by first | exact Or.inl rfl | exact Or.inr ⟨rfl, rfl⟩) (by decide +kernel) (by decide +kernel) (fun R63 z63 => ?_)
  refine k_ld hK 0 dX12_init_270 rfl rfl rfl rfl ?_
  refine k_si hK dX12_init_271 (v := 400) (by decide) ?_
  refine k_zna hK z63 dX12_init_274 (am_ac in_t6 195 rfl rfl) (by decide +kernel) (fun R64 z64 => ?_)
  refine k_zpR hK z64 dX12_init_276 lf_X12_109 rfl (by first | exact Or.inl rfl | exact Or.inr ⟨rfl, rfl⟩) (by decide +kernel) (by decide +kernel) (fun R65 z65 => ?_)
  refine k_ld hK 0 dX12_init_279 rfl rfl rfl rfl ?_
  refine k_si hK dX12_init_280 (v := 400) (by decide) ?_
  refine k_zna hK z65 dX12_init_283 (am_ac in_t6 195 rfl rfl) (by decide +kernel) (fun R66 z66 => ?_)
  refine k_zpR hK z66 dX12_init_285 lf_X12_112 rfl (by first | exact Or.inl rfl | exact Or.inr ⟨rfl, rfl⟩) (by decide +kernel) (by decide +kernel) (fun R67 z67 => ?_)
  refine k_ld hK 0 dX12_init_288 rfl rfl rfl rfl ?_
  refine k_si hK dX12_init_289 (v := 400) (by decide) ?_
  refine k_zna hK z67 dX12_init_292 (am_ac in_t6 195 rfl rfl) (by decide +kernel) (fun R68 z68 => ?_)
  refine k_zpR hK z68 dX12_init_294 lf_X12_115 rfl (by first | exact Or.inl rfl | exact Or.inr ⟨rfl, rfl⟩) (by decide +kernel) (by decide +kernel) (fun R69 z69 => ?_)
  refine k_ld hK 0 dX12_init_297 rfl rfl rfl rfl ?_
  refine k_bi hK dX12_init_298 (v := 80) (by decide) ?_
  refine k_zna hK z69 dX12_init_300 (am_ac in_t6 195 rfl rfl) (by decide +kernel) (fun R70 z70 => ?_)
  refine k_zpR hK z70 dX12_init_302 lf_X12_118 rfl (by first | exact Or.inl rfl | exact Or.inr ⟨rfl, rfl⟩) (by decide +kernel) (by decide +kernel) (fun R71 z71 => ?_)
  refine k_ld hK 0 dX12_init_305 rfl rfl rfl rfl ?_
  refine k_bi hK dX12_init_306 (v := 11) (by decide) ?_
  refine k_zna hK z71 dX12_init_308 (am_ac in_t6 195 rfl rfl) (by decide +kernel) (fun R72 z72 => ?_)
  refine k_zpR hK z72 dX12_init_310 lf_X12_121 rfl (by first | exact Or.inl rfl | exact Or.inr ⟨rfl, rfl⟩) (by decide +kernel) (by decide +kernel) (fun R73 z73 => ?_)
  refine k_ld hK 0 dX12_init_313 rfl rfl rfl rfl ?_
  refine k_si hK dX12_init_314 (v := 3000) (by decide) ?_
  refine k_zna hK z73 dX12_init_317 (am_ac in_t1 65 rfl rfl) (by decide +kernel) (fun R74 z74 => ?_)
  refine k_zpR hK z74 dX12_init_319 lf_X12_124 rfl (by first | exact Or.inl rfl | exact Or.inr ⟨rfl, rfl⟩) (by decide +kernel) (by decide +kernel) (fun R75 z75 => ?_)
  refine k_ld hK 0 dX12_init_322 rfl rfl rfl rfl ?_
  refine k_si hK dX12_init_323 (v := 8421) (by decide) ?_
  refine k_zna hK z75 dX12_init_326 (am_ac in_t1 65 rfl rfl) (by decide +kernel) (fun R76 z76 => ?_)
  refine k_zpR hK z76 dX12_init_328 lf_X12_127 rfl (by first | exact Or.inl rfl | exact Or.inr ⟨rfl, rfl⟩) (by decide +kernel) (by decide +kernel) (fun R77 z77 => ?_)
  refine k_ld hK 0 dX12_init_331 rfl rfl rfl rfl ?_
  refine k_si hK dX12_init_332 (v := 8421) (by decide) ?_
  refine k_zna hK z77 dX12_init_335 (am_ac in_t1 65 rfl rfl) (by decide +kernel) (fun R78 z78 => ?_)
  refine k_zpR hK z78 dX12_init_337 lf_X12_130 rfl (by first | exact Or.inl rfl | exact Or.inr ⟨rfl, rfl⟩) (by decide +kernel) (by decide +kernel) (fun R79 z79 => ?_)
  refine k_ld hK 0 dX12_init_340 rfl rfl rfl rfl ?_
  refine k_ic hK dX12_init_341 (v := 3) (by decide) ?_
  refine k_zna hK z79 dX12_init_342 (am_ac in_t1 65 rfl rfl) (by decide +kernel) (fun R80 z80 => ?_)
  refine k_zpR hK z80 dX12_init_344 lf_X12_133 rfl (by first | exact Or.inl rfl | exact Or.inr ⟨rfl, rfl⟩) (by decide +kernel) (by decide +kernel) (fun R81 z81 => ?_)
  refine k_ld hK 0 dX12_init_347 rfl rfl rfl rfl ?_
  have s1 : Sta1 R81 := sz_sta z81 h0 (by decide +kernel)
  have f8 : frs (up I 80 12 (-1)) J R81 121 := z81.2.1
  refine k_cVc hK dX12_init_348 (Or.inl lm_X12_136) (As := []) (S := []) rfl (sd_80 s1) (Nat.le_of_ble_eq_true rfl) (sz_fit z81 (by decide +kernel)) rfl (ne_X12_freshText s1 (Q := fun _ I2 => I2 = _) rfl) (fun _ I2 e2 => ?_)
  show K _ _ [] _ _ _
  refine k_ld hK 0 dX12_init_351 rfl rfl rfl rfl ?_
  refine k_cVd hK dX12_init_352 (Or.inl lm_X12_139) (As := []) (S := []) rfl (sd_80 s1) (Nat.le_of_ble_eq_true rfl) (sz_fit z81 (by decide +kernel)) rfl (n_begins s1 (Q := fun _ I3 J3 => nbQ I2 J I3 J3) (by rw [e2]; intro k hk; exact fT_0 k hk) (fun I3 J3 k1 k2 k3 k4 k5 k6 k7 => ⟨k1, k2, k3, k4, k5, k6, k7⟩)) (fun _ I3 J3 q3 => ?_)
  show K _ _ [] _ _ _
  refine k_vret hK dX12_init_355 rfl (sz_done z81 (by decide +kernel)) ?_
  rw [e2] at q3
  exact h I3 J3 R81 s1 z81.2.1 z81.2.2.1 q3⟩
