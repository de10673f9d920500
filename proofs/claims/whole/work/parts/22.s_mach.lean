set_option maxHeartbeats 4000000 in
theorem g_X1_execute_0 {d : Nat} {K : KT} {Q : Unit → HI → HR → Prop} {I : HI} {J : HJ} {R : HR} {R0 : HR} {o : Nat} {p1 : Nat} {a2 : Nat} (hK : am_R M_X1_execute (am_W d) none R0 (qR fv J R0 Q) K) (hs0 : Stat R0) (hs : Stat R) (hg : am_g R = am_g R0) (h_o : isX1 o) (h_p1 : isX5 p1) (h_a2 : am_is R a2 13) (l_a2 : (am_T a2).2 = 4) (hF : Wc fv d M_X1_clear [.ref o, .ref a2] I J (up R o 0 (some p1)) (fun u1 I2 => K 12 [(0, .ref o), (3, .int 0)] [] I2 J (up R o 0 (some p1)))) : K 0 [(0, .ref o), (1, .ref p1), (2, .ref a2)] [] I J R := by
  refine k_ld hK 0 dX1_execute_0 rfl rfl rfl rfl ?_
  refine k_ld hK 1 dX1_execute_1 rfl rfl rfl rfl ?_
  refine k_pR hK dX1_execute_2 lf_X1_45 rfl (Or.inl rfl) (sk_X1_0 hs h_o) ?_
  have hs : Stat (up R o 0 (some p1)) := su_X1_0 hs h_o
  have hg : am_g (up R o 0 (some p1)) = am_g R0 := (am_g_up (lt_X1 h_o)).trans hg
  refine k_ld hK 0 dX1_execute_5 rfl rfl rfl rfl ?_
  refine k_ld hK 2 dX1_execute_6 rfl rfl rfl rfl ?_
  refine k_cVc hK dX1_execute_7 (Or.inl lm_X1_49) (As := [.ref a2]) (S := []) rfl (sk_X1_0 hs h_o) (Nat.le_of_ble_eq_true rfl) (fit_of hs0 hs hg rfl rfl) rfl hF (fun u1 I2 hF => ?_)
  show K _ _ [] _ _ _
  refine k_ic hK dX1_execute_10 ci_0 ?_
  refine k_st hK dX1_execute_11 rfl rfl rfl (Nat.le_of_ble_eq_true rfl) rfl ?_
  exact k_sub hK [1, 0] rfl hF
set_option maxHeartbeats 4000000 in
theorem g_X1_execute_12 {d : Nat} {K : KT} {Q : Unit → HI → HR → Prop} {I : HI} {J : HJ} {R : HR} {R0 : HR} {o : Nat} {p1 : Nat} {a2 : Nat} {x3 : Int32} (hK : am_R M_X1_execute (am_W d) none R0 (qR fv J R0 Q) K) (hs0 : Stat R0) (hs : Stat R) (hg : am_g R = am_g R0) (h_o : isX1 o) (h_p1 : isX5 p1) (h_a2 : am_is R a2 13) (l_a2 : (am_T a2).2 = 4) (hF : ((3000 < x3 → Q () I R) ∧ (¬ 3000 < x3 → (∃ p2 : Nat, (R o 0) = some p2 ∧ isX5 p2 ∧ (((I p2 1) ≤ (I o 9) → Q () I R) ∧ (¬ (I p2 1) ≤ (I o 9) → Wp fi d M_X5_kindAt [.ref p2, .int (I o 9)] I J R (fun r5 => Wp fi d M_X1_reasonToStop [.ref o, .int r5] I J R (fun r6 => ((r6 = 0 → Wp fi d M_X5_kindAt [.ref p2, .int (I o 9)] (up I o 11 r6) J R (fun r8 => Wp fi d M_X5_operandAt [.ref p2, .int (I o 9)] (up I o 11 r6) J R (fun r9 => Wc fv d M_X1_perform [.ref o, .int r8, .int r9] (up I o 11 r6) J R (fun u10 I11 => K 12 [(0, .ref o), (3, .int (x3 + 1))] [] (up I11 o 10 ((I11 o 10) + 1)) J R)))) ∧ (¬ r6 = 0 → Q () (up I o 11 r6) R)))))))))) : K 12 [(0, .ref o), (3, .int x3)] [] I J R := by
  refine k_ld hK 1 dX1_execute_12 rfl rfl rfl rfl ?_
  refine k_si hK dX1_execute_13 cs_3000 ?_
  refine k_cgt hK dX1_execute_16 (tgt := 102) rfl (fun h1 => ?_) (fun h1 => ?_)
  · have hF := hF.1 h1
    exact k_vret hK dX1_execute_102 rfl (done_of hs0 hs hg rfl rfl) (qR_i hs hg hF)
  · have hF := hF.2 h1
    refine k_ld hK 0 dX1_execute_19 rfl rfl rfl rfl ?_
    refine k_gI hK dX1_execute_20 lf_X1_53 rfl (sk_X1_0 hs h_o) rfl ?_
    refine k_ld hK 0 dX1_execute_23 rfl rfl rfl rfl ?_
    obtain ⟨p2, e3, h_p2, hF⟩ := hF
    refine k_gR hK dX1_execute_24 lf_X1_45 rfl (sk_X1_0 hs h_o) e3 ?_
    refine k_gI hK dX1_execute_27 lf_X1_57 rfl (sk_X5_0 hs h_p2) rfl ?_
    refine k_cge hK dX1_execute_30 (tgt := 102) rfl (fun h4 => ?_) (fun h4 => ?_)
    · have hF := hF.1 h4
      exact k_vret hK dX1_execute_102 rfl (done_of hs0 hs hg rfl rfl) (qR_i hs hg hF)
    · have hF := hF.2 h4
      refine k_ld hK 0 dX1_execute_33 rfl rfl rfl rfl ?_
      refine k_ld hK 0 dX1_execute_34 rfl rfl rfl rfl ?_
      refine k_ld hK 0 dX1_execute_35 rfl rfl rfl rfl ?_
      refine k_gR hK dX1_execute_36 lf_X1_45 rfl (sk_X1_0 hs h_o) e3 ?_
      refine k_ld hK 0 dX1_execute_39 rfl rfl rfl rfl ?_
      refine k_gI hK dX1_execute_40 lf_X1_53 rfl (sk_X1_0 hs h_o) rfl ?_
      refine k_cVp hK dX1_execute_43 (Or.inl lm_X1_62) (As := [.int (I o 9)]) (S := [.ref o, .ref o]) rfl (sk_X5_0 hs h_p2) (Nat.le_of_ble_eq_true rfl) (fit_of hs0 hs hg rfl rfl) rfl hF (fun r5 hF => ?_)
      show K _ _ [.int r5, .ref o, .ref o] _ _ _
      refine k_cVp hK dX1_execute_46 (Or.inl lm_X1_66) (As := [.int r5]) (S := [.ref o]) rfl (sk_X1_0 hs h_o) (Nat.le_of_ble_eq_true rfl) (fit_of hs0 hs hg rfl rfl) rfl hF (fun r6 hF => ?_)
      show K _ _ [.int r6, .ref o] _ _ _
      refine k_pI hK dX1_execute_49 lf_X1_69 rfl rfl rfl (sk_X1_0 hs h_o) ?_
      refine k_ld hK 0 dX1_execute_52 rfl rfl rfl rfl ?_
      refine k_gI hK dX1_execute_53 lf_X1_69 rfl (sk_X1_0 hs h_o) up_s ?_
      refine k_eq hK dX1_execute_56 (tgt := 60) rfl (fun h7 => ?_) (fun h7 => ?_)
      · have hF := hF.1 h7
        refine k_ld hK 0 dX1_execute_60 rfl rfl rfl rfl ?_
        refine k_ld hK 0 dX1_execute_61 rfl rfl rfl rfl ?_
        refine k_gR hK dX1_execute_62 lf_X1_45 rfl (sk_X1_0 hs h_o) e3 ?_
        refine k_ld hK 0 dX1_execute_65 rfl rfl rfl rfl ?_
        refine k_gI hK dX1_execute_66 lf_X1_53 rfl (sk_X1_0 hs h_o) ((up_nk (by decide)).trans rfl) ?_
        refine k_cVp hK dX1_execute_69 (Or.inl lm_X1_62) (As := [.int (I o 9)]) (S := [.ref o]) rfl (sk_X5_0 hs h_p2) (Nat.le_of_ble_eq_true rfl) (fit_of hs0 hs hg rfl rfl) rfl hF (fun r8 hF => ?_)
        show K _ _ [.int r8, .ref o] _ _ _
        refine k_ld hK 0 dX1_execute_72 rfl rfl rfl rfl ?_
        refine k_gR hK dX1_execute_73 lf_X1_45 rfl (sk_X1_0 hs h_o) e3 ?_
        refine k_ld hK 0 dX1_execute_76 rfl rfl rfl rfl ?_
        refine k_gI hK dX1_execute_77 lf_X1_53 rfl (sk_X1_0 hs h_o) ((up_nk (by decide)).trans rfl) ?_
        refine k_cVp hK dX1_execute_80 (Or.inl lm_X1_72) (As := [.int (I o 9)]) (S := [.int r8, .ref o]) rfl (sk_X5_0 hs h_p2) (Nat.le_of_ble_eq_true rfl) (fit_of hs0 hs hg rfl rfl) rfl hF (fun r9 hF => ?_)
        show K _ _ [.int r9, .int r8, .ref o] _ _ _
        refine k_cVc hK dX1_execute_83 (Or.inl lm_X1_75) (As := [.int r8, .int r9]) (S := []) rfl (sk_X1_0 hs h_o) (Nat.le_of_ble_eq_true rfl) (fit_of hs0 hs hg rfl rfl) rfl hF (fun u10 I11 hF => ?_)
        show K _ _ [] _ _ _
        refine k_ld hK 0 dX1_execute_86 rfl rfl rfl rfl ?_
        refine k_op hK dX1_execute_87 rfl rfl ?_
        refine k_gI hK dX1_execute_88 lf_X1_79 rfl (sk_X1_0 hs h_o) rfl ?_
        refine k_ic hK dX1_execute_91 ci_1 ?_
        refine k_op hK dX1_execute_92 rfl rfl ?_
        refine k_pI hK dX1_execute_93 lf_X1_79 rfl rfl rfl (sk_X1_0 hs h_o) ?_
        refine k_iinc hK 1 dX1_execute_96 (v := (x3 + 1)) rfl (Nat.le_of_ble_eq_true rfl) (congrArg (fun q => x3 + q) ci_1) rfl ?_
        refine k_goto hK dX1_execute_99 (tgt := 12) rfl ?_
        exact k_sub hK [1, 0] rfl hF
      · have hF := hF.2 h7
        exact k_vret hK dX1_execute_59 rfl (done_of hs0 hs hg rfl rfl) (qR_i hs hg hF)
set_option maxHeartbeats 4000000 in
theorem g_X1_clear_0 {d : Nat} {K : KT} {Q : Unit → HI → Prop} {I : HI} {J : HJ} {R : HR} {o : Nat} {a1 : Nat} (hK : am_R M_X1_clear (am_W d) none R (qC fv J R Q) K) (hs : Stat R) (h_o : isX1 o) (h_a1 : am_is R a1 13) (l_a1 : (am_T a1).2 = 4) (hF : (∃ p1 : Nat, (R o 0) = some p1 ∧ isX5 p1 ∧ Wc fv d M_X8_clear [.ref (o + 1), .int (I p1 4)] I J R (fun u3 I4 => K 16 [(0, .ref o), (1, .ref a1), (2, .int 0)] [] I4 J R))) : K 0 [(0, .ref o), (1, .ref a1)] [] I J R := by
  refine k_ld hK 0 dX1_clear_0 rfl rfl rfl rfl ?_
  refine k_gR hK dX1_clear_1 lf_X1_12 rfl (sk_X1_0 hs h_o) (sr_X1_0_1 hs h_o) ?_
  refine k_ld hK 0 dX1_clear_4 rfl rfl rfl rfl ?_
  obtain ⟨p1, e2, h_p1, hF⟩ := hF
  refine k_gR hK dX1_clear_5 lf_X1_45 rfl (sk_X1_0 hs h_o) e2 ?_
  refine k_gI hK dX1_clear_8 lf_X1_82 rfl (sk_X5_0 hs h_p1) rfl ?_
  refine k_cVc hK dX1_clear_11 (Or.inl lm_X1_84) (As := [.int (I p1 4)]) (S := []) rfl (sk_X1_1 hs h_o) (Nat.le_of_ble_eq_true rfl) (fit_0 rfl rfl) rfl hF (fun u3 I4 hF => ?_)
  show K _ _ [] _ _ _
  refine k_ic hK dX1_clear_14 ci_0 ?_
  refine k_st hK dX1_clear_15 rfl rfl rfl (Nat.le_of_ble_eq_true rfl) rfl ?_
  exact k_sub hK [1, 2, 0] rfl hF
set_option maxHeartbeats 4000000 in
theorem g_X1_clear_16 {d : Nat} {K : KT} {Q : Unit → HI → Prop} {I : HI} {J : HJ} {R : HR} {o : Nat} {a1 : Nat} {x2 : Int32} (hK : am_R M_X1_clear (am_W d) none R (qC fv J R Q) K) (hs : Stat R) (h_o : isX1 o) (h_a1 : am_is R a1 13) (l_a1 : (am_T a1).2 = 4) (hF : (∃ p1 : Nat, (R o 0) = some p1 ∧ isX5 p1 ∧ (((I p1 3) ≤ x2 → K 55 [(0, .ref o)] [] I J R) ∧ (¬ (I p1 3) ≤ x2 → ((4 ≤ x2 → K 55 [(0, .ref o)] [] I J R) ∧ (¬ 4 ≤ x2 → (∃ n5 : Nat, x2 = nI n5 ∧ n5 < 4 ∧ Wc fv d M_X8_put [.ref (o + 1), .int x2, .int (I a1 n5), .int (1000 + x2)] I J R (fun u8 I9 => K 16 [(0, .ref o), (1, .ref a1), (2, .int (x2 + 1))] [] I9 J R)))))))) : K 16 [(0, .ref o), (1, .ref a1), (2, .int x2)] [] I J R := by
  refine k_ld hK 2 dX1_clear_16 rfl rfl rfl rfl ?_
  refine k_ld hK 0 dX1_clear_17 rfl rfl rfl rfl ?_
  obtain ⟨p1, e2, h_p1, hF⟩ := hF
  refine k_gR hK dX1_clear_18 lf_X1_45 rfl (sk_X1_0 hs h_o) e2 ?_
  refine k_gI hK dX1_clear_21 lf_X1_87 rfl (sk_X5_0 hs h_p1) rfl ?_
  refine k_cge hK dX1_clear_24 (tgt := 55) rfl (fun h3 => ?_) (fun h3 => ?_)
  · have hF := hF.1 h3
    exact k_sub hK [0] rfl hF
  · have hF := hF.2 h3
    refine k_ld hK 2 dX1_clear_27 rfl rfl rfl rfl ?_
    refine k_ld hK 1 dX1_clear_28 rfl rfl rfl rfl ?_
    refine k_alen hK dX1_clear_29 (Or.inr h_a1) l_a1 cn_4 ?_
    refine k_cge hK dX1_clear_30 (tgt := 55) rfl (fun h4 => ?_) (fun h4 => ?_)
    · have hF := hF.1 h4
      exact k_sub hK [0] rfl hF
    · have hF := hF.2 h4
      refine k_ld hK 0 dX1_clear_33 rfl rfl rfl rfl ?_
      refine k_gR hK dX1_clear_34 lf_X1_12 rfl (sk_X1_0 hs h_o) (sr_X1_0_1 hs h_o) ?_
      refine k_ld hK 2 dX1_clear_37 rfl rfl rfl rfl ?_
      refine k_ld hK 1 dX1_clear_38 rfl rfl rfl rfl ?_
      refine k_ld hK 2 dX1_clear_39 rfl rfl rfl rfl ?_
      obtain ⟨n5, i6, j7, hF⟩ := hF
      refine k_iald hK dX1_clear_40 h_a1 l_a1 (by decide) i6 j7 rfl ?_
      refine k_si hK dX1_clear_41 cs_1000 ?_
      refine k_ld hK 2 dX1_clear_44 rfl rfl rfl rfl ?_
      refine k_op hK dX1_clear_45 rfl rfl ?_
      refine k_cVc hK dX1_clear_46 (Or.inl lm_X1_90) (As := [.int x2, .int (I a1 n5), .int (1000 + x2)]) (S := []) rfl (sk_X1_1 hs h_o) (Nat.le_of_ble_eq_true rfl) (fit_0 rfl rfl) rfl hF (fun u8 I9 hF => ?_)
      show K _ _ [] _ _ _
      refine k_iinc hK 2 dX1_clear_49 (v := (x2 + 1)) rfl (Nat.le_of_ble_eq_true rfl) (congrArg (fun q => x2 + q) ci_1) rfl ?_
      refine k_goto hK dX1_clear_52 (tgt := 16) rfl ?_
      exact k_sub hK [1, 2, 0] rfl hF
set_option maxHeartbeats 4000000 in
theorem g_X1_clear_55 {d : Nat} {K : KT} {Q : Unit → HI → Prop} {I : HI} {J : HJ} {R : HR} {o : Nat} {a1 : Nat} (hK : am_R M_X1_clear (am_W d) none R (qC fv J R Q) K) (hs : Stat R) (h_o : isX1 o) (h_a1 : am_is R a1 13) (l_a1 : (am_T a1).2 = 4) (hF : (∃ p1 : Nat, (R o 0) = some p1 ∧ isX5 p1 ∧ Wc fv d M_X8_clear [.ref (o + 4), .int (I p1 6)] I J R (fun u3 I4 => Wc fv d M_X8_clear [.ref (o + 7), .int 0] I4 J R (fun u5 I6 => Wc fv d M_X8_clear [.ref (o + 10), .int 0] I6 J R (fun u7 I8 => Wc fv d M_X0_clear [.ref (o + 24)] (up I8 (o + 13) 0 0) J R (fun u9 I10 => Q () (up (up (up (up I10 o 8 0) o 9 0) o 10 0) o 11 0))))))) : K 55 [(0, .ref o)] [] I J R := by
  refine k_ld hK 0 dX1_clear_55 rfl rfl rfl rfl ?_
  refine k_gR hK dX1_clear_56 lf_X1_18 rfl (sk_X1_0 hs h_o) (sr_X1_0_2 hs h_o) ?_
  refine k_ld hK 0 dX1_clear_59 rfl rfl rfl rfl ?_
  obtain ⟨p1, e2, h_p1, hF⟩ := hF
  refine k_gR hK dX1_clear_60 lf_X1_45 rfl (sk_X1_0 hs h_o) e2 ?_
  refine k_gI hK dX1_clear_63 lf_X1_94 rfl (sk_X5_0 hs h_p1) rfl ?_
  refine k_cVc hK dX1_clear_66 (Or.inl lm_X1_84) (As := [.int (I p1 6)]) (S := []) rfl (sk_X1_4 hs h_o) (Nat.le_of_ble_eq_true rfl) (fit_0 rfl rfl) rfl hF (fun u3 I4 hF => ?_)
  show K _ _ [] _ _ _
  refine k_ld hK 0 dX1_clear_69 rfl rfl rfl rfl ?_
  refine k_gR hK dX1_clear_70 lf_X1_21 rfl (sk_X1_0 hs h_o) (sr_X1_0_3 hs h_o) ?_
  refine k_ic hK dX1_clear_73 ci_0 ?_
  refine k_cVc hK dX1_clear_74 (Or.inl lm_X1_84) (As := [.int 0]) (S := []) rfl (sk_X1_7 hs h_o) (Nat.le_of_ble_eq_true rfl) (fit_0 rfl rfl) rfl hF (fun u5 I6 hF => ?_)
  show K _ _ [] _ _ _
  refine k_ld hK 0 dX1_clear_77 rfl rfl rfl rfl ?_
  refine k_gR hK dX1_clear_78 lf_X1_24 rfl (sk_X1_0 hs h_o) (sr_X1_0_4 hs h_o) ?_
  refine k_ic hK dX1_clear_81 ci_0 ?_
  refine k_cVc hK dX1_clear_82 (Or.inl lm_X1_84) (As := [.int 0]) (S := []) rfl (sk_X1_10 hs h_o) (Nat.le_of_ble_eq_true rfl) (fit_0 rfl rfl) rfl hF (fun u7 I8 hF => ?_)
  show K _ _ [] _ _ _
  refine k_ld hK 0 dX1_clear_85 rfl rfl rfl rfl ?_
  refine k_gR hK dX1_clear_86 lf_X1_30 rfl (sk_X1_0 hs h_o) (sr_X1_0_5 hs h_o) ?_
  refine k_ic hK dX1_clear_89 ci_0 ?_
  refine k_pI hK dX1_clear_90 lf_X1_96 rfl rfl rfl (sk_X1_13 hs h_o) ?_
  refine k_ld hK 0 dX1_clear_93 rfl rfl rfl rfl ?_
  refine k_gR hK dX1_clear_94 lf_X1_37 rfl (sk_X1_0 hs h_o) (sr_X1_0_6 hs h_o) ?_
  refine k_cVc hK dX1_clear_97 (Or.inl lm_X1_97) (As := []) (S := []) rfl (sk_X1_24 hs h_o) (Nat.le_of_ble_eq_true rfl) (fit_0 rfl rfl) rfl hF (fun u9 I10 hF => ?_)
  show K _ _ [] _ _ _
  refine k_ld hK 0 dX1_clear_100 rfl rfl rfl rfl ?_
  refine k_ic hK dX1_clear_101 ci_0 ?_
  refine k_pI hK dX1_clear_102 lf_X1_99 rfl rfl rfl (sk_X1_0 hs h_o) ?_
  refine k_ld hK 0 dX1_clear_105 rfl rfl rfl rfl ?_
  refine k_ic hK dX1_clear_106 ci_0 ?_
  refine k_pI hK dX1_clear_107 lf_X1_53 rfl rfl rfl (sk_X1_0 hs h_o) ?_
  refine k_ld hK 0 dX1_clear_110 rfl rfl rfl rfl ?_
  refine k_ic hK dX1_clear_111 ci_0 ?_
  refine k_pI hK dX1_clear_112 lf_X1_79 rfl rfl rfl (sk_X1_0 hs h_o) ?_
  refine k_ld hK 0 dX1_clear_115 rfl rfl rfl rfl ?_
  refine k_ic hK dX1_clear_116 ci_0 ?_
  refine k_pI hK dX1_clear_117 lf_X1_69 rfl rfl rfl (sk_X1_0 hs h_o) ?_
  exact k_vret hK dX1_clear_120 rfl (done_0 rfl rfl) (qC_i hF)
set_option maxHeartbeats 4000000 in
theorem g_X1_reasonToStop_0 {d : Nat} {K : KT} {Q : Int32 → Prop} {I : HI} {J : HJ} {R : HR} {o : Nat} {x1 : Int32} (hK : am_R M_X1_reasonToStop (am_W d) none R (qP fi I J R Q) K) (hs : Stat R) (h_o : isX1 o) (hF : (((I o 10) < 3000 → ((¬ x1 = 6 → ((¬ x1 = 2 → K 61 [(0, .ref o), (1, .int x1)] [] I J R) ∧ (x1 = 2 → Wp fi d M_X1_cellAt [.ref o, .int ((I (o + 7) 2) - 1)] I J R (fun r4 => ((r4 = (-1) → Q 2) ∧ (¬ r4 = (-1) → K 61 [(0, .ref o), (1, .int x1)] [] I J R)))))) ∧ (x1 = 6 → Wp fi d M_X8_valueAt [.ref (o + 7), .int ((I (o + 7) 2) - 1)] I J R (fun r6 => ((¬ r6 = 0 → ((¬ x1 = 2 → K 61 [(0, .ref o), (1, .int x1)] [] I J R) ∧ (x1 = 2 → Wp fi d M_X1_cellAt [.ref o, .int ((I (o + 7) 2) - 1)] I J R (fun r9 => ((r9 = (-1) → Q 2) ∧ (¬ r9 = (-1) → K 61 [(0, .ref o), (1, .int x1)] [] I J R)))))) ∧ (r6 = 0 → Q 1)))))) ∧ (¬ (I o 10) < 3000 → Q 3))) : K 0 [(0, .ref o), (1, .int x1)] [] I J R := by
  refine k_ld hK 0 dX1_reasonToStop_0 rfl rfl rfl rfl ?_
  refine k_gI hK dX1_reasonToStop_1 lf_X1_79 rfl (sk_X1_0 hs h_o) rfl ?_
  refine k_si hK dX1_reasonToStop_4 cs_3000 ?_
  refine k_clt hK dX1_reasonToStop_7 (tgt := 12) rfl (fun h1 => ?_) (fun h1 => ?_)
  · have hF := hF.1 h1
    refine k_ld hK 1 dX1_reasonToStop_12 rfl rfl rfl rfl ?_
    refine k_bi hK dX1_reasonToStop_13 cb_6 ?_
    refine k_cne hK dX1_reasonToStop_15 (tgt := 39) rfl (fun h2 => ?_) (fun h2 => ?_)
    · have hF := hF.1 h2
      refine k_ld hK 1 dX1_reasonToStop_39 rfl rfl rfl rfl ?_
      refine k_ic hK dX1_reasonToStop_40 ci_2 ?_
      refine k_cne hK dX1_reasonToStop_41 (tgt := 61) rfl (fun h3 => ?_) (fun h3 => ?_)
      · have hF := hF.1 h3
        exact k_sub hK [0, 1] rfl hF
      · have hF := hF.2 h3
        refine k_ld hK 0 dX1_reasonToStop_44 rfl rfl rfl rfl ?_
        refine k_ld hK 0 dX1_reasonToStop_45 rfl rfl rfl rfl ?_
        refine k_gR hK dX1_reasonToStop_46 lf_X1_21 rfl (sk_X1_0 hs h_o) (sr_X1_0_3 hs h_o) ?_
        refine k_gI hK dX1_reasonToStop_49 lf_X1_102 rfl (sk_X1_7 hs h_o) rfl ?_
        refine k_ic hK dX1_reasonToStop_52 ci_1 ?_
        refine k_op hK dX1_reasonToStop_53 rfl rfl ?_
        refine k_cVp hK dX1_reasonToStop_54 (Or.inl lm_X1_108) (As := [.int ((I (o + 7) 2) - 1)]) (S := []) rfl (sk_X1_0 hs h_o) (Nat.le_of_ble_eq_true rfl) (fit_0 rfl rfl) rfl hF (fun r4 hF => ?_)
        show K _ _ [.int r4] _ _ _
        refine k_ic hK dX1_reasonToStop_57 ci_m1 ?_
        refine k_ceq hK dX1_reasonToStop_58 (tgt := 84) rfl (fun h5 => ?_) (fun h5 => ?_)
        · have hF := hF.1 h5
          refine k_ic hK dX1_reasonToStop_84 ci_2 ?_
          exact k_iret hK dX1_reasonToStop_85 rfl rfl (done_0 rfl rfl) (qP_i hF)
        · have hF := hF.2 h5
          exact k_sub hK [0, 1] rfl hF
    · have hF := hF.2 h2
      refine k_ld hK 0 dX1_reasonToStop_18 rfl rfl rfl rfl ?_
      refine k_gR hK dX1_reasonToStop_19 lf_X1_21 rfl (sk_X1_0 hs h_o) (sr_X1_0_3 hs h_o) ?_
      refine k_ld hK 0 dX1_reasonToStop_22 rfl rfl rfl rfl ?_
      refine k_gR hK dX1_reasonToStop_23 lf_X1_21 rfl (sk_X1_0 hs h_o) (sr_X1_0_3 hs h_o) ?_
      refine k_gI hK dX1_reasonToStop_26 lf_X1_102 rfl (sk_X1_7 hs h_o) rfl ?_
      refine k_ic hK dX1_reasonToStop_29 ci_1 ?_
      refine k_op hK dX1_reasonToStop_30 rfl rfl ?_
      refine k_cVp hK dX1_reasonToStop_31 (Or.inl lm_X1_105) (As := [.int ((I (o + 7) 2) - 1)]) (S := []) rfl (sk_X1_7 hs h_o) (Nat.le_of_ble_eq_true rfl) (fit_0 rfl rfl) rfl hF (fun r6 hF => ?_)
      show K _ _ [.int r6] _ _ _
      refine k_ne hK dX1_reasonToStop_34 (tgt := 39) rfl (fun h7 => ?_) (fun h7 => ?_)
      · have hF := hF.1 h7
        refine k_ld hK 1 dX1_reasonToStop_39 rfl rfl rfl rfl ?_
        refine k_ic hK dX1_reasonToStop_40 ci_2 ?_
        refine k_cne hK dX1_reasonToStop_41 (tgt := 61) rfl (fun h8 => ?_) (fun h8 => ?_)
        · have hF := hF.1 h8
          exact k_sub hK [0, 1] rfl hF
        · have hF := hF.2 h8
          refine k_ld hK 0 dX1_reasonToStop_44 rfl rfl rfl rfl ?_
          refine k_ld hK 0 dX1_reasonToStop_45 rfl rfl rfl rfl ?_
          refine k_gR hK dX1_reasonToStop_46 lf_X1_21 rfl (sk_X1_0 hs h_o) (sr_X1_0_3 hs h_o) ?_
          refine k_gI hK dX1_reasonToStop_49 lf_X1_102 rfl (sk_X1_7 hs h_o) rfl ?_
          refine k_ic hK dX1_reasonToStop_52 ci_1 ?_
          refine k_op hK dX1_reasonToStop_53 rfl rfl ?_
          refine k_cVp hK dX1_reasonToStop_54 (Or.inl lm_X1_108) (As := [.int ((I (o + 7) 2) - 1)]) (S := []) rfl (sk_X1_0 hs h_o) (Nat.le_of_ble_eq_true rfl) (fit_0 rfl rfl) rfl hF (fun r9 hF => ?_)
          show K _ _ [.int r9] _ _ _
          refine k_ic hK dX1_reasonToStop_57 ci_m1 ?_
          refine k_ceq hK dX1_reasonToStop_58 (tgt := 84) rfl (fun h10 => ?_) (fun h10 => ?_)
          · have hF := hF.1 h10
            refine k_ic hK dX1_reasonToStop_84 ci_2 ?_
            exact k_iret hK dX1_reasonToStop_85 rfl rfl (done_0 rfl rfl) (qP_i hF)
          · have hF := hF.2 h10
            exact k_sub hK [0, 1] rfl hF
      · have hF := hF.2 h7
        refine k_ic hK dX1_reasonToStop_37 ci_1 ?_
        exact k_iret hK dX1_reasonToStop_38 rfl rfl (done_0 rfl rfl) (qP_i hF)
  · have hF := hF.2 h1
    refine k_ic hK dX1_reasonToStop_10 ci_3 ?_
    exact k_iret hK dX1_reasonToStop_11 rfl rfl (done_0 rfl rfl) (qP_i hF)
set_option maxHeartbeats 4000000 in
theorem g_X1_reasonToStop_61 {d : Nat} {K : KT} {Q : Int32 → Prop} {I : HI} {J : HJ} {R : HR} {o : Nat} {x1 : Int32} (hK : am_R M_X1_reasonToStop (am_W d) none R (qP fi I J R Q) K) (hs : Stat R) (h_o : isX1 o) (hF : ((¬ x1 = 8 → ((x1 < 3 → K 112 [(0, .ref o), (1, .int x1)] [] I J R) ∧ (¬ x1 < 3 → ((6 < x1 → K 112 [(0, .ref o), (1, .int x1)] [] I J R) ∧ (¬ 6 < x1 → (((I (o + 13) 0) < 400 → K 112 [(0, .ref o), (1, .int x1)] [] I J R) ∧ (¬ (I (o + 13) 0) < 400 → Q 4))))))) ∧ (x1 = 8 → Wp fi d M_X1_cellAt [.ref o, .int ((I (o + 7) 2) - 2)] I J R (fun r5 => ((¬ r5 = (-1) → ((x1 < 3 → K 112 [(0, .ref o), (1, .int x1)] [] I J R) ∧ (¬ x1 < 3 → ((6 < x1 → K 112 [(0, .ref o), (1, .int x1)] [] I J R) ∧ (¬ 6 < x1 → (((I (o + 13) 0) < 400 → K 112 [(0, .ref o), (1, .int x1)] [] I J R) ∧ (¬ (I (o + 13) 0) < 400 → Q 4))))))) ∧ (r5 = (-1) → Q 2)))))) : K 61 [(0, .ref o), (1, .int x1)] [] I J R := by
  refine k_ld hK 1 dX1_reasonToStop_61 rfl rfl rfl rfl ?_
  refine k_bi hK dX1_reasonToStop_62 cb_8 ?_
  refine k_cne hK dX1_reasonToStop_64 (tgt := 86) rfl (fun h1 => ?_) (fun h1 => ?_)
  · have hF := hF.1 h1
    refine k_ld hK 1 dX1_reasonToStop_86 rfl rfl rfl rfl ?_
    refine k_ic hK dX1_reasonToStop_87 ci_3 ?_
    refine k_clt hK dX1_reasonToStop_88 (tgt := 112) rfl (fun h2 => ?_) (fun h2 => ?_)
    · have hF := hF.1 h2
      exact k_sub hK [0, 1] rfl hF
    · have hF := hF.2 h2
      refine k_ld hK 1 dX1_reasonToStop_91 rfl rfl rfl rfl ?_
      refine k_bi hK dX1_reasonToStop_92 cb_6 ?_
      refine k_cgt hK dX1_reasonToStop_94 (tgt := 112) rfl (fun h3 => ?_) (fun h3 => ?_)
      · have hF := hF.1 h3
        exact k_sub hK [0, 1] rfl hF
      · have hF := hF.2 h3
        refine k_ld hK 0 dX1_reasonToStop_97 rfl rfl rfl rfl ?_
        refine k_gR hK dX1_reasonToStop_98 lf_X1_30 rfl (sk_X1_0 hs h_o) (sr_X1_0_5 hs h_o) ?_
        refine k_gI hK dX1_reasonToStop_101 lf_X1_96 rfl (sk_X1_13 hs h_o) rfl ?_
        refine k_si hK dX1_reasonToStop_104 cs_400 ?_
        refine k_clt hK dX1_reasonToStop_107 (tgt := 112) rfl (fun h4 => ?_) (fun h4 => ?_)
        · have hF := hF.1 h4
          exact k_sub hK [0, 1] rfl hF
        · have hF := hF.2 h4
          refine k_ic hK dX1_reasonToStop_110 ci_4 ?_
          exact k_iret hK dX1_reasonToStop_111 rfl rfl (done_0 rfl rfl) (qP_i hF)
  · have hF := hF.2 h1
    refine k_ld hK 0 dX1_reasonToStop_67 rfl rfl rfl rfl ?_
    refine k_ld hK 0 dX1_reasonToStop_68 rfl rfl rfl rfl ?_
    refine k_gR hK dX1_reasonToStop_69 lf_X1_21 rfl (sk_X1_0 hs h_o) (sr_X1_0_3 hs h_o) ?_
    refine k_gI hK dX1_reasonToStop_72 lf_X1_102 rfl (sk_X1_7 hs h_o) rfl ?_
    refine k_ic hK dX1_reasonToStop_75 ci_2 ?_
    refine k_op hK dX1_reasonToStop_76 rfl rfl ?_
    refine k_cVp hK dX1_reasonToStop_77 (Or.inl lm_X1_108) (As := [.int ((I (o + 7) 2) - 2)]) (S := []) rfl (sk_X1_0 hs h_o) (Nat.le_of_ble_eq_true rfl) (fit_0 rfl rfl) rfl hF (fun r5 hF => ?_)
    show K _ _ [.int r5] _ _ _
    refine k_ic hK dX1_reasonToStop_80 ci_m1 ?_
    refine k_cne hK dX1_reasonToStop_81 (tgt := 86) rfl (fun h6 => ?_) (fun h6 => ?_)
    · have hF := hF.1 h6
      refine k_ld hK 1 dX1_reasonToStop_86 rfl rfl rfl rfl ?_
      refine k_ic hK dX1_reasonToStop_87 ci_3 ?_
      refine k_clt hK dX1_reasonToStop_88 (tgt := 112) rfl (fun h7 => ?_) (fun h7 => ?_)
      · have hF := hF.1 h7
        exact k_sub hK [0, 1] rfl hF
      · have hF := hF.2 h7
        refine k_ld hK 1 dX1_reasonToStop_91 rfl rfl rfl rfl ?_
        refine k_bi hK dX1_reasonToStop_92 cb_6 ?_
        refine k_cgt hK dX1_reasonToStop_94 (tgt := 112) rfl (fun h8 => ?_) (fun h8 => ?_)
        · have hF := hF.1 h8
          exact k_sub hK [0, 1] rfl hF
        · have hF := hF.2 h8
          refine k_ld hK 0 dX1_reasonToStop_97 rfl rfl rfl rfl ?_
          refine k_gR hK dX1_reasonToStop_98 lf_X1_30 rfl (sk_X1_0 hs h_o) (sr_X1_0_5 hs h_o) ?_
          refine k_gI hK dX1_reasonToStop_101 lf_X1_96 rfl (sk_X1_13 hs h_o) rfl ?_
          refine k_si hK dX1_reasonToStop_104 cs_400 ?_
          refine k_clt hK dX1_reasonToStop_107 (tgt := 112) rfl (fun h9 => ?_) (fun h9 => ?_)
          · have hF := hF.1 h9
            exact k_sub hK [0, 1] rfl hF
          · have hF := hF.2 h9
            refine k_ic hK dX1_reasonToStop_110 ci_4 ?_
            exact k_iret hK dX1_reasonToStop_111 rfl rfl (done_0 rfl rfl) (qP_i hF)
    · have hF := hF.2 h6
      refine k_ic hK dX1_reasonToStop_84 ci_2 ?_
      exact k_iret hK dX1_reasonToStop_85 rfl rfl (done_0 rfl rfl) (qP_i hF)
set_option maxHeartbeats 4000000 in
theorem g_X1_reasonToStop_112 {d : Nat} {K : KT} {Q : Int32 → Prop} {I : HI} {J : HJ} {R : HR} {o : Nat} {x1 : Int32} (hK : am_R M_X1_reasonToStop (am_W d) none R (qP fi I J R Q) K) (hs : Stat R) (h_o : isX1 o) (hF : ((¬ x1 = 9 → Q 0) ∧ (x1 = 9 → (((I (o + 10) 2) < 20 → Q 0) ∧ (¬ (I (o + 10) 2) < 20 → Q 5))))) : K 112 [(0, .ref o), (1, .int x1)] [] I J R := by
  refine k_ld hK 1 dX1_reasonToStop_112 rfl rfl rfl rfl ?_
  refine k_bi hK dX1_reasonToStop_113 cb_9 ?_
  refine k_cne hK dX1_reasonToStop_115 (tgt := 134) rfl (fun h1 => ?_) (fun h1 => ?_)
  · have hF := hF.1 h1
    refine k_ic hK dX1_reasonToStop_134 ci_0 ?_
    exact k_iret hK dX1_reasonToStop_135 rfl rfl (done_0 rfl rfl) (qP_i hF)
  · have hF := hF.2 h1
    refine k_ld hK 0 dX1_reasonToStop_118 rfl rfl rfl rfl ?_
    refine k_gR hK dX1_reasonToStop_119 lf_X1_24 rfl (sk_X1_0 hs h_o) (sr_X1_0_4 hs h_o) ?_
    refine k_gI hK dX1_reasonToStop_122 lf_X1_102 rfl (sk_X1_10 hs h_o) rfl ?_
    refine k_bi hK dX1_reasonToStop_125 cb_20 ?_
    refine k_clt hK dX1_reasonToStop_127 (tgt := 134) rfl (fun h2 => ?_) (fun h2 => ?_)
    · have hF := hF.1 h2
      refine k_ic hK dX1_reasonToStop_134 ci_0 ?_
      exact k_iret hK dX1_reasonToStop_135 rfl rfl (done_0 rfl rfl) (qP_i hF)
    · have hF := hF.2 h2
      refine k_ic hK dX1_reasonToStop_130 ci_5 ?_
      refine k_goto hK dX1_reasonToStop_131 (tgt := 135) rfl ?_
      exact k_iret hK dX1_reasonToStop_135 rfl rfl (done_0 rfl rfl) (qP_i hF)
set_option maxHeartbeats 4000000 in
theorem g_X1_cellAt_0 {d : Nat} {K : KT} {Q : Int32 → Prop} {I : HI} {J : HJ} {R : HR} {o : Nat} {x1 : Int32} (hK : am_R M_X1_cellAt (am_W d) none R (qP fi I J R Q) K) (hs : Stat R) (h_o : isX1 o) (hF : (∃ p1 : Nat, (R o 0) = some p1 ∧ isX5 p1 ∧ Wp fi d M_X5_operandAt [.ref p1, .int (I o 9)] I J R (fun r3 => Wp fi d M_X8_valueAt [.ref (o + 7), .int x1] I J R (fun r4 => Wp fi d M_X5_cellOf [.ref p1, .int r3, .int r4] I J R (fun r5 => Q r5))))) : K 0 [(0, .ref o), (1, .int x1)] [] I J R := by
  refine k_ld hK 0 dX1_cellAt_0 rfl rfl rfl rfl ?_
  obtain ⟨p1, e2, h_p1, hF⟩ := hF
  refine k_gR hK dX1_cellAt_1 lf_X1_45 rfl (sk_X1_0 hs h_o) e2 ?_
  refine k_ld hK 0 dX1_cellAt_4 rfl rfl rfl rfl ?_
  refine k_gR hK dX1_cellAt_5 lf_X1_45 rfl (sk_X1_0 hs h_o) e2 ?_
  refine k_ld hK 0 dX1_cellAt_8 rfl rfl rfl rfl ?_
  refine k_gI hK dX1_cellAt_9 lf_X1_53 rfl (sk_X1_0 hs h_o) rfl ?_
  refine k_cVp hK dX1_cellAt_12 (Or.inl lm_X1_72) (As := [.int (I o 9)]) (S := [.ref p1]) rfl (sk_X5_0 hs h_p1) (Nat.le_of_ble_eq_true rfl) (fit_0 rfl rfl) rfl hF (fun r3 hF => ?_)
  show K _ _ [.int r3, .ref p1] _ _ _
  refine k_ld hK 0 dX1_cellAt_15 rfl rfl rfl rfl ?_
  refine k_gR hK dX1_cellAt_16 lf_X1_21 rfl (sk_X1_0 hs h_o) (sr_X1_0_3 hs h_o) ?_
  refine k_ld hK 1 dX1_cellAt_19 rfl rfl rfl rfl ?_
  refine k_cVp hK dX1_cellAt_20 (Or.inl lm_X1_105) (As := [.int x1]) (S := [.int r3, .ref p1]) rfl (sk_X1_7 hs h_o) (Nat.le_of_ble_eq_true rfl) (fit_0 rfl rfl) rfl hF (fun r4 hF => ?_)
  show K _ _ [.int r4, .int r3, .ref p1] _ _ _
  refine k_cVp hK dX1_cellAt_23 (Or.inl lm_X1_111) (As := [.int r3, .int r4]) (S := []) rfl (sk_X5_0 hs h_p1) (Nat.le_of_ble_eq_true rfl) (fit_0 rfl rfl) rfl hF (fun r5 hF => ?_)
  show K _ _ [.int r5] _ _ _
  exact k_iret hK dX1_cellAt_26 rfl rfl (done_0 rfl rfl) (qP_i hF)
theorem e_X1_cellAt {d : Nat} {Q : Int32 → Prop} {I : HI} {J : HJ} {R : HR} {o : Nat} {x1 : Int32} (hs : Stat R) (h_o : isX1 o) (hF : (∃ p1 : Nat, (R o 0) = some p1 ∧ isX5 p1 ∧ Wp fi d M_X5_operandAt [.ref p1, .int (I o 9)] I J R (fun r3 => Wp fi d M_X8_valueAt [.ref (o + 7), .int x1] I J R (fun r4 => Wp fi d M_X5_cellOf [.ref p1, .int r3, .int r4] I J R (fun r5 => Q r5))))) : Wp fi (d + 1) M_X1_cellAt [.ref o, .int x1] I J R Q := ⟨Nat.le_of_ble_eq_true rfl, fun K hK => g_X1_cellAt_0 hK hs h_o hF⟩
set_option maxHeartbeats 4000000 in
theorem g_X1_perform_0 {d : Nat} {K : KT} {Q : Unit → HI → Prop} {I : HI} {J : HJ} {R : HR} {o : Nat} {x1 : Int32} {x2 : Int32} (hK : am_R M_X1_perform (am_W d) none R (qC fv J R Q) K) (hs : Stat R) (h_o : isX1 o) (hF : ((x1 = 0 → Wc fv d M_X8_add [.ref (o + 7), .int x2, .int (-2)] I J R (fun u2 I3 => K 323 [(0, .ref o), (4, .int ((I o 9) + 1))] [] I3 J R)) ∧ (¬ x1 = 0 → ((x1 = 1 → Wp fi d M_X8_valueAt [.ref (o + 1), .int x2] I J R (fun r5 => Wp fi d M_X8_sourceAt [.ref (o + 1), .int x2] I J R (fun r6 => Wc fv d M_X8_add [.ref (o + 7), .int r5, .int r6] I J R (fun u7 I8 => K 323 [(0, .ref o), (4, .int ((I o 9) + 1))] [] I8 J R)))) ∧ (¬ x1 = 1 → ((x1 = 2 → Wp fi d M_X1_cellAt [.ref o, .int ((I (o + 7) 2) - 1)] I J R (fun r10 => Wc fv d M_X1_fetch [.ref o, .int r10] I J R (fun u11 I12 => K 323 [(0, .ref o), (4, .int ((I o 9) + 1))] [] I12 J R))) ∧ (¬ x1 = 2 → ((x1 = 3 → K 307 [(0, .ref o), (1, .int x1), (4, .int ((I o 9) + 1))] [] I J R) ∧ (¬ x1 = 3 → ((x1 = 4 → K 307 [(0, .ref o), (1, .int x1), (4, .int ((I o 9) + 1))] [] I J R) ∧ (¬ x1 = 4 → ((x1 = 5 → K 307 [(0, .ref o), (1, .int x1), (4, .int ((I o 9) + 1))] [] I J R) ∧ (¬ x1 = 5 → ((x1 = 6 → K 307 [(0, .ref o), (1, .int x1), (4, .int ((I o 9) + 1))] [] I J R) ∧ (¬ x1 = 6 → ((x1 = 7 → Wp fi d M_X8_valueAt [.ref (o + 7), .int ((I (o + 7) 2) - 1)] I J R (fun r18 => Wp fi d M_X8_sourceAt [.ref (o + 7), .int ((I (o + 7) 2) - 1)] I J R (fun r19 => Wc fv d M_X8_put [.ref (o + 1), .int x2, .int r18, .int r19] I J R (fun u20 I21 => Wc fv d M_X8_drop [.ref (o + 7), .int 1] I21 J R (fun u22 I23 => K 323 [(0, .ref o), (4, .int ((I o 9) + 1))] [] I23 J R))))) ∧ (¬ x1 = 7 → ((x1 = 8 → Wp fi d M_X1_cellAt [.ref o, .int (((I (o + 7) 2) - 1) - 1)] I J R (fun r25 => Wp fi d M_X8_valueAt [.ref (o + 7), .int ((I (o + 7) 2) - 1)] I J R (fun r26 => Wp fi d M_X8_sourceAt [.ref (o + 7), .int ((I (o + 7) 2) - 1)] I J R (fun r27 => Wc fv d M_X8_put [.ref (o + 4), .int r25, .int r26, .int r27] I J R (fun u28 I29 => Wc fv d M_X8_drop [.ref (o + 7), .int 2] I29 J R (fun u30 I31 => K 323 [(0, .ref o), (4, .int ((I o 9) + 1))] [] I31 J R)))))) ∧ (¬ x1 = 8 → ((x1 = 9 → Wp fi d M_X8_valueAt [.ref (o + 7), .int ((I (o + 7) 2) - 1)] I J R (fun r33 => Wp fi d M_X8_sourceAt [.ref (o + 7), .int ((I (o + 7) 2) - 1)] I J R (fun r34 => Wc fv d M_X8_add [.ref (o + 10), .int r33, .int r34] I J R (fun u35 I36 => Wc fv d M_X8_drop [.ref (o + 7), .int 1] I36 J R (fun u37 I38 => K 323 [(0, .ref o), (4, .int ((I o 9) + 1))] [] I38 J R))))) ∧ (¬ x1 = 9 → ((x1 = 10 → Wc fv d M_X1_beginLoop [.ref o, .int x2] I J R (fun u40 I41 => K 323 [(0, .ref o), (4, .int ((I o 9) + 1))] [] I41 J R)) ∧ (¬ x1 = 10 → ((x1 = 11 → Wc fb d M_X1_goesRound [.ref o, .int (x2 - 1)] I J R (fun b43 I44 => ((b43 = false → K 323 [(0, .ref o), (4, .int ((I o 9) + 1))] [] I44 J R) ∧ (b43 = true → K 323 [(0, .ref o), (4, .int x2)] [] I44 J R)))) ∧ (¬ x1 = 11 → ((x1 = 12 → Wc fb d M_X1_isSo [.ref o, .int x1] I J R (fun b47 I48 => ((b47 = false → K 323 [(0, .ref o), (4, .int x2)] [] I48 J R) ∧ (b47 = true → K 323 [(0, .ref o), (4, .int ((I o 9) + 1))] [] I48 J R)))) ∧ (¬ x1 = 12 → ((x1 = 13 → Wc fb d M_X1_isSo [.ref o, .int x1] I J R (fun b51 I52 => ((b51 = false → K 323 [(0, .ref o), (4, .int x2)] [] I52 J R) ∧ (b51 = true → K 323 [(0, .ref o), (4, .int ((I o 9) + 1))] [] I52 J R)))) ∧ (¬ x1 = 13 → ((x1 = 14 → K 323 [(0, .ref o), (4, .int x2)] [] I J R) ∧ (¬ x1 = 14 → K 307 [(0, .ref o), (1, .int x1), (4, .int ((I o 9) + 1))] [] I J R))))))))))))))))))))))))))))))) : K 0 [(0, .ref o), (1, .int x1), (2, .int x2)] [] I J R := by
  refine k_ld hK 0 dX1_perform_0 rfl rfl rfl rfl ?_
  refine k_gR hK dX1_perform_1 lf_X1_21 rfl (sk_X1_0 hs h_o) (sr_X1_0_3 hs h_o) ?_
  refine k_gI hK dX1_perform_4 lf_X1_102 rfl (sk_X1_7 hs h_o) rfl ?_
  refine k_ic hK dX1_perform_7 ci_1 ?_
  refine k_op hK dX1_perform_8 rfl rfl ?_
  refine k_st hK dX1_perform_9 rfl rfl rfl (Nat.le_of_ble_eq_true rfl) rfl ?_
  refine k_ld hK 1 dX1_perform_10 rfl rfl rfl rfl ?_
  refine k_gI hK dX1_perform_11 lf_X1_53 rfl (sk_X1_0 hs h_o) rfl ?_
  refine k_ic hK dX1_perform_14 ci_1 ?_
  refine k_op hK dX1_perform_15 rfl rfl ?_
  refine k_st hK dX1_perform_16 rfl rfl rfl (Nat.le_of_ble_eq_true rfl) rfl ?_
  refine k_ld hK 3 dX1_perform_18 rfl rfl rfl rfl ?_
  refine k_tab hK dX1_perform_19 (cs := [(0, 92), (1, 105), (2, 131), (3, 307), (4, 307), (5, 307), (6, 307), (7, 143), (8, 178), (9, 219), (10, 253), (11, 261), (12, 282), (13, 282), (14, 301)]) (td := 307) (by decide) (by decide) ?_
  refine swc (fun h1 => ?_) (fun h1 => ?_)
  · have hF := hF.1 h1
    refine k_ld hK 2 dX1_perform_92 rfl rfl rfl rfl ?_
    refine k_gR hK dX1_perform_93 lf_X1_21 rfl (sk_X1_0 hs h_o) (sr_X1_0_3 hs h_o) ?_
    refine k_ld hK 4 dX1_perform_96 rfl rfl rfl rfl ?_
    refine k_bi hK dX1_perform_97 cb_m2 ?_
    refine k_cVc hK dX1_perform_99 (Or.inl lm_X1_115) (As := [.int x2, .int (-2)]) (S := []) rfl (sk_X1_7 hs h_o) (Nat.le_of_ble_eq_true rfl) (fit_0 rfl rfl) rfl hF (fun u2 I3 hF => ?_)
    show K _ _ [] _ _ _
    refine k_goto hK dX1_perform_102 (tgt := 323) rfl ?_
    exact k_sub hK [2, 0] rfl hF
  have hF := hF.2 h1
  refine swc (fun h4 => ?_) (fun h4 => ?_)
  · have hF := hF.1 h4
    refine k_ld hK 2 dX1_perform_105 rfl rfl rfl rfl ?_
    refine k_gR hK dX1_perform_106 lf_X1_21 rfl (sk_X1_0 hs h_o) (sr_X1_0_3 hs h_o) ?_
    refine k_ld hK 2 dX1_perform_109 rfl rfl rfl rfl ?_
    refine k_gR hK dX1_perform_110 lf_X1_12 rfl (sk_X1_0 hs h_o) (sr_X1_0_1 hs h_o) ?_
    refine k_ld hK 4 dX1_perform_113 rfl rfl rfl rfl ?_
    refine k_cVp hK dX1_perform_114 (Or.inl lm_X1_105) (As := [.int x2]) (S := [.ref (o + 7)]) rfl (sk_X1_1 hs h_o) (Nat.le_of_ble_eq_true rfl) (fit_0 rfl rfl) rfl hF (fun r5 hF => ?_)
    show K _ _ [.int r5, .ref (o + 7)] _ _ _
    refine k_ld hK 2 dX1_perform_117 rfl rfl rfl rfl ?_
    refine k_gR hK dX1_perform_118 lf_X1_12 rfl (sk_X1_0 hs h_o) (sr_X1_0_1 hs h_o) ?_
    refine k_ld hK 4 dX1_perform_121 rfl rfl rfl rfl ?_
    refine k_cVp hK dX1_perform_122 (Or.inl lm_X1_118) (As := [.int x2]) (S := [.int r5, .ref (o + 7)]) rfl (sk_X1_1 hs h_o) (Nat.le_of_ble_eq_true rfl) (fit_0 rfl rfl) rfl hF (fun r6 hF => ?_)
    show K _ _ [.int r6, .int r5, .ref (o + 7)] _ _ _
    refine k_cVc hK dX1_perform_125 (Or.inl lm_X1_115) (As := [.int r5, .int r6]) (S := []) rfl (sk_X1_7 hs h_o) (Nat.le_of_ble_eq_true rfl) (fit_0 rfl rfl) rfl hF (fun u7 I8 hF => ?_)
    show K _ _ [] _ _ _
    refine k_goto hK dX1_perform_128 (tgt := 323) rfl ?_
    exact k_sub hK [2, 0] rfl hF
  have hF := hF.2 h4
  refine swc (fun h9 => ?_) (fun h9 => ?_)
  · have hF := hF.1 h9
    refine k_ld hK 2 dX1_perform_131 rfl rfl rfl rfl ?_
    refine k_ld hK 2 dX1_perform_132 rfl rfl rfl rfl ?_
    refine k_ld hK 1 dX1_perform_133 rfl rfl rfl rfl ?_
    refine k_cVp hK dX1_perform_134 (Or.inl lm_X1_108) (As := [.int ((I (o + 7) 2) - 1)]) (S := [.ref o]) rfl (sk_X1_0 hs h_o) (Nat.le_of_ble_eq_true rfl) (fit_0 rfl rfl) rfl hF (fun r10 hF => ?_)
    show K _ _ [.int r10, .ref o] _ _ _
    refine k_cVc hK dX1_perform_137 (Or.inl lm_X1_121) (As := [.int r10]) (S := []) rfl (sk_X1_0 hs h_o) (Nat.le_of_ble_eq_true rfl) (fit_0 rfl rfl) rfl hF (fun u11 I12 hF => ?_)
    show K _ _ [] _ _ _
    refine k_goto hK dX1_perform_140 (tgt := 323) rfl ?_
    exact k_sub hK [2, 0] rfl hF
  have hF := hF.2 h9
  refine swc (fun h13 => ?_) (fun h13 => ?_)
  · have hF := hF.1 h13
    exact k_sub hK [2, 3, 0] rfl hF
  have hF := hF.2 h13
  refine swc (fun h14 => ?_) (fun h14 => ?_)
  · have hF := hF.1 h14
    exact k_sub hK [2, 3, 0] rfl hF
  have hF := hF.2 h14
  refine swc (fun h15 => ?_) (fun h15 => ?_)
  · have hF := hF.1 h15
    exact k_sub hK [2, 3, 0] rfl hF
  have hF := hF.2 h15
  refine swc (fun h16 => ?_) (fun h16 => ?_)
  · have hF := hF.1 h16
    exact k_sub hK [2, 3, 0] rfl hF
  have hF := hF.2 h16
  refine swc (fun h17 => ?_) (fun h17 => ?_)
  · have hF := hF.1 h17
    refine k_ld hK 2 dX1_perform_143 rfl rfl rfl rfl ?_
    refine k_gR hK dX1_perform_144 lf_X1_12 rfl (sk_X1_0 hs h_o) (sr_X1_0_1 hs h_o) ?_
    refine k_ld hK 4 dX1_perform_147 rfl rfl rfl rfl ?_
    refine k_ld hK 2 dX1_perform_148 rfl rfl rfl rfl ?_
    refine k_gR hK dX1_perform_149 lf_X1_21 rfl (sk_X1_0 hs h_o) (sr_X1_0_3 hs h_o) ?_
    refine k_ld hK 1 dX1_perform_152 rfl rfl rfl rfl ?_
    refine k_cVp hK dX1_perform_153 (Or.inl lm_X1_105) (As := [.int ((I (o + 7) 2) - 1)]) (S := [.int x2, .ref (o + 1)]) rfl (sk_X1_7 hs h_o) (Nat.le_of_ble_eq_true rfl) (fit_0 rfl rfl) rfl hF (fun r18 hF => ?_)
    show K _ _ [.int r18, .int x2, .ref (o + 1)] _ _ _
    refine k_ld hK 2 dX1_perform_156 rfl rfl rfl rfl ?_
    refine k_gR hK dX1_perform_157 lf_X1_21 rfl (sk_X1_0 hs h_o) (sr_X1_0_3 hs h_o) ?_
    refine k_ld hK 1 dX1_perform_160 rfl rfl rfl rfl ?_
    refine k_cVp hK dX1_perform_161 (Or.inl lm_X1_118) (As := [.int ((I (o + 7) 2) - 1)]) (S := [.int r18, .int x2, .ref (o + 1)]) rfl (sk_X1_7 hs h_o) (Nat.le_of_ble_eq_true rfl) (fit_0 rfl rfl) rfl hF (fun r19 hF => ?_)
    show K _ _ [.int r19, .int r18, .int x2, .ref (o + 1)] _ _ _
    refine k_cVc hK dX1_perform_164 (Or.inl lm_X1_90) (As := [.int x2, .int r18, .int r19]) (S := []) rfl (sk_X1_1 hs h_o) (Nat.le_of_ble_eq_true rfl) (fit_0 rfl rfl) rfl hF (fun u20 I21 hF => ?_)
    show K _ _ [] _ _ _
    refine k_ld hK 2 dX1_perform_167 rfl rfl rfl rfl ?_
    refine k_gR hK dX1_perform_168 lf_X1_21 rfl (sk_X1_0 hs h_o) (sr_X1_0_3 hs h_o) ?_
    refine k_ic hK dX1_perform_171 ci_1 ?_
    refine k_cVc hK dX1_perform_172 (Or.inl lm_X1_124) (As := [.int 1]) (S := []) rfl (sk_X1_7 hs h_o) (Nat.le_of_ble_eq_true rfl) (fit_0 rfl rfl) rfl hF (fun u22 I23 hF => ?_)
    show K _ _ [] _ _ _
    refine k_goto hK dX1_perform_175 (tgt := 323) rfl ?_
    exact k_sub hK [2, 0] rfl hF
  have hF := hF.2 h17
  refine swc (fun h24 => ?_) (fun h24 => ?_)
  · have hF := hF.1 h24
    refine k_ld hK 2 dX1_perform_178 rfl rfl rfl rfl ?_
    refine k_gR hK dX1_perform_179 lf_X1_18 rfl (sk_X1_0 hs h_o) (sr_X1_0_2 hs h_o) ?_
    refine k_ld hK 2 dX1_perform_182 rfl rfl rfl rfl ?_
    refine k_ld hK 1 dX1_perform_183 rfl rfl rfl rfl ?_
    refine k_ic hK dX1_perform_184 ci_1 ?_
    refine k_op hK dX1_perform_185 rfl rfl ?_
    refine k_cVp hK dX1_perform_186 (Or.inl lm_X1_108) (As := [.int (((I (o + 7) 2) - 1) - 1)]) (S := [.ref (o + 4)]) rfl (sk_X1_0 hs h_o) (Nat.le_of_ble_eq_true rfl) (fit_0 rfl rfl) rfl hF (fun r25 hF => ?_)
    show K _ _ [.int r25, .ref (o + 4)] _ _ _
    refine k_ld hK 2 dX1_perform_189 rfl rfl rfl rfl ?_
    refine k_gR hK dX1_perform_190 lf_X1_21 rfl (sk_X1_0 hs h_o) (sr_X1_0_3 hs h_o) ?_
    refine k_ld hK 1 dX1_perform_193 rfl rfl rfl rfl ?_
    refine k_cVp hK dX1_perform_194 (Or.inl lm_X1_105) (As := [.int ((I (o + 7) 2) - 1)]) (S := [.int r25, .ref (o + 4)]) rfl (sk_X1_7 hs h_o) (Nat.le_of_ble_eq_true rfl) (fit_0 rfl rfl) rfl hF (fun r26 hF => ?_)
    show K _ _ [.int r26, .int r25, .ref (o + 4)] _ _ _
    refine k_ld hK 2 dX1_perform_197 rfl rfl rfl rfl ?_
    refine k_gR hK dX1_perform_198 lf_X1_21 rfl (sk_X1_0 hs h_o) (sr_X1_0_3 hs h_o) ?_
    refine k_ld hK 1 dX1_perform_201 rfl rfl rfl rfl ?_
    refine k_cVp hK dX1_perform_202 (Or.inl lm_X1_118) (As := [.int ((I (o + 7) 2) - 1)]) (S := [.int r26, .int r25, .ref (o + 4)]) rfl (sk_X1_7 hs h_o) (Nat.le_of_ble_eq_true rfl) (fit_0 rfl rfl) rfl hF (fun r27 hF => ?_)
    show K _ _ [.int r27, .int r26, .int r25, .ref (o + 4)] _ _ _
    refine k_cVc hK dX1_perform_205 (Or.inl lm_X1_90) (As := [.int r25, .int r26, .int r27]) (S := []) rfl (sk_X1_4 hs h_o) (Nat.le_of_ble_eq_true rfl) (fit_0 rfl rfl) rfl hF (fun u28 I29 hF => ?_)
    show K _ _ [] _ _ _
    refine k_ld hK 2 dX1_perform_208 rfl rfl rfl rfl ?_
    refine k_gR hK dX1_perform_209 lf_X1_21 rfl (sk_X1_0 hs h_o) (sr_X1_0_3 hs h_o) ?_
    refine k_ic hK dX1_perform_212 ci_2 ?_
    refine k_cVc hK dX1_perform_213 (Or.inl lm_X1_124) (As := [.int 2]) (S := []) rfl (sk_X1_7 hs h_o) (Nat.le_of_ble_eq_true rfl) (fit_0 rfl rfl) rfl hF (fun u30 I31 hF => ?_)
    show K _ _ [] _ _ _
    refine k_goto hK dX1_perform_216 (tgt := 323) rfl ?_
    exact k_sub hK [2, 0] rfl hF
  have hF := hF.2 h24
  refine swc (fun h32 => ?_) (fun h32 => ?_)
  · have hF := hF.1 h32
    refine k_ld hK 2 dX1_perform_219 rfl rfl rfl rfl ?_
    refine k_gR hK dX1_perform_220 lf_X1_24 rfl (sk_X1_0 hs h_o) (sr_X1_0_4 hs h_o) ?_
    refine k_ld hK 2 dX1_perform_223 rfl rfl rfl rfl ?_
    refine k_gR hK dX1_perform_224 lf_X1_21 rfl (sk_X1_0 hs h_o) (sr_X1_0_3 hs h_o) ?_
    refine k_ld hK 1 dX1_perform_227 rfl rfl rfl rfl ?_
    refine k_cVp hK dX1_perform_228 (Or.inl lm_X1_105) (As := [.int ((I (o + 7) 2) - 1)]) (S := [.ref (o + 10)]) rfl (sk_X1_7 hs h_o) (Nat.le_of_ble_eq_true rfl) (fit_0 rfl rfl) rfl hF (fun r33 hF => ?_)
    show K _ _ [.int r33, .ref (o + 10)] _ _ _
    refine k_ld hK 2 dX1_perform_231 rfl rfl rfl rfl ?_
    refine k_gR hK dX1_perform_232 lf_X1_21 rfl (sk_X1_0 hs h_o) (sr_X1_0_3 hs h_o) ?_
    refine k_ld hK 1 dX1_perform_235 rfl rfl rfl rfl ?_
    refine k_cVp hK dX1_perform_236 (Or.inl lm_X1_118) (As := [.int ((I (o + 7) 2) - 1)]) (S := [.int r33, .ref (o + 10)]) rfl (sk_X1_7 hs h_o) (Nat.le_of_ble_eq_true rfl) (fit_0 rfl rfl) rfl hF (fun r34 hF => ?_)
    show K _ _ [.int r34, .int r33, .ref (o + 10)] _ _ _
    refine k_cVc hK dX1_perform_239 (Or.inl lm_X1_115) (As := [.int r33, .int r34]) (S := []) rfl (sk_X1_10 hs h_o) (Nat.le_of_ble_eq_true rfl) (fit_0 rfl rfl) rfl hF (fun u35 I36 hF => ?_)
    show K _ _ [] _ _ _
    refine k_ld hK 2 dX1_perform_242 rfl rfl rfl rfl ?_
    refine k_gR hK dX1_perform_243 lf_X1_21 rfl (sk_X1_0 hs h_o) (sr_X1_0_3 hs h_o) ?_
    refine k_ic hK dX1_perform_246 ci_1 ?_
    refine k_cVc hK dX1_perform_247 (Or.inl lm_X1_124) (As := [.int 1]) (S := []) rfl (sk_X1_7 hs h_o) (Nat.le_of_ble_eq_true rfl) (fit_0 rfl rfl) rfl hF (fun u37 I38 hF => ?_)
    show K _ _ [] _ _ _
    refine k_goto hK dX1_perform_250 (tgt := 323) rfl ?_
    exact k_sub hK [2, 0] rfl hF
  have hF := hF.2 h32
  refine swc (fun h39 => ?_) (fun h39 => ?_)
  · have hF := hF.1 h39
    refine k_ld hK 2 dX1_perform_253 rfl rfl rfl rfl ?_
    refine k_ld hK 4 dX1_perform_254 rfl rfl rfl rfl ?_
    refine k_cVc hK dX1_perform_255 (Or.inl lm_X1_127) (As := [.int x2]) (S := []) rfl (sk_X1_0 hs h_o) (Nat.le_of_ble_eq_true rfl) (fit_0 rfl rfl) rfl hF (fun u40 I41 hF => ?_)
    show K _ _ [] _ _ _
    refine k_goto hK dX1_perform_258 (tgt := 323) rfl ?_
    exact k_sub hK [2, 0] rfl hF
  have hF := hF.2 h39
  refine swc (fun h42 => ?_) (fun h42 => ?_)
  · have hF := hF.1 h42
    refine k_ld hK 2 dX1_perform_261 rfl rfl rfl rfl ?_
    refine k_ld hK 4 dX1_perform_262 rfl rfl rfl rfl ?_
    refine k_ic hK dX1_perform_263 ci_1 ?_
    refine k_op hK dX1_perform_264 rfl rfl ?_
    refine k_cVc hK dX1_perform_265 (Or.inl lm_X1_130) (As := [.int (x2 - 1)]) (S := []) rfl (sk_X1_0 hs h_o) (Nat.le_of_ble_eq_true rfl) (fit_0 rfl rfl) rfl hF (fun b43 I44 hF => ?_)
    show K _ _ [.int (b2i b43)] _ _ _
    refine k_beq hK dX1_perform_268 (tgt := 275) rfl (fun h45 => ?_) (fun h45 => ?_)
    · have hF := hF.1 h45
      refine k_ld hK 0 dX1_perform_275 rfl rfl rfl rfl ?_
      refine k_st hK dX1_perform_277 rfl rfl rfl (Nat.le_of_ble_eq_true rfl) rfl ?_
      refine k_goto hK dX1_perform_279 (tgt := 323) rfl ?_
      exact k_sub hK [2, 0] rfl hF
    · have hF := hF.2 h45
      refine k_ld hK 4 dX1_perform_271 rfl rfl rfl rfl ?_
      refine k_goto hK dX1_perform_272 (tgt := 277) rfl ?_
      refine k_st hK dX1_perform_277 rfl rfl rfl (Nat.le_of_ble_eq_true rfl) rfl ?_
      refine k_goto hK dX1_perform_279 (tgt := 323) rfl ?_
      exact k_sub hK [2, 0] rfl hF
  have hF := hF.2 h42
  refine swc (fun h46 => ?_) (fun h46 => ?_)
  · have hF := hF.1 h46
    refine k_ld hK 2 dX1_perform_282 rfl rfl rfl rfl ?_
    refine k_ld hK 3 dX1_perform_283 rfl rfl rfl rfl ?_
    refine k_cVc hK dX1_perform_284 (Or.inl lm_X1_134) (As := [.int x1]) (S := []) rfl (sk_X1_0 hs h_o) (Nat.le_of_ble_eq_true rfl) (fit_0 rfl rfl) rfl hF (fun b47 I48 hF => ?_)
    show K _ _ [.int (b2i b47)] _ _ _
    refine k_beq hK dX1_perform_287 (tgt := 295) rfl (fun h49 => ?_) (fun h49 => ?_)
    · have hF := hF.1 h49
      refine k_ld hK 4 dX1_perform_295 rfl rfl rfl rfl ?_
      refine k_st hK dX1_perform_296 rfl rfl rfl (Nat.le_of_ble_eq_true rfl) rfl ?_
      refine k_goto hK dX1_perform_298 (tgt := 323) rfl ?_
      exact k_sub hK [2, 0] rfl hF
    · have hF := hF.2 h49
      refine k_ld hK 0 dX1_perform_290 rfl rfl rfl rfl ?_
      refine k_goto hK dX1_perform_292 (tgt := 296) rfl ?_
      refine k_st hK dX1_perform_296 rfl rfl rfl (Nat.le_of_ble_eq_true rfl) rfl ?_
      refine k_goto hK dX1_perform_298 (tgt := 323) rfl ?_
      exact k_sub hK [2, 0] rfl hF
  have hF := hF.2 h46
  refine swc (fun h50 => ?_) (fun h50 => ?_)
  · have hF := hF.1 h50
    refine k_ld hK 2 dX1_perform_282 rfl rfl rfl rfl ?_
    refine k_ld hK 3 dX1_perform_283 rfl rfl rfl rfl ?_
    refine k_cVc hK dX1_perform_284 (Or.inl lm_X1_134) (As := [.int x1]) (S := []) rfl (sk_X1_0 hs h_o) (Nat.le_of_ble_eq_true rfl) (fit_0 rfl rfl) rfl hF (fun b51 I52 hF => ?_)
    show K _ _ [.int (b2i b51)] _ _ _
    refine k_beq hK dX1_perform_287 (tgt := 295) rfl (fun h53 => ?_) (fun h53 => ?_)
    · have hF := hF.1 h53
      refine k_ld hK 4 dX1_perform_295 rfl rfl rfl rfl ?_
      refine k_st hK dX1_perform_296 rfl rfl rfl (Nat.le_of_ble_eq_true rfl) rfl ?_
      refine k_goto hK dX1_perform_298 (tgt := 323) rfl ?_
      exact k_sub hK [2, 0] rfl hF
    · have hF := hF.2 h53
      refine k_ld hK 0 dX1_perform_290 rfl rfl rfl rfl ?_
      refine k_goto hK dX1_perform_292 (tgt := 296) rfl ?_
      refine k_st hK dX1_perform_296 rfl rfl rfl (Nat.le_of_ble_eq_true rfl) rfl ?_
      refine k_goto hK dX1_perform_298 (tgt := 323) rfl ?_
      exact k_sub hK [2, 0] rfl hF
  have hF := hF.2 h50
  refine swc (fun h54 => ?_) (fun h54 => ?_)
  · have hF := hF.1 h54
    refine k_ld hK 4 dX1_perform_301 rfl rfl rfl rfl ?_
    refine k_st hK dX1_perform_302 rfl rfl rfl (Nat.le_of_ble_eq_true rfl) rfl ?_
    refine k_goto hK dX1_perform_304 (tgt := 323) rfl ?_
    exact k_sub hK [2, 0] rfl hF
  have hF := hF.2 h54
  refine swn ?_
  exact k_sub hK [2, 3, 0] rfl hF
set_option maxHeartbeats 4000000 in
theorem g_X1_perform_307 {d : Nat} {K : KT} {Q : Unit → HI → Prop} {I : HI} {J : HJ} {R : HR} {o : Nat} {x1 : Int32} {x4 : Int32} (hK : am_R M_X1_perform (am_W d) none R (qC fv J R Q) K) (hs : Stat R) (h_o : isX1 o) (hF : Wc fv d M_X9_enter [.ref (o + 13), .int x1, .int (I o 9), .ref (o + 7)] I J R (fun u1 I2 => K 323 [(0, .ref o), (4, .int x4)] [] I2 J R)) : K 307 [(0, .ref o), (1, .int x1), (4, .int x4)] [] I J R := by
  refine k_ld hK 0 dX1_perform_307 rfl rfl rfl rfl ?_
  refine k_gR hK dX1_perform_308 lf_X1_30 rfl (sk_X1_0 hs h_o) (sr_X1_0_5 hs h_o) ?_
  refine k_ld hK 1 dX1_perform_311 rfl rfl rfl rfl ?_
  refine k_ld hK 0 dX1_perform_312 rfl rfl rfl rfl ?_
  refine k_gI hK dX1_perform_313 lf_X1_53 rfl (sk_X1_0 hs h_o) rfl ?_
  refine k_ld hK 0 dX1_perform_316 rfl rfl rfl rfl ?_
  refine k_gR hK dX1_perform_317 lf_X1_21 rfl (sk_X1_0 hs h_o) (sr_X1_0_3 hs h_o) ?_
  refine k_cVc hK dX1_perform_320 (Or.inl lm_X1_137) (As := [.int x1, .int (I o 9), .ref (o + 7)]) (S := []) rfl (sk_X1_13 hs h_o) (Nat.le_of_ble_eq_true rfl) (fit_0 rfl rfl) rfl hF (fun u1 I2 hF => ?_)
  show K _ _ [] _ _ _
  exact k_sub hK [0, 2] rfl hF
set_option maxHeartbeats 4000000 in
theorem g_X1_perform_323 {d : Nat} {K : KT} {Q : Unit → HI → Prop} {I : HI} {J : HJ} {R : HR} {o : Nat} {x4 : Int32} (hK : am_R M_X1_perform (am_W d) none R (qC fv J R Q) K) (hs : Stat R) (h_o : isX1 o) (hF : Q () (up I o 9 x4)) : K 323 [(0, .ref o), (4, .int x4)] [] I J R := by
  refine k_ld hK 0 dX1_perform_323 rfl rfl rfl rfl ?_
  refine k_ld hK 1 dX1_perform_324 rfl rfl rfl rfl ?_
  refine k_pI hK dX1_perform_326 lf_X1_53 rfl rfl rfl (sk_X1_0 hs h_o) ?_
  exact k_vret hK dX1_perform_329 rfl (done_0 rfl rfl) (qC_i hF)
set_option maxHeartbeats 4000000 in
theorem g_X1_fetch_0 {d : Nat} {K : KT} {Q : Unit → HI → Prop} {I : HI} {J : HJ} {R : HR} {o : Nat} {x1 : Int32} (hK : am_R M_X1_fetch (am_W d) none R (qC fv J R Q) K) (hs : Stat R) (h_o : isX1 o) (hF : Wc fv d M_X8_drop [.ref (o + 7), .int 1] I J R (fun u1 I2 => Wp fi d M_X8_valueAt [.ref (o + 4), .int x1] I2 J R (fun r3 => Wp fi d M_X8_sourceAt [.ref (o + 4), .int x1] I2 J R (fun r4 => Wc fv d M_X8_add [.ref (o + 7), .int r3, .int r4] I2 J R (fun u5 I6 => Q () I6))))) : K 0 [(0, .ref o), (1, .int x1)] [] I J R := by
  refine k_ld hK 0 dX1_fetch_0 rfl rfl rfl rfl ?_
  refine k_gR hK dX1_fetch_1 lf_X1_21 rfl (sk_X1_0 hs h_o) (sr_X1_0_3 hs h_o) ?_
  refine k_ic hK dX1_fetch_4 ci_1 ?_
  refine k_cVc hK dX1_fetch_5 (Or.inl lm_X1_124) (As := [.int 1]) (S := []) rfl (sk_X1_7 hs h_o) (Nat.le_of_ble_eq_true rfl) (fit_0 rfl rfl) rfl hF (fun u1 I2 hF => ?_)
  show K _ _ [] _ _ _
  refine k_ld hK 0 dX1_fetch_8 rfl rfl rfl rfl ?_
  refine k_gR hK dX1_fetch_9 lf_X1_21 rfl (sk_X1_0 hs h_o) (sr_X1_0_3 hs h_o) ?_
  refine k_ld hK 0 dX1_fetch_12 rfl rfl rfl rfl ?_
  refine k_gR hK dX1_fetch_13 lf_X1_18 rfl (sk_X1_0 hs h_o) (sr_X1_0_2 hs h_o) ?_
  refine k_ld hK 1 dX1_fetch_16 rfl rfl rfl rfl ?_
  refine k_cVp hK dX1_fetch_17 (Or.inl lm_X1_105) (As := [.int x1]) (S := [.ref (o + 7)]) rfl (sk_X1_4 hs h_o) (Nat.le_of_ble_eq_true rfl) (fit_0 rfl rfl) rfl hF (fun r3 hF => ?_)
  show K _ _ [.int r3, .ref (o + 7)] _ _ _
  refine k_ld hK 0 dX1_fetch_20 rfl rfl rfl rfl ?_
  refine k_gR hK dX1_fetch_21 lf_X1_18 rfl (sk_X1_0 hs h_o) (sr_X1_0_2 hs h_o) ?_
  refine k_ld hK 1 dX1_fetch_24 rfl rfl rfl rfl ?_
  refine k_cVp hK dX1_fetch_25 (Or.inl lm_X1_118) (As := [.int x1]) (S := [.int r3, .ref (o + 7)]) rfl (sk_X1_4 hs h_o) (Nat.le_of_ble_eq_true rfl) (fit_0 rfl rfl) rfl hF (fun r4 hF => ?_)
  show K _ _ [.int r4, .int r3, .ref (o + 7)] _ _ _
  refine k_cVc hK dX1_fetch_28 (Or.inl lm_X1_115) (As := [.int r3, .int r4]) (S := []) rfl (sk_X1_7 hs h_o) (Nat.le_of_ble_eq_true rfl) (fit_0 rfl rfl) rfl hF (fun u5 I6 hF => ?_)
  show K _ _ [] _ _ _
  exact k_vret hK dX1_fetch_31 rfl (done_0 rfl rfl) (qC_i hF)
theorem e_X1_fetch {d : Nat} {Q : Unit → HI → Prop} {I : HI} {J : HJ} {R : HR} {o : Nat} {x1 : Int32} (hs : Stat R) (h_o : isX1 o) (hF : Wc fv d M_X8_drop [.ref (o + 7), .int 1] I J R (fun u1 I2 => Wp fi d M_X8_valueAt [.ref (o + 4), .int x1] I2 J R (fun r3 => Wp fi d M_X8_sourceAt [.ref (o + 4), .int x1] I2 J R (fun r4 => Wc fv d M_X8_add [.ref (o + 7), .int r3, .int r4] I2 J R (fun u5 I6 => Q () I6))))) : Wc fv (d + 1) M_X1_fetch [.ref o, .int x1] I J R Q := ⟨Nat.le_of_ble_eq_true rfl, fun K hK => g_X1_fetch_0 hK hs h_o hF⟩
set_option maxHeartbeats 4000000 in
theorem g_X1_beginLoop_0 {d : Nat} {K : KT} {Q : Unit → HI → Prop} {I : HI} {J : HJ} {R : HR} {o : Nat} {x1 : Int32} (hK : am_R M_X1_beginLoop (am_W d) none R (qC fv J R Q) K) (hs : Stat R) (h_o : isX1 o) (hF : Wc fv d M_X8_put [.ref (o + 1), .int x1, .int 0, .int (-2)] I J R (fun u1 I2 => (((I2 o 8) < 0 → Q () I2) ∧ (¬ (I2 o 8) < 0 → ((4 ≤ (I2 o 8) → Q () I2) ∧ (¬ 4 ≤ (I2 o 8) → (∃ n5 : Nat, (I2 o 8) = nI n5 ∧ n5 < 4 ∧ Q () (up (up I2 (o + 26) n5 0) o 8 ((I2 o 8) + 1))))))))) : K 0 [(0, .ref o), (1, .int x1)] [] I J R := by
  refine k_ld hK 0 dX1_beginLoop_0 rfl rfl rfl rfl ?_
  refine k_gR hK dX1_beginLoop_1 lf_X1_12 rfl (sk_X1_0 hs h_o) (sr_X1_0_1 hs h_o) ?_
  refine k_ld hK 1 dX1_beginLoop_4 rfl rfl rfl rfl ?_
  refine k_ic hK dX1_beginLoop_5 ci_0 ?_
  refine k_bi hK dX1_beginLoop_6 cb_m2 ?_
  refine k_cVc hK dX1_beginLoop_8 (Or.inl lm_X1_90) (As := [.int x1, .int 0, .int (-2)]) (S := []) rfl (sk_X1_1 hs h_o) (Nat.le_of_ble_eq_true rfl) (fit_0 rfl rfl) rfl hF (fun u1 I2 hF => ?_)
  show K _ _ [] _ _ _
  refine k_ld hK 0 dX1_beginLoop_11 rfl rfl rfl rfl ?_
  refine k_gI hK dX1_beginLoop_12 lf_X1_99 rfl (sk_X1_0 hs h_o) rfl ?_
  refine k_lt hK dX1_beginLoop_15 (tgt := 46) rfl (fun h3 => ?_) (fun h3 => ?_)
  · have hF := hF.1 h3
    exact k_vret hK dX1_beginLoop_46 rfl (done_0 rfl rfl) (qC_i hF)
  · have hF := hF.2 h3
    refine k_ld hK 0 dX1_beginLoop_18 rfl rfl rfl rfl ?_
    refine k_gI hK dX1_beginLoop_19 lf_X1_99 rfl (sk_X1_0 hs h_o) rfl ?_
    refine k_ic hK dX1_beginLoop_22 ci_4 ?_
    refine k_cge hK dX1_beginLoop_23 (tgt := 46) rfl (fun h4 => ?_) (fun h4 => ?_)
    · have hF := hF.1 h4
      exact k_vret hK dX1_beginLoop_46 rfl (done_0 rfl rfl) (qC_i hF)
    · have hF := hF.2 h4
      refine k_ld hK 0 dX1_beginLoop_26 rfl rfl rfl rfl ?_
      refine k_gR hK dX1_beginLoop_27 lf_X1_41 rfl (sk_X1_0 hs h_o) (sr_X1_0_7 hs h_o) ?_
      refine k_ld hK 0 dX1_beginLoop_30 rfl rfl rfl rfl ?_
      refine k_gI hK dX1_beginLoop_31 lf_X1_99 rfl (sk_X1_0 hs h_o) rfl ?_
      refine k_ic hK dX1_beginLoop_34 ci_0 ?_
      obtain ⟨n5, i6, j7, hF⟩ := hF
      refine k_iast hK dX1_beginLoop_35 (sk_X1_26 hs h_o) (sl_X1_26 h_o) (by decide) i6 j7 ?_
      refine k_ld hK 0 dX1_beginLoop_36 rfl rfl rfl rfl ?_
      refine k_op hK dX1_beginLoop_37 rfl rfl ?_
      refine k_gI hK dX1_beginLoop_38 lf_X1_99 rfl (sk_X1_0 hs h_o) ((up_na (by omega)).trans rfl) ?_
      refine k_ic hK dX1_beginLoop_41 ci_1 ?_
      refine k_op hK dX1_beginLoop_42 rfl rfl ?_
      refine k_pI hK dX1_beginLoop_43 lf_X1_99 rfl rfl rfl (sk_X1_0 hs h_o) ?_
      exact k_vret hK dX1_beginLoop_46 rfl (done_0 rfl rfl) (qC_i hF)
theorem e_X1_beginLoop {d : Nat} {Q : Unit → HI → Prop} {I : HI} {J : HJ} {R : HR} {o : Nat} {x1 : Int32} (hs : Stat R) (h_o : isX1 o) (hF : Wc fv d M_X8_put [.ref (o + 1), .int x1, .int 0, .int (-2)] I J R (fun u1 I2 => (((I2 o 8) < 0 → Q () I2) ∧ (¬ (I2 o 8) < 0 → ((4 ≤ (I2 o 8) → Q () I2) ∧ (¬ 4 ≤ (I2 o 8) → (∃ n5 : Nat, (I2 o 8) = nI n5 ∧ n5 < 4 ∧ Q () (up (up I2 (o + 26) n5 0) o 8 ((I2 o 8) + 1))))))))) : Wc fv (d + 1) M_X1_beginLoop [.ref o, .int x1] I J R Q := ⟨Nat.le_of_ble_eq_true rfl, fun K hK => g_X1_beginLoop_0 hK hs h_o hF⟩
set_option maxHeartbeats 4000000 in
theorem g_X1_goesRound_0 {d : Nat} {K : KT} {Q : Bool → HI → Prop} {I : HI} {J : HJ} {R : HR} {o : Nat} {x1 : Int32} (hK : am_R M_X1_goesRound (am_W d) none R (qC fb J R Q) K) (hs : Stat R) (h_o : isX1 o) (hF : ((((I o 8) - 1) < 0 → Q false I) ∧ (¬ ((I o 8) - 1) < 0 → ((((I o 8) - 1) < 4 → (∃ n3 : Nat, ((I o 8) - 1) = nI n3 ∧ n3 < 4 ∧ (∃ p6 : Nat, (R o 0) = some p6 ∧ isX5 p6 ∧ Wp fi d M_X5_roundsAt [.ref p6, .int x1] (up I (o + 26) n3 ((I (o + 26) n3) + 1)) J R (fun r8 => ((¬ ((I (o + 26) n3) + 1) = r8 → Wp fi d M_X5_operandAt [.ref p6, .int x1] (up I (o + 26) n3 ((I (o + 26) n3) + 1)) J R (fun r10 => Wc fv d M_X8_put [.ref (o + 1), .int r10, .int ((I (o + 26) n3) + 1), .int (-2)] (up I (o + 26) n3 ((I (o + 26) n3) + 1)) J R (fun u11 I12 => Q true I12))) ∧ (((I (o + 26) n3) + 1) = r8 → Q false (up (up I (o + 26) n3 ((I (o + 26) n3) + 1)) o 8 ((I o 8) - 1)))))))) ∧ (¬ ((I o 8) - 1) < 4 → Q false I))))) : K 0 [(0, .ref o), (1, .int x1)] [] I J R := by
  refine k_ld hK 0 dX1_goesRound_0 rfl rfl rfl rfl ?_
  refine k_gI hK dX1_goesRound_1 lf_X1_99 rfl (sk_X1_0 hs h_o) rfl ?_
  refine k_ic hK dX1_goesRound_4 ci_1 ?_
  refine k_op hK dX1_goesRound_5 rfl rfl ?_
  refine k_st hK dX1_goesRound_6 rfl rfl rfl (Nat.le_of_ble_eq_true rfl) rfl ?_
  refine k_ld hK 0 dX1_goesRound_7 rfl rfl rfl rfl ?_
  refine k_lt hK dX1_goesRound_8 (tgt := 16) rfl (fun h1 => ?_) (fun h1 => ?_)
  · have hF := hF.1 h1
    refine k_ic hK dX1_goesRound_16 ci_0 ?_
    exact k_iret (x := b2i false) hK dX1_goesRound_17 rfl (b2i_nar _) (done_0 rfl rfl) (qC_i hF)
  · have hF := hF.2 h1
    refine k_ld hK 0 dX1_goesRound_11 rfl rfl rfl rfl ?_
    refine k_ic hK dX1_goesRound_12 ci_4 ?_
    refine k_clt hK dX1_goesRound_13 (tgt := 18) rfl (fun h2 => ?_) (fun h2 => ?_)
    · have hF := hF.1 h2
      refine k_ld hK 1 dX1_goesRound_18 rfl rfl rfl rfl ?_
      refine k_gR hK dX1_goesRound_19 lf_X1_41 rfl (sk_X1_0 hs h_o) (sr_X1_0_7 hs h_o) ?_
      refine k_ld hK 0 dX1_goesRound_22 rfl rfl rfl rfl ?_
      refine k_op hK dX1_goesRound_23 rfl rfl ?_
      obtain ⟨n3, i4, j5, hF⟩ := hF
      refine k_iald hK dX1_goesRound_24 (sk_X1_26 hs h_o) (sl_X1_26 h_o) (by decide) i4 j5 rfl ?_
      refine k_ic hK dX1_goesRound_25 ci_1 ?_
      refine k_op hK dX1_goesRound_26 rfl rfl ?_
      refine k_iast hK dX1_goesRound_27 (sk_X1_26 hs h_o) (sl_X1_26 h_o) (by decide) i4 j5 ?_
      refine k_ld hK 1 dX1_goesRound_28 rfl rfl rfl rfl ?_
      refine k_gR hK dX1_goesRound_29 lf_X1_41 rfl (sk_X1_0 hs h_o) (sr_X1_0_7 hs h_o) ?_
      refine k_ld hK 0 dX1_goesRound_32 rfl rfl rfl rfl ?_
      refine k_iald hK dX1_goesRound_33 (sk_X1_26 hs h_o) (sl_X1_26 h_o) (by decide) i4 j5 up_s ?_
      refine k_ld hK 1 dX1_goesRound_34 rfl rfl rfl rfl ?_
      obtain ⟨p6, e7, h_p6, hF⟩ := hF
      refine k_gR hK dX1_goesRound_35 lf_X1_45 rfl (sk_X1_0 hs h_o) e7 ?_
      refine k_ld hK 2 dX1_goesRound_38 rfl rfl rfl rfl ?_
      refine k_cVp hK dX1_goesRound_39 (Or.inl lm_X1_141) (As := [.int x1]) (S := [.int ((I (o + 26) n3) + 1)]) rfl (sk_X5_0 hs h_p6) (Nat.le_of_ble_eq_true rfl) (fit_0 rfl rfl) rfl hF (fun r8 hF => ?_)
      show K _ _ [.int r8, .int ((I (o + 26) n3) + 1)] _ _ _
      refine k_cne hK dX1_goesRound_42 (tgt := 52) rfl (fun h9 => ?_) (fun h9 => ?_)
      · have hF := hF.1 h9
        refine k_ld hK 1 dX1_goesRound_52 rfl rfl rfl rfl ?_
        refine k_gR hK dX1_goesRound_53 lf_X1_12 rfl (sk_X1_0 hs h_o) (sr_X1_0_1 hs h_o) ?_
        refine k_ld hK 1 dX1_goesRound_56 rfl rfl rfl rfl ?_
        refine k_gR hK dX1_goesRound_57 lf_X1_45 rfl (sk_X1_0 hs h_o) e7 ?_
        refine k_ld hK 2 dX1_goesRound_60 rfl rfl rfl rfl ?_
        refine k_cVp hK dX1_goesRound_61 (Or.inl lm_X1_72) (As := [.int x1]) (S := [.ref (o + 1)]) rfl (sk_X5_0 hs h_p6) (Nat.le_of_ble_eq_true rfl) (fit_0 rfl rfl) rfl hF (fun r10 hF => ?_)
        show K _ _ [.int r10, .ref (o + 1)] _ _ _
        refine k_ld hK 1 dX1_goesRound_64 rfl rfl rfl rfl ?_
        refine k_gR hK dX1_goesRound_65 lf_X1_41 rfl (sk_X1_0 hs h_o) (sr_X1_0_7 hs h_o) ?_
        refine k_ld hK 0 dX1_goesRound_68 rfl rfl rfl rfl ?_
        refine k_iald hK dX1_goesRound_69 (sk_X1_26 hs h_o) (sl_X1_26 h_o) (by decide) i4 j5 up_s ?_
        refine k_bi hK dX1_goesRound_70 cb_m2 ?_
        refine k_cVc hK dX1_goesRound_72 (Or.inl lm_X1_90) (As := [.int r10, .int ((I (o + 26) n3) + 1), .int (-2)]) (S := []) rfl (sk_X1_1 hs h_o) (Nat.le_of_ble_eq_true rfl) (fit_0 rfl rfl) rfl hF (fun u11 I12 hF => ?_)
        show K _ _ [] _ _ _
        refine k_ic hK dX1_goesRound_75 ci_1 ?_
        exact k_iret (x := b2i true) hK dX1_goesRound_76 rfl (b2i_nar _) (done_0 rfl rfl) (qC_i hF)
      · have hF := hF.2 h9
        refine k_ld hK 1 dX1_goesRound_45 rfl rfl rfl rfl ?_
        refine k_ld hK 0 dX1_goesRound_46 rfl rfl rfl rfl ?_
        refine k_pI hK dX1_goesRound_47 lf_X1_99 rfl rfl rfl (sk_X1_0 hs h_o) ?_
        refine k_ic hK dX1_goesRound_50 ci_0 ?_
        exact k_iret (x := b2i false) hK dX1_goesRound_51 rfl (b2i_nar _) (done_0 rfl rfl) (qC_i hF)
    · have hF := hF.2 h2
      refine k_ic hK dX1_goesRound_16 ci_0 ?_
      exact k_iret (x := b2i false) hK dX1_goesRound_17 rfl (b2i_nar _) (done_0 rfl rfl) (qC_i hF)
theorem e_X1_goesRound {d : Nat} {Q : Bool → HI → Prop} {I : HI} {J : HJ} {R : HR} {o : Nat} {x1 : Int32} (hs : Stat R) (h_o : isX1 o) (hF : ((((I o 8) - 1) < 0 → Q false I) ∧ (¬ ((I o 8) - 1) < 0 → ((((I o 8) - 1) < 4 → (∃ n3 : Nat, ((I o 8) - 1) = nI n3 ∧ n3 < 4 ∧ (∃ p6 : Nat, (R o 0) = some p6 ∧ isX5 p6 ∧ Wp fi d M_X5_roundsAt [.ref p6, .int x1] (up I (o + 26) n3 ((I (o + 26) n3) + 1)) J R (fun r8 => ((¬ ((I (o + 26) n3) + 1) = r8 → Wp fi d M_X5_operandAt [.ref p6, .int x1] (up I (o + 26) n3 ((I (o + 26) n3) + 1)) J R (fun r10 => Wc fv d M_X8_put [.ref (o + 1), .int r10, .int ((I (o + 26) n3) + 1), .int (-2)] (up I (o + 26) n3 ((I (o + 26) n3) + 1)) J R (fun u11 I12 => Q true I12))) ∧ (((I (o + 26) n3) + 1) = r8 → Q false (up (up I (o + 26) n3 ((I (o + 26) n3) + 1)) o 8 ((I o 8) - 1)))))))) ∧ (¬ ((I o 8) - 1) < 4 → Q false I))))) : Wc fb (d + 1) M_X1_goesRound [.ref o, .int x1] I J R Q := ⟨Nat.le_of_ble_eq_true rfl, fun K hK => g_X1_goesRound_0 hK hs h_o hF⟩
set_option maxHeartbeats 4000000 in
theorem g_X1_isSo_0 {d : Nat} {K : KT} {Q : Bool → HI → Prop} {I : HI} {J : HJ} {R : HR} {o : Nat} {x1 : Int32} (hK : am_R M_X1_isSo (am_W d) none R (qC fb J R Q) K) (hs : Stat R) (h_o : isX1 o) (hF : Wp fi d M_X8_valueAt [.ref (o + 7), .int ((I (o + 7) 2) - 2)] I J R (fun r1 => Wp fi d M_X8_valueAt [.ref (o + 7), .int ((I (o + 7) 2) - 1)] I J R (fun r2 => Wc fv d M_X8_drop [.ref (o + 7), .int 2] I J R (fun u3 I4 => ((¬ x1 = 12 → ((¬ r1 = r2 → Wc fv d M_X0_add [.ref (o + 24), .int (b2i false)] I4 J R (fun u7 I8 => Q false I8)) ∧ (r1 = r2 → Wc fv d M_X0_add [.ref (o + 24), .int (b2i true)] I4 J R (fun u9 I10 => Q true I10)))) ∧ (x1 = 12 → Wp fi d M_X3_signed [.int r1] I4 J R (fun r11 => Wp fi d M_X3_signed [.int r2] I4 J R (fun r12 => ((r12 ≤ r11 → Wc fv d M_X0_add [.ref (o + 24), .int (b2i false)] I4 J R (fun u14 I15 => Q false I15)) ∧ (¬ r12 ≤ r11 → Wc fv d M_X0_add [.ref (o + 24), .int (b2i true)] I4 J R (fun u16 I17 => Q true I17))))))))))) : K 0 [(0, .ref o), (1, .int x1)] [] I J R := by
  refine k_ld hK 0 dX1_isSo_0 rfl rfl rfl rfl ?_
  refine k_gR hK dX1_isSo_1 lf_X1_21 rfl (sk_X1_0 hs h_o) (sr_X1_0_3 hs h_o) ?_
  refine k_ld hK 0 dX1_isSo_4 rfl rfl rfl rfl ?_
  refine k_gR hK dX1_isSo_5 lf_X1_21 rfl (sk_X1_0 hs h_o) (sr_X1_0_3 hs h_o) ?_
  refine k_gI hK dX1_isSo_8 lf_X1_102 rfl (sk_X1_7 hs h_o) rfl ?_
  refine k_ic hK dX1_isSo_11 ci_2 ?_
  refine k_op hK dX1_isSo_12 rfl rfl ?_
  refine k_cVp hK dX1_isSo_13 (Or.inl lm_X1_105) (As := [.int ((I (o + 7) 2) - 2)]) (S := []) rfl (sk_X1_7 hs h_o) (Nat.le_of_ble_eq_true rfl) (fit_0 rfl rfl) rfl hF (fun r1 hF => ?_)
  show K _ _ [.int r1] _ _ _
  refine k_st hK dX1_isSo_16 rfl rfl rfl (Nat.le_of_ble_eq_true rfl) rfl ?_
  refine k_ld hK 1 dX1_isSo_17 rfl rfl rfl rfl ?_
  refine k_gR hK dX1_isSo_18 lf_X1_21 rfl (sk_X1_0 hs h_o) (sr_X1_0_3 hs h_o) ?_
  refine k_ld hK 1 dX1_isSo_21 rfl rfl rfl rfl ?_
  refine k_gR hK dX1_isSo_22 lf_X1_21 rfl (sk_X1_0 hs h_o) (sr_X1_0_3 hs h_o) ?_
  refine k_gI hK dX1_isSo_25 lf_X1_102 rfl (sk_X1_7 hs h_o) rfl ?_
  refine k_ic hK dX1_isSo_28 ci_1 ?_
  refine k_op hK dX1_isSo_29 rfl rfl ?_
  refine k_cVp hK dX1_isSo_30 (Or.inl lm_X1_105) (As := [.int ((I (o + 7) 2) - 1)]) (S := []) rfl (sk_X1_7 hs h_o) (Nat.le_of_ble_eq_true rfl) (fit_0 rfl rfl) rfl hF (fun r2 hF => ?_)
  show K _ _ [.int r2] _ _ _
  refine k_st hK dX1_isSo_33 rfl rfl rfl (Nat.le_of_ble_eq_true rfl) rfl ?_
  refine k_ld hK 2 dX1_isSo_34 rfl rfl rfl rfl ?_
  refine k_gR hK dX1_isSo_35 lf_X1_21 rfl (sk_X1_0 hs h_o) (sr_X1_0_3 hs h_o) ?_
  refine k_ic hK dX1_isSo_38 ci_2 ?_
  refine k_cVc hK dX1_isSo_39 (Or.inl lm_X1_124) (As := [.int 2]) (S := []) rfl (sk_X1_7 hs h_o) (Nat.le_of_ble_eq_true rfl) (fit_0 rfl rfl) rfl hF (fun u3 I4 hF => ?_)
  show K _ _ [] _ _ _
  refine k_ld hK 3 dX1_isSo_42 rfl rfl rfl rfl ?_
  refine k_bi hK dX1_isSo_43 cb_12 ?_
  refine k_cne hK dX1_isSo_45 (tgt := 67) rfl (fun h5 => ?_) (fun h5 => ?_)
  · have hF := hF.1 h5
    refine k_ld hK 1 dX1_isSo_67 rfl rfl rfl rfl ?_
    refine k_ld hK 0 dX1_isSo_68 rfl rfl rfl rfl ?_
    refine k_cne hK dX1_isSo_69 (tgt := 76) rfl (fun h6 => ?_) (fun h6 => ?_)
    · have hF := hF.1 h6
      refine k_ic hK dX1_isSo_76 ci_0 ?_
      refine k_st hK dX1_isSo_77 rfl rfl rfl (Nat.le_of_ble_eq_true rfl) rfl ?_
      refine k_ld hK 3 dX1_isSo_79 rfl rfl rfl rfl ?_
      refine k_gR hK dX1_isSo_80 lf_X1_37 rfl (sk_X1_0 hs h_o) (sr_X1_0_6 hs h_o) ?_
      refine k_ld hK 0 dX1_isSo_83 rfl rfl rfl rfl ?_
      refine k_cVc hK dX1_isSo_85 (Or.inl lm_X1_149) (As := [.int (b2i false)]) (S := []) rfl (sk_X1_24 hs h_o) (Nat.le_of_ble_eq_true rfl) (fit_0 rfl rfl) rfl hF (fun u7 I8 hF => ?_)
      show K _ _ [] _ _ _
      refine k_ld hK 0 dX1_isSo_88 rfl rfl rfl rfl ?_
      exact k_iret (x := b2i false) hK dX1_isSo_90 rfl (b2i_nar _) (done_0 rfl rfl) (qC_i hF)
    · have hF := hF.2 h6
      refine k_ic hK dX1_isSo_72 ci_1 ?_
      refine k_goto hK dX1_isSo_73 (tgt := 77) rfl ?_
      refine k_st hK dX1_isSo_77 rfl rfl rfl (Nat.le_of_ble_eq_true rfl) rfl ?_
      refine k_ld hK 3 dX1_isSo_79 rfl rfl rfl rfl ?_
      refine k_gR hK dX1_isSo_80 lf_X1_37 rfl (sk_X1_0 hs h_o) (sr_X1_0_6 hs h_o) ?_
      refine k_ld hK 0 dX1_isSo_83 rfl rfl rfl rfl ?_
      refine k_cVc hK dX1_isSo_85 (Or.inl lm_X1_149) (As := [.int (b2i true)]) (S := []) rfl (sk_X1_24 hs h_o) (Nat.le_of_ble_eq_true rfl) (fit_0 rfl rfl) rfl hF (fun u9 I10 hF => ?_)
      show K _ _ [] _ _ _
      refine k_ld hK 0 dX1_isSo_88 rfl rfl rfl rfl ?_
      exact k_iret (x := b2i true) hK dX1_isSo_90 rfl (b2i_nar _) (done_0 rfl rfl) (qC_i hF)
  · have hF := hF.2 h5
    refine k_ld hK 1 dX1_isSo_48 rfl rfl rfl rfl ?_
    refine k_cSp hK dX1_isSo_49 lm_X1_144 (As := [.int r1]) (S := []) rfl (Nat.le_of_ble_eq_true rfl) (fit_0 rfl rfl) rfl hF (fun r11 hF => ?_)
    show K _ _ [.int r11] _ _ _
    refine k_ld hK 0 dX1_isSo_52 rfl rfl rfl rfl ?_
    refine k_cSp hK dX1_isSo_53 lm_X1_144 (As := [.int r2]) (S := [.int r11]) rfl (Nat.le_of_ble_eq_true rfl) (fit_0 rfl rfl) rfl hF (fun r12 hF => ?_)
    show K _ _ [.int r12, .int r11] _ _ _
    refine k_cge hK dX1_isSo_56 (tgt := 63) rfl (fun h13 => ?_) (fun h13 => ?_)
    · have hF := hF.1 h13
      refine k_ic hK dX1_isSo_63 ci_0 ?_
      refine k_goto hK dX1_isSo_64 (tgt := 77) rfl ?_
      refine k_st hK dX1_isSo_77 rfl rfl rfl (Nat.le_of_ble_eq_true rfl) rfl ?_
      refine k_ld hK 3 dX1_isSo_79 rfl rfl rfl rfl ?_
      refine k_gR hK dX1_isSo_80 lf_X1_37 rfl (sk_X1_0 hs h_o) (sr_X1_0_6 hs h_o) ?_
      refine k_ld hK 0 dX1_isSo_83 rfl rfl rfl rfl ?_
      refine k_cVc hK dX1_isSo_85 (Or.inl lm_X1_149) (As := [.int (b2i false)]) (S := []) rfl (sk_X1_24 hs h_o) (Nat.le_of_ble_eq_true rfl) (fit_0 rfl rfl) rfl hF (fun u14 I15 hF => ?_)
      show K _ _ [] _ _ _
      refine k_ld hK 0 dX1_isSo_88 rfl rfl rfl rfl ?_
      exact k_iret (x := b2i false) hK dX1_isSo_90 rfl (b2i_nar _) (done_0 rfl rfl) (qC_i hF)
    · have hF := hF.2 h13
      refine k_ic hK dX1_isSo_59 ci_1 ?_
      refine k_goto hK dX1_isSo_60 (tgt := 77) rfl ?_
      refine k_st hK dX1_isSo_77 rfl rfl rfl (Nat.le_of_ble_eq_true rfl) rfl ?_
      refine k_ld hK 3 dX1_isSo_79 rfl rfl rfl rfl ?_
      refine k_gR hK dX1_isSo_80 lf_X1_37 rfl (sk_X1_0 hs h_o) (sr_X1_0_6 hs h_o) ?_
      refine k_ld hK 0 dX1_isSo_83 rfl rfl rfl rfl ?_
      refine k_cVc hK dX1_isSo_85 (Or.inl lm_X1_149) (As := [.int (b2i true)]) (S := []) rfl (sk_X1_24 hs h_o) (Nat.le_of_ble_eq_true rfl) (fit_0 rfl rfl) rfl hF (fun u16 I17 hF => ?_)
      show K _ _ [] _ _ _
      refine k_ld hK 0 dX1_isSo_88 rfl rfl rfl rfl ?_
      exact k_iret (x := b2i true) hK dX1_isSo_90 rfl (b2i_nar _) (done_0 rfl rfl) (qC_i hF)
theorem e_X1_isSo {d : Nat} {Q : Bool → HI → Prop} {I : HI} {J : HJ} {R : HR} {o : Nat} {x1 : Int32} (hs : Stat R) (h_o : isX1 o) (hF : Wp fi d M_X8_valueAt [.ref (o + 7), .int ((I (o + 7) 2) - 2)] I J R (fun r1 => Wp fi d M_X8_valueAt [.ref (o + 7), .int ((I (o + 7) 2) - 1)] I J R (fun r2 => Wc fv d M_X8_drop [.ref (o + 7), .int 2] I J R (fun u3 I4 => ((¬ x1 = 12 → ((¬ r1 = r2 → Wc fv d M_X0_add [.ref (o + 24), .int (b2i false)] I4 J R (fun u7 I8 => Q false I8)) ∧ (r1 = r2 → Wc fv d M_X0_add [.ref (o + 24), .int (b2i true)] I4 J R (fun u9 I10 => Q true I10)))) ∧ (x1 = 12 → Wp fi d M_X3_signed [.int r1] I4 J R (fun r11 => Wp fi d M_X3_signed [.int r2] I4 J R (fun r12 => ((r12 ≤ r11 → Wc fv d M_X0_add [.ref (o + 24), .int (b2i false)] I4 J R (fun u14 I15 => Q false I15)) ∧ (¬ r12 ≤ r11 → Wc fv d M_X0_add [.ref (o + 24), .int (b2i true)] I4 J R (fun u16 I17 => Q true I17))))))))))) : Wc fb (d + 1) M_X1_isSo [.ref o, .int x1] I J R Q := ⟨Nat.le_of_ble_eq_true rfl, fun K hK => g_X1_isSo_0 hK hs h_o hF⟩
