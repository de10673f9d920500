set_option maxHeartbeats 4000000 in
theorem g_X4_compile_0 {d : Nat} {K : KT} {Q : Bool → HI → HR → Prop} {I : HI} {J : HJ} {R : HR} {R0 : HR} {p2 : Nat} {x1 : Int32} (hK : am_R M_X4_compile (am_W d) none R0 (qR fb J R0 Q) K) (hs0 : Stat R0) (hs : Stat R) (hg : am_g R = am_g R0) (h_p2 : isX5 p2) (hF : Wc fv d M_X5_clear [.ref p2] I J (up R 2 1 (some p2)) (fun u1 I2 => Wc fv d M_X6_start [.ref 7, .int x1] (up (up (up (up I2 2 6 0) 2 7 0) 2 8 0) 2 9 (-1)) J (up R 2 1 (some p2)) (fun u3 I4 => K 42 [(0, .ref 2), (3, .int 0)] [] I4 J (up R 2 1 (some p2))))) : K 0 [(0, .ref 2), (1, .int x1), (2, .ref p2)] [] I J R := by
  refine k_ld hK 0 dX4_compile_0 rfl rfl rfl rfl ?_
  refine k_ld hK 2 dX4_compile_1 rfl rfl rfl rfl ?_
  refine k_pR hK dX4_compile_2 lf_X4_33 rfl (Or.inl rfl) (sc_2 hs) ?_
  have hs : Stat (up R 2 1 (some p2)) := stat_up hs (by decide +kernel)
  have hg : am_g (up R 2 1 (some p2)) = am_g R0 := (am_g_up (by decide)).trans hg
  refine k_ld hK 0 dX4_compile_5 rfl rfl rfl rfl ?_
  refine k_gR hK dX4_compile_6 lf_X4_33 rfl (sc_2 hs) up_s ?_
  refine k_cVc hK dX4_compile_9 (Or.inl lm_X4_37) (As := []) (S := []) rfl (sk_X5_0 hs h_p2) (Nat.le_of_ble_eq_true rfl) (fit_of hs0 hs hg rfl rfl) rfl hF (fun u1 I2 hF => ?_)
  show K _ _ [] _ _ _
  refine k_ld hK 0 dX4_compile_12 rfl rfl rfl rfl ?_
  refine k_ic hK dX4_compile_13 ci_0 ?_
  refine k_pI hK dX4_compile_14 lf_X4_42 rfl rfl rfl (sc_2 hs) ?_
  refine k_ld hK 0 dX4_compile_17 rfl rfl rfl rfl ?_
  refine k_ic hK dX4_compile_18 ci_0 ?_
  refine k_pI hK dX4_compile_19 lf_X4_46 rfl rfl (by decide) (sc_2 hs) ?_
  refine k_ld hK 0 dX4_compile_22 rfl rfl rfl rfl ?_
  refine k_ic hK dX4_compile_23 ci_0 ?_
  refine k_pI hK dX4_compile_24 lf_X4_50 rfl rfl rfl (sc_2 hs) ?_
  refine k_ld hK 0 dX4_compile_27 rfl rfl rfl rfl ?_
  refine k_ic hK dX4_compile_28 ci_m1 ?_
  refine k_pI hK dX4_compile_29 lf_X4_53 rfl rfl rfl (sc_2 hs) ?_
  refine k_ld hK 0 dX4_compile_32 rfl rfl rfl rfl ?_
  refine k_gR hK dX4_compile_33 lf_X4_29 rfl (sc_2 hs) (sf_2_0 hs) ?_
  refine k_ld hK 1 dX4_compile_36 rfl rfl rfl rfl ?_
  refine k_cVc hK dX4_compile_37 (Or.inl lm_X4_56) (As := [.int x1]) (S := []) rfl (sc_7 hs) (Nat.le_of_ble_eq_true rfl) (fit_of hs0 hs hg rfl rfl) rfl hF (fun u3 I4 hF => ?_)
  show K _ _ [] _ _ _
  refine k_ic hK dX4_compile_40 ci_0 ?_
  refine k_st hK dX4_compile_41 rfl rfl rfl (Nat.le_of_ble_eq_true rfl) rfl ?_
  exact k_sub hK [1, 0] rfl hF
set_option maxHeartbeats 4000000 in
theorem g_X4_compile_42 {d : Nat} {K : KT} {Q : Bool → HI → HR → Prop} {I : HI} {J : HJ} {R : HR} {R0 : HR} {p2 : Nat} {x3 : Int32} (hK : am_R M_X4_compile (am_W d) none R0 (qR fb J R0 Q) K) (hs0 : Stat R0) (hs : Stat R) (hg : am_g R = am_g R0) (h_p2 : isX5 p2) (hF : ((900 ≤ x3 → (((I 2 6) = 0 → Q true I R) ∧ (¬ (I 2 6) = 0 → Wc fb d M_X4_fail [.ref 2, .int 1] I J R (fun b3 I4 => ((b3 = false → Q false I4 R) ∧ (b3 = true → Q true I4 R)))))) ∧ (¬ 900 ≤ x3 → (((I 7 3) = 0 → (((I 2 6) = 0 → Q true I R) ∧ (¬ (I 2 6) = 0 → Wc fb d M_X4_fail [.ref 2, .int 1] I J R (fun b8 I9 => ((b8 = false → Q false I9 R) ∧ (b8 = true → Q true I9 R)))))) ∧ (¬ (I 7 3) = 0 → Wc fb d M_X4_line [.ref 2] I J R (fun b11 I12 => ((b11 = true → Wp fb d M_X6_isSign [.ref 7, .int 59] I12 J R (fun b14 => ((b14 = true → Wc fv d M_X6_advance [.ref 7] I12 J R (fun u16 I17 => (∃ p18 : Nat, (R 2 1) = some p18 ∧ isX5 p18 ∧ K 42 [(0, .ref 2), (3, .int (x3 + 1))] [] (up I17 p18 2 ((I17 p18 2) + 1)) J R))) ∧ (b14 = false → Wc fb d M_X4_fail [.ref 2, .int 1] I12 J R (fun b20 I21 => Q b20 I21 R))))) ∧ (b11 = false → Q false I12 R)))))))) : K 42 [(0, .ref 2), (3, .int x3)] [] I J R := by
  refine k_ld hK 1 dX4_compile_42 rfl rfl rfl rfl ?_
  refine k_si hK dX4_compile_43 cs_900 ?_
  refine k_cge hK dX4_compile_46 (tgt := 112) rfl (fun h1 => ?_) (fun h1 => ?_)
  · have hF := hF.1 h1
    refine k_ld hK 0 dX4_compile_112 rfl rfl rfl rfl ?_
    refine k_gI hK dX4_compile_113 lf_X4_42 rfl (sc_2 hs) rfl ?_
    refine k_eq hK dX4_compile_116 (tgt := 127) rfl (fun h2 => ?_) (fun h2 => ?_)
    · have hF := hF.1 h2
      refine k_ic hK dX4_compile_127 ci_1 ?_
      refine k_goto hK dX4_compile_128 (tgt := 132) rfl ?_
      exact k_iret (x := b2i true) hK dX4_compile_132 rfl (b2i_nar _) (done_of hs0 hs hg rfl rfl) (qR_i hs hg hF)
    · have hF := hF.2 h2
      refine k_ld hK 0 dX4_compile_119 rfl rfl rfl rfl ?_
      refine k_ic hK dX4_compile_120 ci_1 ?_
      refine k_cVc hK dX4_compile_121 (Or.inl lm_X4_71) (As := [.int 1]) (S := []) rfl (sc_2 hs) (Nat.le_of_ble_eq_true rfl) (fit_of hs0 hs hg rfl rfl) rfl hF (fun b3 I4 hF => ?_)
      show K _ _ [.int (b2i b3)] _ _ _
      refine k_beq hK dX4_compile_124 (tgt := 131) rfl (fun h5 => ?_) (fun h5 => ?_)
      · have hF := hF.1 h5
        refine k_ic hK dX4_compile_131 ci_0 ?_
        exact k_iret (x := b2i false) hK dX4_compile_132 rfl (b2i_nar _) (done_of hs0 hs hg rfl rfl) (qR_i hs hg hF)
      · have hF := hF.2 h5
        refine k_ic hK dX4_compile_127 ci_1 ?_
        refine k_goto hK dX4_compile_128 (tgt := 132) rfl ?_
        exact k_iret (x := b2i true) hK dX4_compile_132 rfl (b2i_nar _) (done_of hs0 hs hg rfl rfl) (qR_i hs hg hF)
  · have hF := hF.2 h1
    refine k_ld hK 0 dX4_compile_49 rfl rfl rfl rfl ?_
    refine k_gR hK dX4_compile_50 lf_X4_29 rfl (sc_2 hs) (sf_2_0 hs) ?_
    refine k_gI hK dX4_compile_53 lf_X4_60 rfl (sc_7 hs) rfl ?_
    refine k_eq hK dX4_compile_56 (tgt := 112) rfl (fun h6 => ?_) (fun h6 => ?_)
    · have hF := hF.1 h6
      refine k_ld hK 0 dX4_compile_112 rfl rfl rfl rfl ?_
      refine k_gI hK dX4_compile_113 lf_X4_42 rfl (sc_2 hs) rfl ?_
      refine k_eq hK dX4_compile_116 (tgt := 127) rfl (fun h7 => ?_) (fun h7 => ?_)
      · have hF := hF.1 h7
        refine k_ic hK dX4_compile_127 ci_1 ?_
        refine k_goto hK dX4_compile_128 (tgt := 132) rfl ?_
        exact k_iret (x := b2i true) hK dX4_compile_132 rfl (b2i_nar _) (done_of hs0 hs hg rfl rfl) (qR_i hs hg hF)
      · have hF := hF.2 h7
        refine k_ld hK 0 dX4_compile_119 rfl rfl rfl rfl ?_
        refine k_ic hK dX4_compile_120 ci_1 ?_
        refine k_cVc hK dX4_compile_121 (Or.inl lm_X4_71) (As := [.int 1]) (S := []) rfl (sc_2 hs) (Nat.le_of_ble_eq_true rfl) (fit_of hs0 hs hg rfl rfl) rfl hF (fun b8 I9 hF => ?_)
        show K _ _ [.int (b2i b8)] _ _ _
        refine k_beq hK dX4_compile_124 (tgt := 131) rfl (fun h10 => ?_) (fun h10 => ?_)
        · have hF := hF.1 h10
          refine k_ic hK dX4_compile_131 ci_0 ?_
          exact k_iret (x := b2i false) hK dX4_compile_132 rfl (b2i_nar _) (done_of hs0 hs hg rfl rfl) (qR_i hs hg hF)
        · have hF := hF.2 h10
          refine k_ic hK dX4_compile_127 ci_1 ?_
          refine k_goto hK dX4_compile_128 (tgt := 132) rfl ?_
          exact k_iret (x := b2i true) hK dX4_compile_132 rfl (b2i_nar _) (done_of hs0 hs hg rfl rfl) (qR_i hs hg hF)
    · have hF := hF.2 h6
      refine k_ld hK 0 dX4_compile_59 rfl rfl rfl rfl ?_
      refine k_cVc hK dX4_compile_60 (Or.inl lm_X4_63) (As := []) (S := []) rfl (sc_2 hs) (Nat.le_of_ble_eq_true rfl) (fit_of hs0 hs hg rfl rfl) rfl hF (fun b11 I12 hF => ?_)
      show K _ _ [.int (b2i b11)] _ _ _
      refine k_bne hK dX4_compile_63 (tgt := 68) rfl (fun h13 => ?_) (fun h13 => ?_)
      · have hF := hF.1 h13
        refine k_ld hK 0 dX4_compile_68 rfl rfl rfl rfl ?_
        refine k_gR hK dX4_compile_69 lf_X4_29 rfl (sc_2 hs) (sf_2_0 hs) ?_
        refine k_bi hK dX4_compile_72 cb_59 ?_
        refine k_cVp hK dX4_compile_74 (Or.inl lm_X4_67) (As := [.int 59]) (S := []) rfl (sc_7 hs) (Nat.le_of_ble_eq_true rfl) (fit_of hs0 hs hg rfl rfl) rfl hF (fun b14 hF => ?_)
        show K _ _ [.int (b2i b14)] _ _ _
        refine k_bne hK dX4_compile_77 (tgt := 86) rfl (fun h15 => ?_) (fun h15 => ?_)
        · have hF := hF.1 h15
          refine k_ld hK 0 dX4_compile_86 rfl rfl rfl rfl ?_
          refine k_gR hK dX4_compile_87 lf_X4_29 rfl (sc_2 hs) (sf_2_0 hs) ?_
          refine k_cVc hK dX4_compile_90 (Or.inl lm_X4_75) (As := []) (S := []) rfl (sc_7 hs) (Nat.le_of_ble_eq_true rfl) (fit_of hs0 hs hg rfl rfl) rfl hF (fun u16 I17 hF => ?_)
          show K _ _ [] _ _ _
          refine k_ld hK 0 dX4_compile_93 rfl rfl rfl rfl ?_
          obtain ⟨p18, e19, h_p18, hF⟩ := hF
          refine k_gR hK dX4_compile_94 lf_X4_33 rfl (sc_2 hs) e19 ?_
          refine k_op hK dX4_compile_97 rfl rfl ?_
          refine k_gI hK dX4_compile_98 lf_X4_78 rfl (sk_X5_0 hs h_p18) rfl ?_
          refine k_ic hK dX4_compile_101 ci_1 ?_
          refine k_op hK dX4_compile_102 rfl rfl ?_
          refine k_pI hK dX4_compile_103 lf_X4_78 rfl rfl rfl (sk_X5_0 hs h_p18) ?_
          refine k_iinc hK 1 dX4_compile_106 (v := (x3 + 1)) rfl (Nat.le_of_ble_eq_true rfl) (congrArg (fun q => x3 + q) ci_1) rfl ?_
          refine k_goto hK dX4_compile_109 (tgt := 42) rfl ?_
          exact k_sub hK [1, 0] rfl hF
        · have hF := hF.2 h15
          refine k_ld hK 0 dX4_compile_80 rfl rfl rfl rfl ?_
          refine k_ic hK dX4_compile_81 ci_1 ?_
          refine k_cVc hK dX4_compile_82 (Or.inl lm_X4_71) (As := [.int 1]) (S := []) rfl (sc_2 hs) (Nat.le_of_ble_eq_true rfl) (fit_of hs0 hs hg rfl rfl) rfl hF (fun b20 I21 hF => ?_)
          show K _ _ [.int (b2i b20)] _ _ _
          exact k_iret (x := b2i b20) hK dX4_compile_85 rfl (b2i_nar _) (done_of hs0 hs hg rfl rfl) (qR_i hs hg hF)
      · have hF := hF.2 h13
        refine k_ic hK dX4_compile_66 ci_0 ?_
        exact k_iret (x := b2i false) hK dX4_compile_67 rfl (b2i_nar _) (done_of hs0 hs hg rfl rfl) (qR_i hs hg hF)
set_option maxHeartbeats 4000000 in
theorem g_X4_fail_0 {d : Nat} {K : KT} {Q : Bool → HI → Prop} {I : HI} {J : HJ} {R : HR} {x1 : Int32} (hK : am_R M_X4_fail (am_W d) none R (qC fb J R Q) K) (hs : Stat R)  (hF : Q false (up (up I 2 8 x1) 2 9 (I 7 5))) : K 0 [(0, .ref 2), (1, .int x1)] [] I J R := by
  refine k_ld hK 0 dX4_fail_0 rfl rfl rfl rfl ?_
  refine k_ld hK 1 dX4_fail_1 rfl rfl rfl rfl ?_
  refine k_pI hK dX4_fail_2 lf_X4_50 rfl rfl rfl (sc_2 hs) ?_
  refine k_ld hK 0 dX4_fail_5 rfl rfl rfl rfl ?_
  refine k_ld hK 0 dX4_fail_6 rfl rfl rfl rfl ?_
  refine k_gR hK dX4_fail_7 lf_X4_29 rfl (sc_2 hs) (sf_2_0 hs) ?_
  refine k_gI hK dX4_fail_10 lf_X4_81 rfl (sc_7 hs) ((up_na (by decide)).trans rfl) ?_
  refine k_pI hK dX4_fail_13 lf_X4_53 rfl rfl rfl (sc_2 hs) ?_
  refine k_ic hK dX4_fail_16 ci_0 ?_
  exact k_iret (x := b2i false) hK dX4_fail_17 rfl (b2i_nar _) (done_0 rfl rfl) (qC_i hF)
theorem e_X4_fail {d : Nat} {Q : Bool → HI → Prop} {I : HI} {J : HJ} {R : HR} {x1 : Int32} (hs : Stat R)  (hF : Q false (up (up I 2 8 x1) 2 9 (I 7 5))) : Wc fb (d + 1) M_X4_fail [.ref 2, .int x1] I J R Q := ⟨Nat.le_of_ble_eq_true rfl, fun K hK => g_X4_fail_0 hK hs hF⟩
set_option maxHeartbeats 4000000 in
theorem g_X4_line_0 {d : Nat} {K : KT} {Q : Bool → HI → Prop} {I : HI} {J : HJ} {R : HR}  (hK : am_R M_X4_line (am_W d) none R (qC fb J R Q) K) (hs : Stat R)  (hF : ((¬ (I 7 3) = 1 → K 48 [(0, .ref 2), (1, .int 0)] [.int (b2i false)] I J R) ∧ ((I 7 3) = 1 → (((I 7 4) = 302 → K 48 [(0, .ref 2), (1, .int (I 7 4))] [.int (b2i true)] I J R) ∧ (¬ (I 7 4) = 302 → (((I 7 4) = 18935 → K 48 [(0, .ref 2), (1, .int (I 7 4))] [.int (b2i true)] I J R) ∧ (¬ (I 7 4) = 18935 → ((¬ (I 7 4) = 1451059 → K 48 [(0, .ref 2), (1, .int (I 7 4))] [.int (b2i false)] I J R) ∧ ((I 7 4) = 1451059 → K 48 [(0, .ref 2), (1, .int (I 7 4))] [.int (b2i true)] I J R))))))))) : K 0 [(0, .ref 2)] [] I J R := by
  refine k_ld hK 0 dX4_line_0 rfl rfl rfl rfl ?_
  refine k_gR hK dX4_line_1 lf_X4_29 rfl (sc_2 hs) (sf_2_0 hs) ?_
  refine k_gI hK dX4_line_4 lf_X4_60 rfl (sc_7 hs) rfl ?_
  refine k_ic hK dX4_line_7 ci_1 ?_
  refine k_cne hK dX4_line_8 (tgt := 21) rfl (fun h1 => ?_) (fun h1 => ?_)
  · have hF := hF.1 h1
    refine k_ic hK dX4_line_21 ci_0 ?_
    refine k_st hK dX4_line_22 rfl rfl rfl (Nat.le_of_ble_eq_true rfl) rfl ?_
    refine k_ld hK 0 dX4_line_23 rfl rfl rfl rfl ?_
    refine k_si hK dX4_line_24 cs_302 ?_
    refine k_ceq hK dX4_line_27 (tgt := 43) rfl (fun h => absurd h (by decide)) (fun _ => ?_)
    refine k_ld hK 0 dX4_line_30 rfl rfl rfl rfl ?_
    refine k_si hK dX4_line_31 cs_18935 ?_
    refine k_ceq hK dX4_line_34 (tgt := 43) rfl (fun h => absurd h (by decide)) (fun _ => ?_)
    refine k_ld hK 0 dX4_line_37 rfl rfl rfl rfl ?_
    refine k_ldc hK dX4_line_38 lc_X4_87 ?_
    refine k_cne hK dX4_line_40 (tgt := 47) rfl (fun _ => ?_) (fun h => absurd h (by decide))
    refine k_ic hK dX4_line_47 ci_0 ?_
    exact k_sub hK [1, 0] rfl hF
  · have hF := hF.2 h1
    refine k_ld hK 0 dX4_line_11 rfl rfl rfl rfl ?_
    refine k_gR hK dX4_line_12 lf_X4_29 rfl (sc_2 hs) (sf_2_0 hs) ?_
    refine k_gI hK dX4_line_15 lf_X4_84 rfl (sc_7 hs) rfl ?_
    refine k_goto hK dX4_line_18 (tgt := 22) rfl ?_
    refine k_st hK dX4_line_22 rfl rfl rfl (Nat.le_of_ble_eq_true rfl) rfl ?_
    refine k_ld hK 0 dX4_line_23 rfl rfl rfl rfl ?_
    refine k_si hK dX4_line_24 cs_302 ?_
    refine k_ceq hK dX4_line_27 (tgt := 43) rfl (fun h2 => ?_) (fun h2 => ?_)
    · have hF := hF.1 h2
      refine k_ic hK dX4_line_43 ci_1 ?_
      refine k_goto hK dX4_line_44 (tgt := 48) rfl ?_
      exact k_sub hK [1, 0] rfl hF
    · have hF := hF.2 h2
      refine k_ld hK 0 dX4_line_30 rfl rfl rfl rfl ?_
      refine k_si hK dX4_line_31 cs_18935 ?_
      refine k_ceq hK dX4_line_34 (tgt := 43) rfl (fun h3 => ?_) (fun h3 => ?_)
      · have hF := hF.1 h3
        refine k_ic hK dX4_line_43 ci_1 ?_
        refine k_goto hK dX4_line_44 (tgt := 48) rfl ?_
        exact k_sub hK [1, 0] rfl hF
      · have hF := hF.2 h3
        refine k_ld hK 0 dX4_line_37 rfl rfl rfl rfl ?_
        refine k_ldc hK dX4_line_38 lc_X4_87 ?_
        refine k_cne hK dX4_line_40 (tgt := 47) rfl (fun h4 => ?_) (fun h4 => ?_)
        · have hF := hF.1 h4
          refine k_ic hK dX4_line_47 ci_0 ?_
          exact k_sub hK [1, 0] rfl hF
        · have hF := hF.2 h4
          refine k_ic hK dX4_line_43 ci_1 ?_
          refine k_goto hK dX4_line_44 (tgt := 48) rfl ?_
          exact k_sub hK [1, 0] rfl hF
set_option maxHeartbeats 4000000 in
theorem g_X4_line_48 {d : Nat} {K : KT} {Q : Bool → HI → Prop} {I : HI} {J : HJ} {R : HR} {x1 : Int32} {v0 : Bool} (hK : am_R M_X4_line (am_W d) none R (qC fb J R Q) K) (hs : Stat R)  (hF : ((v0 = false → ((v0 = true → K 76 [(0, .ref 2), (1, .int x1)] [.int (b2i false), .ref 2] I J R) ∧ (v0 = false → K 76 [(0, .ref 2), (1, .int x1)] [.int (b2i true), .ref 2] I J R))) ∧ (v0 = true → (((I 2 7) = 0 → ((v0 = true → K 76 [(0, .ref 2), (1, .int x1)] [.int (b2i false), .ref 2] I J R) ∧ (v0 = false → K 76 [(0, .ref 2), (1, .int x1)] [.int (b2i true), .ref 2] I J R))) ∧ (¬ (I 2 7) = 0 → Wc fb d M_X4_fail [.ref 2, .int 1] I J R (fun b5 I6 => Q b5 I6)))))) : K 48 [(0, .ref 2), (1, .int x1)] [.int (b2i v0)] I J R := by
  refine k_st hK dX4_line_48 rfl rfl rfl (Nat.le_of_ble_eq_true rfl) rfl ?_
  refine k_ld hK 0 dX4_line_49 rfl rfl rfl rfl ?_
  refine k_beq hK dX4_line_50 (tgt := 66) rfl (fun h1 => ?_) (fun h1 => ?_)
  · have hF := hF.1 h1
    refine k_ld hK 1 dX4_line_66 rfl rfl rfl rfl ?_
    refine k_ld hK 0 dX4_line_67 rfl rfl rfl rfl ?_
    refine k_bne hK dX4_line_68 (tgt := 75) rfl (fun h2 => ?_) (fun h2 => ?_)
    · have hF := hF.1 h2
      refine k_ic hK dX4_line_75 ci_0 ?_
      exact k_sub hK [1, 2] rfl hF
    · have hF := hF.2 h2
      refine k_ic hK dX4_line_71 ci_1 ?_
      refine k_goto hK dX4_line_72 (tgt := 76) rfl ?_
      exact k_sub hK [1, 2] rfl hF
  · have hF := hF.2 h1
    refine k_ld hK 1 dX4_line_53 rfl rfl rfl rfl ?_
    refine k_gI hK dX4_line_54 lf_X4_46 rfl (sc_2 hs) rfl ?_
    refine k_eq hK dX4_line_57 (tgt := 66) rfl (fun h3 => ?_) (fun h3 => ?_)
    · have hF := hF.1 h3
      refine k_ld hK 1 dX4_line_66 rfl rfl rfl rfl ?_
      refine k_ld hK 0 dX4_line_67 rfl rfl rfl rfl ?_
      refine k_bne hK dX4_line_68 (tgt := 75) rfl (fun h4 => ?_) (fun h4 => ?_)
      · have hF := hF.1 h4
        refine k_ic hK dX4_line_75 ci_0 ?_
        exact k_sub hK [1, 2] rfl hF
      · have hF := hF.2 h4
        refine k_ic hK dX4_line_71 ci_1 ?_
        refine k_goto hK dX4_line_72 (tgt := 76) rfl ?_
        exact k_sub hK [1, 2] rfl hF
    · have hF := hF.2 h3
      refine k_ld hK 1 dX4_line_60 rfl rfl rfl rfl ?_
      refine k_ic hK dX4_line_61 ci_1 ?_
      refine k_cVc hK dX4_line_62 (Or.inl lm_X4_71) (As := [.int 1]) (S := []) rfl (sc_2 hs) (Nat.le_of_ble_eq_true rfl) (fit_0 rfl rfl) rfl hF (fun b5 I6 hF => ?_)
      show K _ _ [.int (b2i b5)] _ _ _
      exact k_iret (x := b2i b5) hK dX4_line_65 rfl (b2i_nar _) (done_0 rfl rfl) (qC_i hF)
set_option maxHeartbeats 4000000 in
theorem g_X4_line_76 {d : Nat} {K : KT} {Q : Bool → HI → Prop} {I : HI} {J : HJ} {R : HR} {x1 : Int32} {v0 : Bool} (hK : am_R M_X4_line (am_W d) none R (qC fb J R Q) K) (hs : Stat R)  (hF : ((x1 = 294 → Wc fb d M_X4_ifLine [.ref 2] (up I 2 7 (b2i v0)) J R (fun b2 I3 => Q b2 I3)) ∧ (¬ x1 = 294 → ((x1 = 302 → Wc fb d M_X4_inputLine [.ref 2] (up I 2 7 (b2i v0)) J R (fun b5 I6 => Q b5 I6)) ∧ (¬ x1 = 302 → ((x1 = 5572 → Wc fb d M_X4_endLine [.ref 2] (up I 2 7 (b2i v0)) J R (fun b8 I9 => Q b8 I9)) ∧ (¬ x1 = 5572 → ((x1 = 16052 → Wc fb d M_X4_outLine [.ref 2] (up I 2 7 (b2i v0)) J R (fun b11 I12 => Q b11 I12)) ∧ (¬ x1 = 16052 → ((x1 = 18935 → Wc fb d M_X4_rowLine [.ref 2] (up I 2 7 (b2i v0)) J R (fun b14 I15 => Q b14 I15)) ∧ (¬ x1 = 18935 → ((x1 = 176741 → Wc fb d M_X4_elseLine [.ref 2] (up I 2 7 (b2i v0)) J R (fun b17 I18 => Q b17 I18)) ∧ (¬ x1 = 176741 → ((x1 = 409072 → Wc fb d M_X4_loopLine [.ref 2] (up I 2 7 (b2i v0)) J R (fun b20 I21 => Q b20 I21)) ∧ (¬ x1 = 409072 → ((x1 = 1451059 → Wc fb d M_X4_aliasLine [.ref 2] (up I 2 7 (b2i v0)) J R (fun b23 I24 => Q b23 I24)) ∧ (¬ x1 = 1451059 → Wp fb d M_X6_isName [.ref 7] (up I 2 7 (b2i v0)) J R (fun b25 => ((b25 = false → Wc fb d M_X4_fail [.ref 2, .int 1] (up I 2 7 (b2i v0)) J R (fun b27 I28 => Q b27 I28)) ∧ (b25 = true → Wc fb d M_X4_assignment [.ref 2] (up I 2 7 (b2i v0)) J R (fun b29 I30 => Q b29 I30))))))))))))))))))))) : K 76 [(0, .ref 2), (1, .int x1)] [.int (b2i v0), .ref 2] I J R := by
  refine k_pI hK dX4_line_76 lf_X4_46 rfl rfl (b2i_fits _) (sc_2 hs) ?_
  refine k_ld hK 1 dX4_line_79 rfl rfl rfl rfl ?_
  refine k_lkp hK dX4_line_80 (cs := [(294, 176), (302, 156), (5572, 186), (16052, 191), (18935, 161), (176741, 181), (409072, 171), (1451059, 166)]) (td := 196) (by decide) (by decide) ?_
  refine swc (fun h1 => ?_) (fun h1 => ?_)
  · have hF := hF.1 h1
    refine k_ld hK 0 dX4_line_176 rfl rfl rfl rfl ?_
    refine k_cVc hK dX4_line_177 (Or.inl lm_X4_100) (As := []) (S := []) rfl (sc_2 hs) (Nat.le_of_ble_eq_true rfl) (fit_0 rfl rfl) rfl hF (fun b2 I3 hF => ?_)
    show K _ _ [.int (b2i b2)] _ _ _
    exact k_iret (x := b2i b2) hK dX4_line_180 rfl (b2i_nar _) (done_0 rfl rfl) (qC_i hF)
  have hF := hF.2 h1
  refine swc (fun h4 => ?_) (fun h4 => ?_)
  · have hF := hF.1 h4
    refine k_ld hK 0 dX4_line_156 rfl rfl rfl rfl ?_
    refine k_cVc hK dX4_line_157 (Or.inl lm_X4_88) (As := []) (S := []) rfl (sc_2 hs) (Nat.le_of_ble_eq_true rfl) (fit_0 rfl rfl) rfl hF (fun b5 I6 hF => ?_)
    show K _ _ [.int (b2i b5)] _ _ _
    exact k_iret (x := b2i b5) hK dX4_line_160 rfl (b2i_nar _) (done_0 rfl rfl) (qC_i hF)
  have hF := hF.2 h4
  refine swc (fun h7 => ?_) (fun h7 => ?_)
  · have hF := hF.1 h7
    refine k_ld hK 0 dX4_line_186 rfl rfl rfl rfl ?_
    refine k_cVc hK dX4_line_187 (Or.inl lm_X4_106) (As := []) (S := []) rfl (sc_2 hs) (Nat.le_of_ble_eq_true rfl) (fit_0 rfl rfl) rfl hF (fun b8 I9 hF => ?_)
    show K _ _ [.int (b2i b8)] _ _ _
    exact k_iret (x := b2i b8) hK dX4_line_190 rfl (b2i_nar _) (done_0 rfl rfl) (qC_i hF)
  have hF := hF.2 h7
  refine swc (fun h10 => ?_) (fun h10 => ?_)
  · have hF := hF.1 h10
    refine k_ld hK 0 dX4_line_191 rfl rfl rfl rfl ?_
    refine k_cVc hK dX4_line_192 (Or.inl lm_X4_109) (As := []) (S := []) rfl (sc_2 hs) (Nat.le_of_ble_eq_true rfl) (fit_0 rfl rfl) rfl hF (fun b11 I12 hF => ?_)
    show K _ _ [.int (b2i b11)] _ _ _
    exact k_iret (x := b2i b11) hK dX4_line_195 rfl (b2i_nar _) (done_0 rfl rfl) (qC_i hF)
  have hF := hF.2 h10
  refine swc (fun h13 => ?_) (fun h13 => ?_)
  · have hF := hF.1 h13
    refine k_ld hK 0 dX4_line_161 rfl rfl rfl rfl ?_
    refine k_cVc hK dX4_line_162 (Or.inl lm_X4_91) (As := []) (S := []) rfl (sc_2 hs) (Nat.le_of_ble_eq_true rfl) (fit_0 rfl rfl) rfl hF (fun b14 I15 hF => ?_)
    show K _ _ [.int (b2i b14)] _ _ _
    exact k_iret (x := b2i b14) hK dX4_line_165 rfl (b2i_nar _) (done_0 rfl rfl) (qC_i hF)
  have hF := hF.2 h13
  refine swc (fun h16 => ?_) (fun h16 => ?_)
  · have hF := hF.1 h16
    refine k_ld hK 0 dX4_line_181 rfl rfl rfl rfl ?_
    refine k_cVc hK dX4_line_182 (Or.inl lm_X4_103) (As := []) (S := []) rfl (sc_2 hs) (Nat.le_of_ble_eq_true rfl) (fit_0 rfl rfl) rfl hF (fun b17 I18 hF => ?_)
    show K _ _ [.int (b2i b17)] _ _ _
    exact k_iret (x := b2i b17) hK dX4_line_185 rfl (b2i_nar _) (done_0 rfl rfl) (qC_i hF)
  have hF := hF.2 h16
  refine swc (fun h19 => ?_) (fun h19 => ?_)
  · have hF := hF.1 h19
    refine k_ld hK 0 dX4_line_171 rfl rfl rfl rfl ?_
    refine k_cVc hK dX4_line_172 (Or.inl lm_X4_97) (As := []) (S := []) rfl (sc_2 hs) (Nat.le_of_ble_eq_true rfl) (fit_0 rfl rfl) rfl hF (fun b20 I21 hF => ?_)
    show K _ _ [.int (b2i b20)] _ _ _
    exact k_iret (x := b2i b20) hK dX4_line_175 rfl (b2i_nar _) (done_0 rfl rfl) (qC_i hF)
  have hF := hF.2 h19
  refine swc (fun h22 => ?_) (fun h22 => ?_)
  · have hF := hF.1 h22
    refine k_ld hK 0 dX4_line_166 rfl rfl rfl rfl ?_
    refine k_cVc hK dX4_line_167 (Or.inl lm_X4_94) (As := []) (S := []) rfl (sc_2 hs) (Nat.le_of_ble_eq_true rfl) (fit_0 rfl rfl) rfl hF (fun b23 I24 hF => ?_)
    show K _ _ [.int (b2i b23)] _ _ _
    exact k_iret (x := b2i b23) hK dX4_line_170 rfl (b2i_nar _) (done_0 rfl rfl) (qC_i hF)
  have hF := hF.2 h22
  refine swn ?_
  refine k_ld hK 0 dX4_line_196 rfl rfl rfl rfl ?_
  refine k_gR hK dX4_line_197 lf_X4_29 rfl (sc_2 hs) (sf_2_0 hs) ?_
  refine k_cVp hK dX4_line_200 (Or.inl lm_X4_112) (As := []) (S := []) rfl (sc_7 hs) (Nat.le_of_ble_eq_true rfl) (fit_0 rfl rfl) rfl hF (fun b25 hF => ?_)
  show K _ _ [.int (b2i b25)] _ _ _
  refine k_beq hK dX4_line_203 (tgt := 213) rfl (fun h26 => ?_) (fun h26 => ?_)
  · have hF := hF.1 h26
    refine k_ld hK 0 dX4_line_213 rfl rfl rfl rfl ?_
    refine k_ic hK dX4_line_214 ci_1 ?_
    refine k_cVc hK dX4_line_215 (Or.inl lm_X4_71) (As := [.int 1]) (S := []) rfl (sc_2 hs) (Nat.le_of_ble_eq_true rfl) (fit_0 rfl rfl) rfl hF (fun b27 I28 hF => ?_)
    show K _ _ [.int (b2i b27)] _ _ _
    exact k_iret (x := b2i b27) hK dX4_line_218 rfl (b2i_nar _) (done_0 rfl rfl) (qC_i hF)
  · have hF := hF.2 h26
    refine k_ld hK 0 dX4_line_206 rfl rfl rfl rfl ?_
    refine k_cVc hK dX4_line_207 (Or.inl lm_X4_115) (As := []) (S := []) rfl (sc_2 hs) (Nat.le_of_ble_eq_true rfl) (fit_0 rfl rfl) rfl hF (fun b29 I30 hF => ?_)
    show K _ _ [.int (b2i b29)] _ _ _
    refine k_goto hK dX4_line_210 (tgt := 218) rfl ?_
    exact k_iret (x := b2i b29) hK dX4_line_218 rfl (b2i_nar _) (done_0 rfl rfl) (qC_i hF)
set_option maxHeartbeats 4000000 in
theorem g_X4_inputLine_0 {d : Nat} {K : KT} {Q : Bool → HI → Prop} {I : HI} {J : HJ} {R : HR}  (hK : am_R M_X4_inputLine (am_W d) none R (qC fb J R Q) K) (hs : Stat R)  (hF : (∃ p1 : Nat, (R 2 1) = some p1 ∧ isX5 p1 ∧ (((I p1 3) < 4 → Wc fv d M_X6_advance [.ref 7] I J R (fun u4 I5 => Wc fb d M_X4_newName [.ref 2] I5 J R (fun b6 I7 => ((b6 = true → Wc fi d M_X4_variableOf [.ref 2, .int (I7 7 4), .int (b2i true)] I7 J R (fun r9 I10 => Wc fv d M_X6_advance [.ref 7] (up I10 p1 3 ((I10 p1 3) + 1)) J R (fun u11 I12 => Q true I12))) ∧ (b6 = false → Q false I7))))) ∧ (¬ (I p1 3) < 4 → Wc fb d M_X4_fail [.ref 2, .int 2] I J R (fun b13 I14 => Q b13 I14))))) : K 0 [(0, .ref 2)] [] I J R := by
  refine k_ld hK 0 dX4_inputLine_0 rfl rfl rfl rfl ?_
  obtain ⟨p1, e2, h_p1, hF⟩ := hF
  refine k_gR hK dX4_inputLine_1 lf_X4_33 rfl (sc_2 hs) e2 ?_
  refine k_gI hK dX4_inputLine_4 lf_X4_118 rfl (sk_X5_0 hs h_p1) rfl ?_
  refine k_ic hK dX4_inputLine_7 ci_4 ?_
  refine k_clt hK dX4_inputLine_8 (tgt := 17) rfl (fun h3 => ?_) (fun h3 => ?_)
  · have hF := hF.1 h3
    refine k_ld hK 0 dX4_inputLine_17 rfl rfl rfl rfl ?_
    refine k_gR hK dX4_inputLine_18 lf_X4_29 rfl (sc_2 hs) (sf_2_0 hs) ?_
    refine k_cVc hK dX4_inputLine_21 (Or.inl lm_X4_75) (As := []) (S := []) rfl (sc_7 hs) (Nat.le_of_ble_eq_true rfl) (fit_0 rfl rfl) rfl hF (fun u4 I5 hF => ?_)
    show K _ _ [] _ _ _
    refine k_ld hK 0 dX4_inputLine_24 rfl rfl rfl rfl ?_
    refine k_cVc hK dX4_inputLine_25 (Or.inl lm_X4_121) (As := []) (S := []) rfl (sc_2 hs) (Nat.le_of_ble_eq_true rfl) (fit_0 rfl rfl) rfl hF (fun b6 I7 hF => ?_)
    show K _ _ [.int (b2i b6)] _ _ _
    refine k_bne hK dX4_inputLine_28 (tgt := 33) rfl (fun h8 => ?_) (fun h8 => ?_)
    · have hF := hF.1 h8
      refine k_ld hK 0 dX4_inputLine_33 rfl rfl rfl rfl ?_
      refine k_ld hK 0 dX4_inputLine_34 rfl rfl rfl rfl ?_
      refine k_gR hK dX4_inputLine_35 lf_X4_29 rfl (sc_2 hs) (sf_2_0 hs) ?_
      refine k_gI hK dX4_inputLine_38 lf_X4_84 rfl (sc_7 hs) rfl ?_
      refine k_ic hK dX4_inputLine_41 ci_1 ?_
      refine k_cVc hK dX4_inputLine_42 (Or.inl lm_X4_124) (As := [.int (I7 7 4), .int (b2i true)]) (S := []) rfl (sc_2 hs) (Nat.le_of_ble_eq_true rfl) (fit_0 rfl rfl) rfl hF (fun r9 I10 hF => ?_)
      show K _ _ [.int r9] _ _ _
      refine k_op hK dX4_inputLine_45 rfl rfl ?_
      refine k_ld hK 0 dX4_inputLine_46 rfl rfl rfl rfl ?_
      refine k_gR hK dX4_inputLine_47 lf_X4_33 rfl (sc_2 hs) e2 ?_
      refine k_op hK dX4_inputLine_50 rfl rfl ?_
      refine k_gI hK dX4_inputLine_51 lf_X4_118 rfl (sk_X5_0 hs h_p1) rfl ?_
      refine k_ic hK dX4_inputLine_54 ci_1 ?_
      refine k_op hK dX4_inputLine_55 rfl rfl ?_
      refine k_pI hK dX4_inputLine_56 lf_X4_118 rfl rfl rfl (sk_X5_0 hs h_p1) ?_
      refine k_ld hK 0 dX4_inputLine_59 rfl rfl rfl rfl ?_
      refine k_gR hK dX4_inputLine_60 lf_X4_29 rfl (sc_2 hs) (sf_2_0 hs) ?_
      refine k_cVc hK dX4_inputLine_63 (Or.inl lm_X4_75) (As := []) (S := []) rfl (sc_7 hs) (Nat.le_of_ble_eq_true rfl) (fit_0 rfl rfl) rfl hF (fun u11 I12 hF => ?_)
      show K _ _ [] _ _ _
      refine k_ic hK dX4_inputLine_66 ci_1 ?_
      exact k_iret (x := b2i true) hK dX4_inputLine_67 rfl (b2i_nar _) (done_0 rfl rfl) (qC_i hF)
    · have hF := hF.2 h8
      refine k_ic hK dX4_inputLine_31 ci_0 ?_
      exact k_iret (x := b2i false) hK dX4_inputLine_32 rfl (b2i_nar _) (done_0 rfl rfl) (qC_i hF)
  · have hF := hF.2 h3
    refine k_ld hK 0 dX4_inputLine_11 rfl rfl rfl rfl ?_
    refine k_ic hK dX4_inputLine_12 ci_2 ?_
    refine k_cVc hK dX4_inputLine_13 (Or.inl lm_X4_71) (As := [.int 2]) (S := []) rfl (sc_2 hs) (Nat.le_of_ble_eq_true rfl) (fit_0 rfl rfl) rfl hF (fun b13 I14 hF => ?_)
    show K _ _ [.int (b2i b13)] _ _ _
    exact k_iret (x := b2i b13) hK dX4_inputLine_16 rfl (b2i_nar _) (done_0 rfl rfl) (qC_i hF)
theorem e_X4_inputLine {d : Nat} {Q : Bool → HI → Prop} {I : HI} {J : HJ} {R : HR}  (hs : Stat R)  (hF : (∃ p1 : Nat, (R 2 1) = some p1 ∧ isX5 p1 ∧ (((I p1 3) < 4 → Wc fv d M_X6_advance [.ref 7] I J R (fun u4 I5 => Wc fb d M_X4_newName [.ref 2] I5 J R (fun b6 I7 => ((b6 = true → Wc fi d M_X4_variableOf [.ref 2, .int (I7 7 4), .int (b2i true)] I7 J R (fun r9 I10 => Wc fv d M_X6_advance [.ref 7] (up I10 p1 3 ((I10 p1 3) + 1)) J R (fun u11 I12 => Q true I12))) ∧ (b6 = false → Q false I7))))) ∧ (¬ (I p1 3) < 4 → Wc fb d M_X4_fail [.ref 2, .int 2] I J R (fun b13 I14 => Q b13 I14))))) : Wc fb (d + 1) M_X4_inputLine [.ref 2] I J R Q := ⟨Nat.le_of_ble_eq_true rfl, fun K hK => g_X4_inputLine_0 hK hs hF⟩
set_option maxHeartbeats 4000000 in
theorem g_X4_newName_0 {d : Nat} {K : KT} {Q : Bool → HI → Prop} {I : HI} {J : HJ} {R : HR}  (hK : am_R M_X4_newName (am_W d) none R (qC fb J R Q) K) (hs : Stat R)  (hF : Wp fb d M_X6_isName [.ref 7] I J R (fun b1 => ((b1 = true → Wc fi d M_X4_variableOf [.ref 2, .int (I 7 4), .int (b2i false)] I J R (fun r3 I4 => ((¬ r3 = (-1) → Wc fb d M_X4_fail [.ref 2, .int 3] I4 J R (fun b6 I7 => Q b6 I7)) ∧ (r3 = (-1) → Wp fi d M_X4_rowOf [.ref 2, .int (I4 7 4)] I4 J R (fun r8 => ((r8 = (-1) → Q true I4) ∧ (¬ r8 = (-1) → Wc fb d M_X4_fail [.ref 2, .int 3] I4 J R (fun b10 I11 => Q b10 I11)))))))) ∧ (b1 = false → Wc fb d M_X4_fail [.ref 2, .int 1] I J R (fun b12 I13 => Q b12 I13))))) : K 0 [(0, .ref 2)] [] I J R := by
  refine k_ld hK 0 dX4_newName_0 rfl rfl rfl rfl ?_
  refine k_gR hK dX4_newName_1 lf_X4_29 rfl (sc_2 hs) (sf_2_0 hs) ?_
  refine k_cVp hK dX4_newName_4 (Or.inl lm_X4_112) (As := []) (S := []) rfl (sc_7 hs) (Nat.le_of_ble_eq_true rfl) (fit_0 rfl rfl) rfl hF (fun b1 hF => ?_)
  show K _ _ [.int (b2i b1)] _ _ _
  refine k_bne hK dX4_newName_7 (tgt := 16) rfl (fun h2 => ?_) (fun h2 => ?_)
  · have hF := hF.1 h2
    refine k_ld hK 0 dX4_newName_16 rfl rfl rfl rfl ?_
    refine k_ld hK 0 dX4_newName_17 rfl rfl rfl rfl ?_
    refine k_gR hK dX4_newName_18 lf_X4_29 rfl (sc_2 hs) (sf_2_0 hs) ?_
    refine k_gI hK dX4_newName_21 lf_X4_84 rfl (sc_7 hs) rfl ?_
    refine k_ic hK dX4_newName_24 ci_0 ?_
    refine k_cVc hK dX4_newName_25 (Or.inl lm_X4_124) (As := [.int (I 7 4), .int (b2i false)]) (S := []) rfl (sc_2 hs) (Nat.le_of_ble_eq_true rfl) (fit_0 rfl rfl) rfl hF (fun r3 I4 hF => ?_)
    show K _ _ [.int r3] _ _ _
    refine k_ic hK dX4_newName_28 ci_m1 ?_
    refine k_cne hK dX4_newName_29 (tgt := 47) rfl (fun h5 => ?_) (fun h5 => ?_)
    · have hF := hF.1 h5
      refine k_ld hK 0 dX4_newName_47 rfl rfl rfl rfl ?_
      refine k_ic hK dX4_newName_48 ci_3 ?_
      refine k_cVc hK dX4_newName_49 (Or.inl lm_X4_71) (As := [.int 3]) (S := []) rfl (sc_2 hs) (Nat.le_of_ble_eq_true rfl) (fit_0 rfl rfl) rfl hF (fun b6 I7 hF => ?_)
      show K _ _ [.int (b2i b6)] _ _ _
      exact k_iret (x := b2i b6) hK dX4_newName_52 rfl (b2i_nar _) (done_0 rfl rfl) (qC_i hF)
    · have hF := hF.2 h5
      refine k_ld hK 0 dX4_newName_32 rfl rfl rfl rfl ?_
      refine k_ld hK 0 dX4_newName_33 rfl rfl rfl rfl ?_
      refine k_gR hK dX4_newName_34 lf_X4_29 rfl (sc_2 hs) (sf_2_0 hs) ?_
      refine k_gI hK dX4_newName_37 lf_X4_84 rfl (sc_7 hs) rfl ?_
      refine k_cVp hK dX4_newName_40 (Or.inl lm_X4_128) (As := [.int (I4 7 4)]) (S := []) rfl (sc_2 hs) (Nat.le_of_ble_eq_true rfl) (fit_0 rfl rfl) rfl hF (fun r8 hF => ?_)
      show K _ _ [.int r8] _ _ _
      refine k_ic hK dX4_newName_43 ci_m1 ?_
      refine k_ceq hK dX4_newName_44 (tgt := 53) rfl (fun h9 => ?_) (fun h9 => ?_)
      · have hF := hF.1 h9
        refine k_ic hK dX4_newName_53 ci_1 ?_
        exact k_iret (x := b2i true) hK dX4_newName_54 rfl (b2i_nar _) (done_0 rfl rfl) (qC_i hF)
      · have hF := hF.2 h9
        refine k_ld hK 0 dX4_newName_47 rfl rfl rfl rfl ?_
        refine k_ic hK dX4_newName_48 ci_3 ?_
        refine k_cVc hK dX4_newName_49 (Or.inl lm_X4_71) (As := [.int 3]) (S := []) rfl (sc_2 hs) (Nat.le_of_ble_eq_true rfl) (fit_0 rfl rfl) rfl hF (fun b10 I11 hF => ?_)
        show K _ _ [.int (b2i b10)] _ _ _
        exact k_iret (x := b2i b10) hK dX4_newName_52 rfl (b2i_nar _) (done_0 rfl rfl) (qC_i hF)
  · have hF := hF.2 h2
    refine k_ld hK 0 dX4_newName_10 rfl rfl rfl rfl ?_
    refine k_ic hK dX4_newName_11 ci_1 ?_
    refine k_cVc hK dX4_newName_12 (Or.inl lm_X4_71) (As := [.int 1]) (S := []) rfl (sc_2 hs) (Nat.le_of_ble_eq_true rfl) (fit_0 rfl rfl) rfl hF (fun b12 I13 hF => ?_)
    show K _ _ [.int (b2i b12)] _ _ _
    exact k_iret (x := b2i b12) hK dX4_newName_15 rfl (b2i_nar _) (done_0 rfl rfl) (qC_i hF)
theorem e_X4_newName {d : Nat} {Q : Bool → HI → Prop} {I : HI} {J : HJ} {R : HR}  (hs : Stat R)  (hF : Wp fb d M_X6_isName [.ref 7] I J R (fun b1 => ((b1 = true → Wc fi d M_X4_variableOf [.ref 2, .int (I 7 4), .int (b2i false)] I J R (fun r3 I4 => ((¬ r3 = (-1) → Wc fb d M_X4_fail [.ref 2, .int 3] I4 J R (fun b6 I7 => Q b6 I7)) ∧ (r3 = (-1) → Wp fi d M_X4_rowOf [.ref 2, .int (I4 7 4)] I4 J R (fun r8 => ((r8 = (-1) → Q true I4) ∧ (¬ r8 = (-1) → Wc fb d M_X4_fail [.ref 2, .int 3] I4 J R (fun b10 I11 => Q b10 I11)))))))) ∧ (b1 = false → Wc fb d M_X4_fail [.ref 2, .int 1] I J R (fun b12 I13 => Q b12 I13))))) : Wc fb (d + 1) M_X4_newName [.ref 2] I J R Q := ⟨Nat.le_of_ble_eq_true rfl, fun K hK => g_X4_newName_0 hK hs hF⟩
set_option maxHeartbeats 4000000 in
theorem g_X4_newRowName_0 {d : Nat} {K : KT} {Q : Bool → HI → Prop} {I : HI} {J : HJ} {R : HR}  (hK : am_R M_X4_newRowName (am_W d) none R (qC fb J R Q) K) (hs : Stat R)  (hF : (∃ p1 : Nat, (R 2 1) = some p1 ∧ isX5 p1 ∧ (((I p1 5) < 6 → Wc fv d M_X6_advance [.ref 7] I J R (fun u4 I5 => Wc fb d M_X4_newName [.ref 2] I5 J R (fun b6 I7 => Q b6 I7))) ∧ (¬ (I p1 5) < 6 → Wc fb d M_X4_fail [.ref 2, .int 2] I J R (fun b8 I9 => Q b8 I9))))) : K 0 [(0, .ref 2)] [] I J R := by
  refine k_ld hK 0 dX4_newRowName_0 rfl rfl rfl rfl ?_
  obtain ⟨p1, e2, h_p1, hF⟩ := hF
  refine k_gR hK dX4_newRowName_1 lf_X4_33 rfl (sc_2 hs) e2 ?_
  refine k_gI hK dX4_newRowName_4 lf_X4_132 rfl (sk_X5_0 hs h_p1) rfl ?_
  refine k_bi hK dX4_newRowName_7 cb_6 ?_
  refine k_clt hK dX4_newRowName_9 (tgt := 18) rfl (fun h3 => ?_) (fun h3 => ?_)
  · have hF := hF.1 h3
    refine k_ld hK 0 dX4_newRowName_18 rfl rfl rfl rfl ?_
    refine k_gR hK dX4_newRowName_19 lf_X4_29 rfl (sc_2 hs) (sf_2_0 hs) ?_
    refine k_cVc hK dX4_newRowName_22 (Or.inl lm_X4_75) (As := []) (S := []) rfl (sc_7 hs) (Nat.le_of_ble_eq_true rfl) (fit_0 rfl rfl) rfl hF (fun u4 I5 hF => ?_)
    show K _ _ [] _ _ _
    refine k_ld hK 0 dX4_newRowName_25 rfl rfl rfl rfl ?_
    refine k_cVc hK dX4_newRowName_26 (Or.inl lm_X4_121) (As := []) (S := []) rfl (sc_2 hs) (Nat.le_of_ble_eq_true rfl) (fit_0 rfl rfl) rfl hF (fun b6 I7 hF => ?_)
    show K _ _ [.int (b2i b6)] _ _ _
    exact k_iret (x := b2i b6) hK dX4_newRowName_29 rfl (b2i_nar _) (done_0 rfl rfl) (qC_i hF)
  · have hF := hF.2 h3
    refine k_ld hK 0 dX4_newRowName_12 rfl rfl rfl rfl ?_
    refine k_ic hK dX4_newRowName_13 ci_2 ?_
    refine k_cVc hK dX4_newRowName_14 (Or.inl lm_X4_71) (As := [.int 2]) (S := []) rfl (sc_2 hs) (Nat.le_of_ble_eq_true rfl) (fit_0 rfl rfl) rfl hF (fun b8 I9 hF => ?_)
    show K _ _ [.int (b2i b8)] _ _ _
    exact k_iret (x := b2i b8) hK dX4_newRowName_17 rfl (b2i_nar _) (done_0 rfl rfl) (qC_i hF)
theorem e_X4_newRowName {d : Nat} {Q : Bool → HI → Prop} {I : HI} {J : HJ} {R : HR}  (hs : Stat R)  (hF : (∃ p1 : Nat, (R 2 1) = some p1 ∧ isX5 p1 ∧ (((I p1 5) < 6 → Wc fv d M_X6_advance [.ref 7] I J R (fun u4 I5 => Wc fb d M_X4_newName [.ref 2] I5 J R (fun b6 I7 => Q b6 I7))) ∧ (¬ (I p1 5) < 6 → Wc fb d M_X4_fail [.ref 2, .int 2] I J R (fun b8 I9 => Q b8 I9))))) : Wc fb (d + 1) M_X4_newRowName [.ref 2] I J R Q := ⟨Nat.le_of_ble_eq_true rfl, fun K hK => g_X4_newRowName_0 hK hs hF⟩
set_option maxHeartbeats 4000000 in
theorem g_X4_rowLine_0 {d : Nat} {K : KT} {Q : Bool → HI → Prop} {I : HI} {J : HJ} {R : HR}  (hK : am_R M_X4_rowLine (am_W d) none R (qC fb J R Q) K) (hs : Stat R)  (hF : Wc fb d M_X4_newRowName [.ref 2] I J R (fun b1 I2 => ((b1 = true → Wc fv d M_X6_advance [.ref 7] I2 J R (fun u4 I5 => Wc fb d M_X4_numberWithin [.ref 2, .int 1, .int 8] I5 J R (fun b6 I7 => ((b6 = true → (∃ p9 : Nat, (R 2 1) = some p9 ∧ isX5 p9 ∧ Wc fv d M_X4_addRow [.ref 2, .int (I2 7 4), .int (I7 p9 6), .int (I7 7 4)] I7 J R (fun u11 I12 => Wc fv d M_X6_advance [.ref 7] (up I12 p9 6 ((I12 p9 6) + (I12 7 4))) J R (fun u13 I14 => Q true I14)))) ∧ (b6 = false → Q false I7))))) ∧ (b1 = false → Q false I2)))) : K 0 [(0, .ref 2)] [] I J R := by
  refine k_ld hK 0 dX4_rowLine_0 rfl rfl rfl rfl ?_
  refine k_cVc hK dX4_rowLine_1 (Or.inl lm_X4_135) (As := []) (S := []) rfl (sc_2 hs) (Nat.le_of_ble_eq_true rfl) (fit_0 rfl rfl) rfl hF (fun b1 I2 hF => ?_)
  show K _ _ [.int (b2i b1)] _ _ _
  refine k_bne hK dX4_rowLine_4 (tgt := 9) rfl (fun h3 => ?_) (fun h3 => ?_)
  · have hF := hF.1 h3
    refine k_ld hK 0 dX4_rowLine_9 rfl rfl rfl rfl ?_
    refine k_gR hK dX4_rowLine_10 lf_X4_29 rfl (sc_2 hs) (sf_2_0 hs) ?_
    refine k_gI hK dX4_rowLine_13 lf_X4_84 rfl (sc_7 hs) rfl ?_
    refine k_st hK dX4_rowLine_16 rfl rfl rfl (Nat.le_of_ble_eq_true rfl) rfl ?_
    refine k_ld hK 1 dX4_rowLine_17 rfl rfl rfl rfl ?_
    refine k_gR hK dX4_rowLine_18 lf_X4_29 rfl (sc_2 hs) (sf_2_0 hs) ?_
    refine k_cVc hK dX4_rowLine_21 (Or.inl lm_X4_75) (As := []) (S := []) rfl (sc_7 hs) (Nat.le_of_ble_eq_true rfl) (fit_0 rfl rfl) rfl hF (fun u4 I5 hF => ?_)
    show K _ _ [] _ _ _
    refine k_ld hK 1 dX4_rowLine_24 rfl rfl rfl rfl ?_
    refine k_ic hK dX4_rowLine_25 ci_1 ?_
    refine k_bi hK dX4_rowLine_26 cb_8 ?_
    refine k_cVc hK dX4_rowLine_28 (Or.inl lm_X4_138) (As := [.int 1, .int 8]) (S := []) rfl (sc_2 hs) (Nat.le_of_ble_eq_true rfl) (fit_0 rfl rfl) rfl hF (fun b6 I7 hF => ?_)
    show K _ _ [.int (b2i b6)] _ _ _
    refine k_bne hK dX4_rowLine_31 (tgt := 36) rfl (fun h8 => ?_) (fun h8 => ?_)
    · have hF := hF.1 h8
      refine k_ld hK 1 dX4_rowLine_36 rfl rfl rfl rfl ?_
      refine k_ld hK 0 dX4_rowLine_37 rfl rfl rfl rfl ?_
      refine k_ld hK 1 dX4_rowLine_38 rfl rfl rfl rfl ?_
      obtain ⟨p9, e10, h_p9, hF⟩ := hF
      refine k_gR hK dX4_rowLine_39 lf_X4_33 rfl (sc_2 hs) e10 ?_
      refine k_gI hK dX4_rowLine_42 lf_X4_142 rfl (sk_X5_0 hs h_p9) rfl ?_
      refine k_ld hK 1 dX4_rowLine_45 rfl rfl rfl rfl ?_
      refine k_gR hK dX4_rowLine_46 lf_X4_29 rfl (sc_2 hs) (sf_2_0 hs) ?_
      refine k_gI hK dX4_rowLine_49 lf_X4_84 rfl (sc_7 hs) rfl ?_
      refine k_cVc hK dX4_rowLine_52 (Or.inl lm_X4_145) (As := [.int (I2 7 4), .int (I7 p9 6), .int (I7 7 4)]) (S := []) rfl (sc_2 hs) (Nat.le_of_ble_eq_true rfl) (fit_0 rfl rfl) rfl hF (fun u11 I12 hF => ?_)
      show K _ _ [] _ _ _
      refine k_ld hK 1 dX4_rowLine_55 rfl rfl rfl rfl ?_
      refine k_gR hK dX4_rowLine_56 lf_X4_33 rfl (sc_2 hs) e10 ?_
      refine k_op hK dX4_rowLine_59 rfl rfl ?_
      refine k_gI hK dX4_rowLine_60 lf_X4_142 rfl (sk_X5_0 hs h_p9) rfl ?_
      refine k_ld hK 1 dX4_rowLine_63 rfl rfl rfl rfl ?_
      refine k_gR hK dX4_rowLine_64 lf_X4_29 rfl (sc_2 hs) (sf_2_0 hs) ?_
      refine k_gI hK dX4_rowLine_67 lf_X4_84 rfl (sc_7 hs) rfl ?_
      refine k_op hK dX4_rowLine_70 rfl rfl ?_
      refine k_pI hK dX4_rowLine_71 lf_X4_142 rfl rfl rfl (sk_X5_0 hs h_p9) ?_
      refine k_ld hK 1 dX4_rowLine_74 rfl rfl rfl rfl ?_
      refine k_gR hK dX4_rowLine_75 lf_X4_29 rfl (sc_2 hs) (sf_2_0 hs) ?_
      refine k_cVc hK dX4_rowLine_78 (Or.inl lm_X4_75) (As := []) (S := []) rfl (sc_7 hs) (Nat.le_of_ble_eq_true rfl) (fit_0 rfl rfl) rfl hF (fun u13 I14 hF => ?_)
      show K _ _ [] _ _ _
      refine k_ic hK dX4_rowLine_81 ci_1 ?_
      exact k_iret (x := b2i true) hK dX4_rowLine_82 rfl (b2i_nar _) (done_0 rfl rfl) (qC_i hF)
    · have hF := hF.2 h8
      refine k_ic hK dX4_rowLine_34 ci_0 ?_
      exact k_iret (x := b2i false) hK dX4_rowLine_35 rfl (b2i_nar _) (done_0 rfl rfl) (qC_i hF)
  · have hF := hF.2 h3
    refine k_ic hK dX4_rowLine_7 ci_0 ?_
    exact k_iret (x := b2i false) hK dX4_rowLine_8 rfl (b2i_nar _) (done_0 rfl rfl) (qC_i hF)
theorem e_X4_rowLine {d : Nat} {Q : Bool → HI → Prop} {I : HI} {J : HJ} {R : HR}  (hs : Stat R)  (hF : Wc fb d M_X4_newRowName [.ref 2] I J R (fun b1 I2 => ((b1 = true → Wc fv d M_X6_advance [.ref 7] I2 J R (fun u4 I5 => Wc fb d M_X4_numberWithin [.ref 2, .int 1, .int 8] I5 J R (fun b6 I7 => ((b6 = true → (∃ p9 : Nat, (R 2 1) = some p9 ∧ isX5 p9 ∧ Wc fv d M_X4_addRow [.ref 2, .int (I2 7 4), .int (I7 p9 6), .int (I7 7 4)] I7 J R (fun u11 I12 => Wc fv d M_X6_advance [.ref 7] (up I12 p9 6 ((I12 p9 6) + (I12 7 4))) J R (fun u13 I14 => Q true I14)))) ∧ (b6 = false → Q false I7))))) ∧ (b1 = false → Q false I2)))) : Wc fb (d + 1) M_X4_rowLine [.ref 2] I J R Q := ⟨Nat.le_of_ble_eq_true rfl, fun K hK => g_X4_rowLine_0 hK hs hF⟩
set_option maxHeartbeats 4000000 in
theorem g_X4_aliasLine_0 {d : Nat} {K : KT} {Q : Bool → HI → Prop} {I : HI} {J : HJ} {R : HR}  (hK : am_R M_X4_aliasLine (am_W d) none R (qC fb J R Q) K) (hs : Stat R)  (hF : Wc fb d M_X4_newRowName [.ref 2] I J R (fun b1 I2 => ((b1 = true → Wc fv d M_X6_advance [.ref 7] I2 J R (fun u4 I5 => Wp fb d M_X6_isName [.ref 7] I5 J R (fun b6 => ((b6 = false → K 49 [(0, .ref 2), (1, .int (I2 7 4))] [.int (-1)] I5 J R) ∧ (b6 = true → Wp fi d M_X4_rowOf [.ref 2, .int (I5 7 4)] I5 J R (fun r8 => K 49 [(0, .ref 2), (1, .int (I2 7 4))] [.int r8] I5 J R)))))) ∧ (b1 = false → Q false I2)))) : K 0 [(0, .ref 2)] [] I J R := by
  refine k_ld hK 0 dX4_aliasLine_0 rfl rfl rfl rfl ?_
  refine k_cVc hK dX4_aliasLine_1 (Or.inl lm_X4_135) (As := []) (S := []) rfl (sc_2 hs) (Nat.le_of_ble_eq_true rfl) (fit_0 rfl rfl) rfl hF (fun b1 I2 hF => ?_)
  show K _ _ [.int (b2i b1)] _ _ _
  refine k_bne hK dX4_aliasLine_4 (tgt := 9) rfl (fun h3 => ?_) (fun h3 => ?_)
  · have hF := hF.1 h3
    refine k_ld hK 0 dX4_aliasLine_9 rfl rfl rfl rfl ?_
    refine k_gR hK dX4_aliasLine_10 lf_X4_29 rfl (sc_2 hs) (sf_2_0 hs) ?_
    refine k_gI hK dX4_aliasLine_13 lf_X4_84 rfl (sc_7 hs) rfl ?_
    refine k_st hK dX4_aliasLine_16 rfl rfl rfl (Nat.le_of_ble_eq_true rfl) rfl ?_
    refine k_ld hK 1 dX4_aliasLine_17 rfl rfl rfl rfl ?_
    refine k_gR hK dX4_aliasLine_18 lf_X4_29 rfl (sc_2 hs) (sf_2_0 hs) ?_
    refine k_cVc hK dX4_aliasLine_21 (Or.inl lm_X4_75) (As := []) (S := []) rfl (sc_7 hs) (Nat.le_of_ble_eq_true rfl) (fit_0 rfl rfl) rfl hF (fun u4 I5 hF => ?_)
    show K _ _ [] _ _ _
    refine k_ld hK 1 dX4_aliasLine_24 rfl rfl rfl rfl ?_
    refine k_gR hK dX4_aliasLine_25 lf_X4_29 rfl (sc_2 hs) (sf_2_0 hs) ?_
    refine k_cVp hK dX4_aliasLine_28 (Or.inl lm_X4_112) (As := []) (S := []) rfl (sc_7 hs) (Nat.le_of_ble_eq_true rfl) (fit_0 rfl rfl) rfl hF (fun b6 hF => ?_)
    show K _ _ [.int (b2i b6)] _ _ _
    refine k_beq hK dX4_aliasLine_31 (tgt := 48) rfl (fun h7 => ?_) (fun h7 => ?_)
    · have hF := hF.1 h7
      refine k_ic hK dX4_aliasLine_48 ci_m1 ?_
      exact k_sub hK [1, 0] rfl hF
    · have hF := hF.2 h7
      refine k_ld hK 1 dX4_aliasLine_34 rfl rfl rfl rfl ?_
      refine k_ld hK 1 dX4_aliasLine_35 rfl rfl rfl rfl ?_
      refine k_gR hK dX4_aliasLine_36 lf_X4_29 rfl (sc_2 hs) (sf_2_0 hs) ?_
      refine k_gI hK dX4_aliasLine_39 lf_X4_84 rfl (sc_7 hs) rfl ?_
      refine k_cVp hK dX4_aliasLine_42 (Or.inl lm_X4_128) (As := [.int (I5 7 4)]) (S := []) rfl (sc_2 hs) (Nat.le_of_ble_eq_true rfl) (fit_0 rfl rfl) rfl hF (fun r8 hF => ?_)
      show K _ _ [.int r8] _ _ _
      refine k_goto hK dX4_aliasLine_45 (tgt := 49) rfl ?_
      exact k_sub hK [1, 0] rfl hF
  · have hF := hF.2 h3
    refine k_ic hK dX4_aliasLine_7 ci_0 ?_
    exact k_iret (x := b2i false) hK dX4_aliasLine_8 rfl (b2i_nar _) (done_0 rfl rfl) (qC_i hF)
set_option maxHeartbeats 4000000 in
theorem g_X4_aliasLine_49 {d : Nat} {K : KT} {Q : Bool → HI → Prop} {I : HI} {J : HJ} {R : HR} {x1 : Int32} {u0 : Int32} (hK : am_R M_X4_aliasLine (am_W d) none R (qC fb J R Q) K) (hs : Stat R)  (hF : ((u0 < 0 → Wc fb d M_X4_fail [.ref 2, .int 1] I J R (fun b2 I3 => Q b2 I3)) ∧ (¬ u0 < 0 → ((u0 < 6 → Wc fv d M_X6_advance [.ref 7] I J R (fun u5 I6 => (∃ p7 : Nat, (R 2 1) = some p7 ∧ isX5 p7 ∧ (∃ n9 : Nat, u0 = nI n9 ∧ n9 < 6 ∧ Wc fb d M_X4_numberWithin [.ref 2, .int 0, .int ((I6 (p7 + 3) n9) - 1)] I6 J R (fun b12 I13 => ((b12 = true → Wc fv d M_X4_addRow [.ref 2, .int x1, .int ((I13 (p7 + 2) n9) + (I13 7 4)), .int ((I13 (p7 + 3) n9) - (I13 7 4))] I13 J R (fun u15 I16 => Wc fv d M_X6_advance [.ref 7] I16 J R (fun u17 I18 => Q true I18))) ∧ (b12 = false → Q false I13))))))) ∧ (¬ u0 < 6 → Wc fb d M_X4_fail [.ref 2, .int 1] I J R (fun b19 I20 => Q b19 I20)))))) : K 49 [(0, .ref 2), (1, .int x1)] [.int u0] I J R := by
  refine k_st hK dX4_aliasLine_49 rfl rfl rfl (Nat.le_of_ble_eq_true rfl) rfl ?_
  refine k_ld hK 0 dX4_aliasLine_50 rfl rfl rfl rfl ?_
  refine k_lt hK dX4_aliasLine_51 (tgt := 60) rfl (fun h1 => ?_) (fun h1 => ?_)
  · have hF := hF.1 h1
    refine k_ld hK 1 dX4_aliasLine_60 rfl rfl rfl rfl ?_
    refine k_ic hK dX4_aliasLine_61 ci_1 ?_
    refine k_cVc hK dX4_aliasLine_62 (Or.inl lm_X4_71) (As := [.int 1]) (S := []) rfl (sc_2 hs) (Nat.le_of_ble_eq_true rfl) (fit_0 rfl rfl) rfl hF (fun b2 I3 hF => ?_)
    show K _ _ [.int (b2i b2)] _ _ _
    exact k_iret (x := b2i b2) hK dX4_aliasLine_65 rfl (b2i_nar _) (done_0 rfl rfl) (qC_i hF)
  · have hF := hF.2 h1
    refine k_ld hK 0 dX4_aliasLine_54 rfl rfl rfl rfl ?_
    refine k_bi hK dX4_aliasLine_55 cb_6 ?_
    refine k_clt hK dX4_aliasLine_57 (tgt := 66) rfl (fun h4 => ?_) (fun h4 => ?_)
    · have hF := hF.1 h4
      refine k_ld hK 1 dX4_aliasLine_66 rfl rfl rfl rfl ?_
      refine k_gR hK dX4_aliasLine_67 lf_X4_29 rfl (sc_2 hs) (sf_2_0 hs) ?_
      refine k_cVc hK dX4_aliasLine_70 (Or.inl lm_X4_75) (As := []) (S := []) rfl (sc_7 hs) (Nat.le_of_ble_eq_true rfl) (fit_0 rfl rfl) rfl hF (fun u5 I6 hF => ?_)
      show K _ _ [] _ _ _
      refine k_ld hK 1 dX4_aliasLine_73 rfl rfl rfl rfl ?_
      refine k_ic hK dX4_aliasLine_74 ci_0 ?_
      refine k_ld hK 1 dX4_aliasLine_75 rfl rfl rfl rfl ?_
      obtain ⟨p7, e8, h_p7, hF⟩ := hF
      refine k_gR hK dX4_aliasLine_76 lf_X4_33 rfl (sc_2 hs) e8 ?_
      refine k_gR hK dX4_aliasLine_79 lf_X4_149 rfl (sk_X5_0 hs h_p7) (sr_X5_0_8 hs h_p7) ?_
      refine k_ld hK 0 dX4_aliasLine_82 rfl rfl rfl rfl ?_
      obtain ⟨n9, i10, j11, hF⟩ := hF
      refine k_iald hK dX4_aliasLine_83 (sk_X5_3 hs h_p7) (sl_X5_3 h_p7) (by decide) i10 j11 rfl ?_
      refine k_ic hK dX4_aliasLine_84 ci_1 ?_
      refine k_op hK dX4_aliasLine_85 rfl rfl ?_
      refine k_cVc hK dX4_aliasLine_86 (Or.inl lm_X4_138) (As := [.int 0, .int ((I6 (p7 + 3) n9) - 1)]) (S := []) rfl (sc_2 hs) (Nat.le_of_ble_eq_true rfl) (fit_0 rfl rfl) rfl hF (fun b12 I13 hF => ?_)
      show K _ _ [.int (b2i b12)] _ _ _
      refine k_bne hK dX4_aliasLine_89 (tgt := 94) rfl (fun h14 => ?_) (fun h14 => ?_)
      · have hF := hF.1 h14
        refine k_ld hK 1 dX4_aliasLine_94 rfl rfl rfl rfl ?_
        refine k_ld hK 2 dX4_aliasLine_95 rfl rfl rfl rfl ?_
        refine k_ld hK 1 dX4_aliasLine_96 rfl rfl rfl rfl ?_
        refine k_gR hK dX4_aliasLine_97 lf_X4_33 rfl (sc_2 hs) e8 ?_
        refine k_gR hK dX4_aliasLine_100 lf_X4_152 rfl (sk_X5_0 hs h_p7) (sr_X5_0_7 hs h_p7) ?_
        refine k_ld hK 0 dX4_aliasLine_103 rfl rfl rfl rfl ?_
        refine k_iald hK dX4_aliasLine_104 (sk_X5_2 hs h_p7) (sl_X5_2 h_p7) (by decide) i10 j11 rfl ?_
        refine k_ld hK 1 dX4_aliasLine_105 rfl rfl rfl rfl ?_
        refine k_gR hK dX4_aliasLine_106 lf_X4_29 rfl (sc_2 hs) (sf_2_0 hs) ?_
        refine k_gI hK dX4_aliasLine_109 lf_X4_84 rfl (sc_7 hs) rfl ?_
        refine k_op hK dX4_aliasLine_112 rfl rfl ?_
        refine k_ld hK 1 dX4_aliasLine_113 rfl rfl rfl rfl ?_
        refine k_gR hK dX4_aliasLine_114 lf_X4_33 rfl (sc_2 hs) e8 ?_
        refine k_gR hK dX4_aliasLine_117 lf_X4_149 rfl (sk_X5_0 hs h_p7) (sr_X5_0_8 hs h_p7) ?_
        refine k_ld hK 0 dX4_aliasLine_120 rfl rfl rfl rfl ?_
        refine k_iald hK dX4_aliasLine_121 (sk_X5_3 hs h_p7) (sl_X5_3 h_p7) (by decide) i10 j11 rfl ?_
        refine k_ld hK 1 dX4_aliasLine_122 rfl rfl rfl rfl ?_
        refine k_gR hK dX4_aliasLine_123 lf_X4_29 rfl (sc_2 hs) (sf_2_0 hs) ?_
        refine k_gI hK dX4_aliasLine_126 lf_X4_84 rfl (sc_7 hs) rfl ?_
        refine k_op hK dX4_aliasLine_129 rfl rfl ?_
        refine k_cVc hK dX4_aliasLine_130 (Or.inl lm_X4_145) (As := [.int x1, .int ((I13 (p7 + 2) n9) + (I13 7 4)), .int ((I13 (p7 + 3) n9) - (I13 7 4))]) (S := []) rfl (sc_2 hs) (Nat.le_of_ble_eq_true rfl) (fit_0 rfl rfl) rfl hF (fun u15 I16 hF => ?_)
        show K _ _ [] _ _ _
        refine k_ld hK 1 dX4_aliasLine_133 rfl rfl rfl rfl ?_
        refine k_gR hK dX4_aliasLine_134 lf_X4_29 rfl (sc_2 hs) (sf_2_0 hs) ?_
        refine k_cVc hK dX4_aliasLine_137 (Or.inl lm_X4_75) (As := []) (S := []) rfl (sc_7 hs) (Nat.le_of_ble_eq_true rfl) (fit_0 rfl rfl) rfl hF (fun u17 I18 hF => ?_)
        show K _ _ [] _ _ _
        refine k_ic hK dX4_aliasLine_140 ci_1 ?_
        exact k_iret (x := b2i true) hK dX4_aliasLine_141 rfl (b2i_nar _) (done_0 rfl rfl) (qC_i hF)
      · have hF := hF.2 h14
        refine k_ic hK dX4_aliasLine_92 ci_0 ?_
        exact k_iret (x := b2i false) hK dX4_aliasLine_93 rfl (b2i_nar _) (done_0 rfl rfl) (qC_i hF)
    · have hF := hF.2 h4
      refine k_ld hK 1 dX4_aliasLine_60 rfl rfl rfl rfl ?_
      refine k_ic hK dX4_aliasLine_61 ci_1 ?_
      refine k_cVc hK dX4_aliasLine_62 (Or.inl lm_X4_71) (As := [.int 1]) (S := []) rfl (sc_2 hs) (Nat.le_of_ble_eq_true rfl) (fit_0 rfl rfl) rfl hF (fun b19 I20 hF => ?_)
      show K _ _ [.int (b2i b19)] _ _ _
      exact k_iret (x := b2i b19) hK dX4_aliasLine_65 rfl (b2i_nar _) (done_0 rfl rfl) (qC_i hF)
set_option maxHeartbeats 4000000 in
theorem g_X4_addRow_0 {d : Nat} {K : KT} {Q : Unit → HI → Prop} {I : HI} {J : HJ} {R : HR} {x1 : Int32} {x2 : Int32} {x3 : Int32} (hK : am_R M_X4_addRow (am_W d) none R (qC fv J R Q) K) (hs : Stat R)  (hF : (∃ p1 : Nat, (R 2 1) = some p1 ∧ isX5 p1 ∧ ((6 ≤ (I p1 5) → Q () I) ∧ (¬ 6 ≤ (I p1 5) → (∃ n4 : Nat, (I p1 5) = nI n4 ∧ n4 < 6 ∧ Wc fv d M_X5_addRow [.ref p1, .int x2, .int x3] (up I 4 n4 x1) J R (fun u7 I8 => Q () I8)))))) : K 0 [(0, .ref 2), (1, .int x1), (2, .int x2), (3, .int x3)] [] I J R := by
  refine k_ld hK 0 dX4_addRow_0 rfl rfl rfl rfl ?_
  obtain ⟨p1, e2, h_p1, hF⟩ := hF
  refine k_gR hK dX4_addRow_1 lf_X4_33 rfl (sc_2 hs) e2 ?_
  refine k_gI hK dX4_addRow_4 lf_X4_132 rfl (sk_X5_0 hs h_p1) rfl ?_
  refine k_bi hK dX4_addRow_7 cb_6 ?_
  refine k_cge hK dX4_addRow_9 (tgt := 34) rfl (fun h3 => ?_) (fun h3 => ?_)
  · have hF := hF.1 h3
    exact k_vret hK dX4_addRow_34 rfl (done_0 rfl rfl) (qC_i hF)
  · have hF := hF.2 h3
    refine k_ld hK 0 dX4_addRow_12 rfl rfl rfl rfl ?_
    refine k_gR hK dX4_addRow_13 lf_X4_15 rfl (sc_2 hs) (sf_2_3 hs) ?_
    refine k_ld hK 0 dX4_addRow_16 rfl rfl rfl rfl ?_
    refine k_gR hK dX4_addRow_17 lf_X4_33 rfl (sc_2 hs) e2 ?_
    refine k_gI hK dX4_addRow_20 lf_X4_132 rfl (sk_X5_0 hs h_p1) rfl ?_
    refine k_ld hK 1 dX4_addRow_23 rfl rfl rfl rfl ?_
    obtain ⟨n4, i5, j6, hF⟩ := hF
    refine k_iast hK dX4_addRow_24 (sc_4 hs) sn_4 (by decide) i5 j6 ?_
    refine k_ld hK 0 dX4_addRow_25 rfl rfl rfl rfl ?_
    refine k_gR hK dX4_addRow_26 lf_X4_33 rfl (sc_2 hs) e2 ?_
    refine k_ld hK 2 dX4_addRow_29 rfl rfl rfl rfl ?_
    refine k_ld hK 3 dX4_addRow_30 rfl rfl rfl rfl ?_
    refine k_cVc hK dX4_addRow_31 (Or.inl lm_X4_155) (As := [.int x2, .int x3]) (S := []) rfl (sk_X5_0 hs h_p1) (Nat.le_of_ble_eq_true rfl) (fit_0 rfl rfl) rfl hF (fun u7 I8 hF => ?_)
    show K _ _ [] _ _ _
    exact k_vret hK dX4_addRow_34 rfl (done_0 rfl rfl) (qC_i hF)
theorem e_X4_addRow {d : Nat} {Q : Unit → HI → Prop} {I : HI} {J : HJ} {R : HR} {x1 : Int32} {x2 : Int32} {x3 : Int32} (hs : Stat R)  (hF : (∃ p1 : Nat, (R 2 1) = some p1 ∧ isX5 p1 ∧ ((6 ≤ (I p1 5) → Q () I) ∧ (¬ 6 ≤ (I p1 5) → (∃ n4 : Nat, (I p1 5) = nI n4 ∧ n4 < 6 ∧ Wc fv d M_X5_addRow [.ref p1, .int x2, .int x3] (up I 4 n4 x1) J R (fun u7 I8 => Q () I8)))))) : Wc fv (d + 1) M_X4_addRow [.ref 2, .int x1, .int x2, .int x3] I J R Q := ⟨Nat.le_of_ble_eq_true rfl, fun K hK => g_X4_addRow_0 hK hs hF⟩
set_option maxHeartbeats 4000000 in
theorem g_X4_numberWithin_0 {d : Nat} {K : KT} {Q : Bool → HI → Prop} {I : HI} {J : HJ} {R : HR} {x1 : Int32} {x2 : Int32} (hK : am_R M_X4_numberWithin (am_W d) none R (qC fb J R Q) K) (hs : Stat R)  (hF : (((I 7 3) = 2 → (((I 7 4) < x1 → Wc fb d M_X4_fail [.ref 2, .int 2] I J R (fun b3 I4 => ((b3 = false → Q false I4) ∧ (b3 = true → Q true I4)))) ∧ (¬ (I 7 4) < x1 → (((I 7 4) ≤ x2 → Q true I) ∧ (¬ (I 7 4) ≤ x2 → Wc fb d M_X4_fail [.ref 2, .int 2] I J R (fun b7 I8 => ((b7 = false → Q false I8) ∧ (b7 = true → Q true I8)))))))) ∧ (¬ (I 7 3) = 2 → Wc fb d M_X4_fail [.ref 2, .int 1] I J R (fun b10 I11 => Q b10 I11)))) : K 0 [(0, .ref 2), (1, .int x1), (2, .int x2)] [] I J R := by
  refine k_ld hK 0 dX4_numberWithin_0 rfl rfl rfl rfl ?_
  refine k_gR hK dX4_numberWithin_1 lf_X4_29 rfl (sc_2 hs) (sf_2_0 hs) ?_
  refine k_gI hK dX4_numberWithin_4 lf_X4_60 rfl (sc_7 hs) rfl ?_
  refine k_ic hK dX4_numberWithin_7 ci_2 ?_
  refine k_ceq hK dX4_numberWithin_8 (tgt := 17) rfl (fun h1 => ?_) (fun h1 => ?_)
  · have hF := hF.1 h1
    refine k_ld hK 0 dX4_numberWithin_17 rfl rfl rfl rfl ?_
    refine k_gR hK dX4_numberWithin_18 lf_X4_29 rfl (sc_2 hs) (sf_2_0 hs) ?_
    refine k_gI hK dX4_numberWithin_21 lf_X4_84 rfl (sc_7 hs) rfl ?_
    refine k_ld hK 1 dX4_numberWithin_24 rfl rfl rfl rfl ?_
    refine k_clt hK dX4_numberWithin_25 (tgt := 39) rfl (fun h2 => ?_) (fun h2 => ?_)
    · have hF := hF.1 h2
      refine k_ld hK 0 dX4_numberWithin_39 rfl rfl rfl rfl ?_
      refine k_ic hK dX4_numberWithin_40 ci_2 ?_
      refine k_cVc hK dX4_numberWithin_41 (Or.inl lm_X4_71) (As := [.int 2]) (S := []) rfl (sc_2 hs) (Nat.le_of_ble_eq_true rfl) (fit_0 rfl rfl) rfl hF (fun b3 I4 hF => ?_)
      show K _ _ [.int (b2i b3)] _ _ _
      refine k_beq hK dX4_numberWithin_44 (tgt := 51) rfl (fun h5 => ?_) (fun h5 => ?_)
      · have hF := hF.1 h5
        refine k_ic hK dX4_numberWithin_51 ci_0 ?_
        exact k_iret (x := b2i false) hK dX4_numberWithin_52 rfl (b2i_nar _) (done_0 rfl rfl) (qC_i hF)
      · have hF := hF.2 h5
        refine k_ic hK dX4_numberWithin_47 ci_1 ?_
        refine k_goto hK dX4_numberWithin_48 (tgt := 52) rfl ?_
        exact k_iret (x := b2i true) hK dX4_numberWithin_52 rfl (b2i_nar _) (done_0 rfl rfl) (qC_i hF)
    · have hF := hF.2 h2
      refine k_ld hK 0 dX4_numberWithin_28 rfl rfl rfl rfl ?_
      refine k_gR hK dX4_numberWithin_29 lf_X4_29 rfl (sc_2 hs) (sf_2_0 hs) ?_
      refine k_gI hK dX4_numberWithin_32 lf_X4_84 rfl (sc_7 hs) rfl ?_
      refine k_ld hK 2 dX4_numberWithin_35 rfl rfl rfl rfl ?_
      refine k_cle hK dX4_numberWithin_36 (tgt := 47) rfl (fun h6 => ?_) (fun h6 => ?_)
      · have hF := hF.1 h6
        refine k_ic hK dX4_numberWithin_47 ci_1 ?_
        refine k_goto hK dX4_numberWithin_48 (tgt := 52) rfl ?_
        exact k_iret (x := b2i true) hK dX4_numberWithin_52 rfl (b2i_nar _) (done_0 rfl rfl) (qC_i hF)
      · have hF := hF.2 h6
        refine k_ld hK 0 dX4_numberWithin_39 rfl rfl rfl rfl ?_
        refine k_ic hK dX4_numberWithin_40 ci_2 ?_
        refine k_cVc hK dX4_numberWithin_41 (Or.inl lm_X4_71) (As := [.int 2]) (S := []) rfl (sc_2 hs) (Nat.le_of_ble_eq_true rfl) (fit_0 rfl rfl) rfl hF (fun b7 I8 hF => ?_)
        show K _ _ [.int (b2i b7)] _ _ _
        refine k_beq hK dX4_numberWithin_44 (tgt := 51) rfl (fun h9 => ?_) (fun h9 => ?_)
        · have hF := hF.1 h9
          refine k_ic hK dX4_numberWithin_51 ci_0 ?_
          exact k_iret (x := b2i false) hK dX4_numberWithin_52 rfl (b2i_nar _) (done_0 rfl rfl) (qC_i hF)
        · have hF := hF.2 h9
          refine k_ic hK dX4_numberWithin_47 ci_1 ?_
          refine k_goto hK dX4_numberWithin_48 (tgt := 52) rfl ?_
          exact k_iret (x := b2i true) hK dX4_numberWithin_52 rfl (b2i_nar _) (done_0 rfl rfl) (qC_i hF)
  · have hF := hF.2 h1
    refine k_ld hK 0 dX4_numberWithin_11 rfl rfl rfl rfl ?_
    refine k_ic hK dX4_numberWithin_12 ci_1 ?_
    refine k_cVc hK dX4_numberWithin_13 (Or.inl lm_X4_71) (As := [.int 1]) (S := []) rfl (sc_2 hs) (Nat.le_of_ble_eq_true rfl) (fit_0 rfl rfl) rfl hF (fun b10 I11 hF => ?_)
    show K _ _ [.int (b2i b10)] _ _ _
    exact k_iret (x := b2i b10) hK dX4_numberWithin_16 rfl (b2i_nar _) (done_0 rfl rfl) (qC_i hF)
theorem e_X4_numberWithin {d : Nat} {Q : Bool → HI → Prop} {I : HI} {J : HJ} {R : HR} {x1 : Int32} {x2 : Int32} (hs : Stat R)  (hF : (((I 7 3) = 2 → (((I 7 4) < x1 → Wc fb d M_X4_fail [.ref 2, .int 2] I J R (fun b3 I4 => ((b3 = false → Q false I4) ∧ (b3 = true → Q true I4)))) ∧ (¬ (I 7 4) < x1 → (((I 7 4) ≤ x2 → Q true I) ∧ (¬ (I 7 4) ≤ x2 → Wc fb d M_X4_fail [.ref 2, .int 2] I J R (fun b7 I8 => ((b7 = false → Q false I8) ∧ (b7 = true → Q true I8)))))))) ∧ (¬ (I 7 3) = 2 → Wc fb d M_X4_fail [.ref 2, .int 1] I J R (fun b10 I11 => Q b10 I11)))) : Wc fb (d + 1) M_X4_numberWithin [.ref 2, .int x1, .int x2] I J R Q := ⟨Nat.le_of_ble_eq_true rfl, fun K hK => g_X4_numberWithin_0 hK hs hF⟩
set_option maxHeartbeats 4000000 in
theorem g_X4_assignment_0 {d : Nat} {K : KT} {Q : Bool → HI → Prop} {I : HI} {J : HJ} {R : HR}  (hK : am_R M_X4_assignment (am_W d) none R (qC fb J R Q) K) (hs : Stat R)  (hF : Wp fi d M_X4_rowOf [.ref 2, .int (I 7 4)] I J R (fun r1 => ((¬ r1 = (-1) → K 33 [(0, .ref 2), (1, .int r1)] [.int (-1)] I J R) ∧ (r1 = (-1) → Wc fi d M_X4_variableOf [.ref 2, .int (I 7 4), .int (b2i true)] I J R (fun r3 I4 => K 33 [(0, .ref 2), (1, .int r1)] [.int r3] I4 J R))))) : K 0 [(0, .ref 2)] [] I J R := by
  refine k_ld hK 0 dX4_assignment_0 rfl rfl rfl rfl ?_
  refine k_ld hK 0 dX4_assignment_1 rfl rfl rfl rfl ?_
  refine k_gR hK dX4_assignment_2 lf_X4_29 rfl (sc_2 hs) (sf_2_0 hs) ?_
  refine k_gI hK dX4_assignment_5 lf_X4_84 rfl (sc_7 hs) rfl ?_
  refine k_cVp hK dX4_assignment_8 (Or.inl lm_X4_128) (As := [.int (I 7 4)]) (S := []) rfl (sc_2 hs) (Nat.le_of_ble_eq_true rfl) (fit_0 rfl rfl) rfl hF (fun r1 hF => ?_)
  show K _ _ [.int r1] _ _ _
  refine k_st hK dX4_assignment_11 rfl rfl rfl (Nat.le_of_ble_eq_true rfl) rfl ?_
  refine k_ld hK 0 dX4_assignment_12 rfl rfl rfl rfl ?_
  refine k_ic hK dX4_assignment_13 ci_m1 ?_
  refine k_cne hK dX4_assignment_14 (tgt := 32) rfl (fun h2 => ?_) (fun h2 => ?_)
  · have hF := hF.1 h2
    refine k_ic hK dX4_assignment_32 ci_m1 ?_
    exact k_sub hK [1, 0] rfl hF
  · have hF := hF.2 h2
    refine k_ld hK 1 dX4_assignment_17 rfl rfl rfl rfl ?_
    refine k_ld hK 1 dX4_assignment_18 rfl rfl rfl rfl ?_
    refine k_gR hK dX4_assignment_19 lf_X4_29 rfl (sc_2 hs) (sf_2_0 hs) ?_
    refine k_gI hK dX4_assignment_22 lf_X4_84 rfl (sc_7 hs) rfl ?_
    refine k_ic hK dX4_assignment_25 ci_1 ?_
    refine k_cVc hK dX4_assignment_26 (Or.inl lm_X4_124) (As := [.int (I 7 4), .int (b2i true)]) (S := []) rfl (sc_2 hs) (Nat.le_of_ble_eq_true rfl) (fit_0 rfl rfl) rfl hF (fun r3 I4 hF => ?_)
    show K _ _ [.int r3] _ _ _
    refine k_goto hK dX4_assignment_29 (tgt := 33) rfl ?_
    exact k_sub hK [1, 0] rfl hF
set_option maxHeartbeats 4000000 in
theorem g_X4_assignment_33 {d : Nat} {K : KT} {Q : Bool → HI → Prop} {I : HI} {J : HJ} {R : HR} {x1 : Int32} {u0 : Int32} (hK : am_R M_X4_assignment (am_W d) none R (qC fb J R Q) K) (hs : Stat R)  (hF : ((¬ x1 = (-1) → Wc fv d M_X6_advance [.ref 7] I J R (fun u2 I3 => ((x1 = (-1) → K 76 [(0, .ref 2), (1, .int x1), (2, .int u0)] [] I3 J R) ∧ (¬ x1 = (-1) → Wc fb d M_X4_bracket [.ref 2, .int 91, .int 93, .int 0] I3 J R (fun b5 I6 => ((b5 = true → K 76 [(0, .ref 2), (1, .int x1), (2, .int u0)] [] I6 J R) ∧ (b5 = false → Q false I6))))))) ∧ (x1 = (-1) → ((¬ u0 = (-1) → Wc fv d M_X6_advance [.ref 7] I J R (fun u9 I10 => ((x1 = (-1) → K 76 [(0, .ref 2), (1, .int x1), (2, .int u0)] [] I10 J R) ∧ (¬ x1 = (-1) → Wc fb d M_X4_bracket [.ref 2, .int 91, .int 93, .int 0] I10 J R (fun b12 I13 => ((b12 = true → K 76 [(0, .ref 2), (1, .int x1), (2, .int u0)] [] I13 J R) ∧ (b12 = false → Q false I13))))))) ∧ (u0 = (-1) → Wc fb d M_X4_fail [.ref 2, .int 2] I J R (fun b15 I16 => Q b15 I16)))))) : K 33 [(0, .ref 2), (1, .int x1)] [.int u0] I J R := by
  refine k_st hK dX4_assignment_33 rfl rfl rfl (Nat.le_of_ble_eq_true rfl) rfl ?_
  refine k_ld hK 2 dX4_assignment_34 rfl rfl rfl rfl ?_
  refine k_ic hK dX4_assignment_35 ci_m1 ?_
  refine k_cne hK dX4_assignment_36 (tgt := 50) rfl (fun h1 => ?_) (fun h1 => ?_)
  · have hF := hF.1 h1
    refine k_ld hK 1 dX4_assignment_50 rfl rfl rfl rfl ?_
    refine k_gR hK dX4_assignment_51 lf_X4_29 rfl (sc_2 hs) (sf_2_0 hs) ?_
    refine k_cVc hK dX4_assignment_54 (Or.inl lm_X4_75) (As := []) (S := []) rfl (sc_7 hs) (Nat.le_of_ble_eq_true rfl) (fit_0 rfl rfl) rfl hF (fun u2 I3 hF => ?_)
    show K _ _ [] _ _ _
    refine k_ld hK 2 dX4_assignment_57 rfl rfl rfl rfl ?_
    refine k_ic hK dX4_assignment_58 ci_m1 ?_
    refine k_ceq hK dX4_assignment_59 (tgt := 76) rfl (fun h4 => ?_) (fun h4 => ?_)
    · have hF := hF.1 h4
      exact k_sub hK [1, 2, 0] rfl hF
    · have hF := hF.2 h4
      refine k_ld hK 1 dX4_assignment_62 rfl rfl rfl rfl ?_
      refine k_bi hK dX4_assignment_63 cb_91 ?_
      refine k_bi hK dX4_assignment_65 cb_93 ?_
      refine k_ic hK dX4_assignment_67 ci_0 ?_
      refine k_cVc hK dX4_assignment_68 (Or.inl lm_X4_158) (As := [.int 91, .int 93, .int 0]) (S := []) rfl (sc_2 hs) (Nat.le_of_ble_eq_true rfl) (fit_0 rfl rfl) rfl hF (fun b5 I6 hF => ?_)
      show K _ _ [.int (b2i b5)] _ _ _
      refine k_bne hK dX4_assignment_71 (tgt := 76) rfl (fun h7 => ?_) (fun h7 => ?_)
      · have hF := hF.1 h7
        exact k_sub hK [1, 2, 0] rfl hF
      · have hF := hF.2 h7
        refine k_ic hK dX4_assignment_74 ci_0 ?_
        exact k_iret (x := b2i false) hK dX4_assignment_75 rfl (b2i_nar _) (done_0 rfl rfl) (qC_i hF)
  · have hF := hF.2 h1
    refine k_ld hK 0 dX4_assignment_39 rfl rfl rfl rfl ?_
    refine k_ic hK dX4_assignment_40 ci_m1 ?_
    refine k_cne hK dX4_assignment_41 (tgt := 50) rfl (fun h8 => ?_) (fun h8 => ?_)
    · have hF := hF.1 h8
      refine k_ld hK 1 dX4_assignment_50 rfl rfl rfl rfl ?_
      refine k_gR hK dX4_assignment_51 lf_X4_29 rfl (sc_2 hs) (sf_2_0 hs) ?_
      refine k_cVc hK dX4_assignment_54 (Or.inl lm_X4_75) (As := []) (S := []) rfl (sc_7 hs) (Nat.le_of_ble_eq_true rfl) (fit_0 rfl rfl) rfl hF (fun u9 I10 hF => ?_)
      show K _ _ [] _ _ _
      refine k_ld hK 2 dX4_assignment_57 rfl rfl rfl rfl ?_
      refine k_ic hK dX4_assignment_58 ci_m1 ?_
      refine k_ceq hK dX4_assignment_59 (tgt := 76) rfl (fun h11 => ?_) (fun h11 => ?_)
      · have hF := hF.1 h11
        exact k_sub hK [1, 2, 0] rfl hF
      · have hF := hF.2 h11
        refine k_ld hK 1 dX4_assignment_62 rfl rfl rfl rfl ?_
        refine k_bi hK dX4_assignment_63 cb_91 ?_
        refine k_bi hK dX4_assignment_65 cb_93 ?_
        refine k_ic hK dX4_assignment_67 ci_0 ?_
        refine k_cVc hK dX4_assignment_68 (Or.inl lm_X4_158) (As := [.int 91, .int 93, .int 0]) (S := []) rfl (sc_2 hs) (Nat.le_of_ble_eq_true rfl) (fit_0 rfl rfl) rfl hF (fun b12 I13 hF => ?_)
        show K _ _ [.int (b2i b12)] _ _ _
        refine k_bne hK dX4_assignment_71 (tgt := 76) rfl (fun h14 => ?_) (fun h14 => ?_)
        · have hF := hF.1 h14
          exact k_sub hK [1, 2, 0] rfl hF
        · have hF := hF.2 h14
          refine k_ic hK dX4_assignment_74 ci_0 ?_
          exact k_iret (x := b2i false) hK dX4_assignment_75 rfl (b2i_nar _) (done_0 rfl rfl) (qC_i hF)
    · have hF := hF.2 h8
      refine k_ld hK 1 dX4_assignment_44 rfl rfl rfl rfl ?_
      refine k_ic hK dX4_assignment_45 ci_2 ?_
      refine k_cVc hK dX4_assignment_46 (Or.inl lm_X4_71) (As := [.int 2]) (S := []) rfl (sc_2 hs) (Nat.le_of_ble_eq_true rfl) (fit_0 rfl rfl) rfl hF (fun b15 I16 hF => ?_)
      show K _ _ [.int (b2i b15)] _ _ _
      exact k_iret (x := b2i b15) hK dX4_assignment_49 rfl (b2i_nar _) (done_0 rfl rfl) (qC_i hF)
set_option maxHeartbeats 4000000 in
theorem g_X4_assignment_76 {d : Nat} {K : KT} {Q : Bool → HI → Prop} {I : HI} {J : HJ} {R : HR} {x1 : Int32} {x2 : Int32} (hK : am_R M_X4_assignment (am_W d) none R (qC fb J R Q) K) (hs : Stat R)  (hF : Wp fb d M_X6_isSign [.ref 7, .int 61] I J R (fun b1 => ((b1 = true → Wc fv d M_X6_advance [.ref 7] I J R (fun u3 I4 => Wc fb d M_X4_expression [.ref 2, .int 0] I4 J R (fun b5 I6 => ((b5 = true → (∃ p8 : Nat, (R 2 1) = some p8 ∧ isX5 p8 ∧ ((¬ x1 = (-1) → ((¬ x1 = (-1) → Wc fv d M_X5_emit [.ref p8, .int 8, .int x1, .int 0] I6 J R (fun u12 I13 => Q true I13)) ∧ (x1 = (-1) → Wc fv d M_X5_emit [.ref p8, .int 8, .int x2, .int 0] I6 J R (fun u14 I15 => Q true I15)))) ∧ (x1 = (-1) → ((¬ x1 = (-1) → Wc fv d M_X5_emit [.ref p8, .int 7, .int x1, .int 0] I6 J R (fun u17 I18 => Q true I18)) ∧ (x1 = (-1) → Wc fv d M_X5_emit [.ref p8, .int 7, .int x2, .int 0] I6 J R (fun u19 I20 => Q true I20))))))) ∧ (b5 = false → Q false I6))))) ∧ (b1 = false → Wc fb d M_X4_fail [.ref 2, .int 1] I J R (fun b21 I22 => Q b21 I22))))) : K 76 [(0, .ref 2), (1, .int x1), (2, .int x2)] [] I J R := by
  refine k_ld hK 0 dX4_assignment_76 rfl rfl rfl rfl ?_
  refine k_gR hK dX4_assignment_77 lf_X4_29 rfl (sc_2 hs) (sf_2_0 hs) ?_
  refine k_bi hK dX4_assignment_80 cb_61 ?_
  refine k_cVp hK dX4_assignment_82 (Or.inl lm_X4_67) (As := [.int 61]) (S := []) rfl (sc_7 hs) (Nat.le_of_ble_eq_true rfl) (fit_0 rfl rfl) rfl hF (fun b1 hF => ?_)
  show K _ _ [.int (b2i b1)] _ _ _
  refine k_bne hK dX4_assignment_85 (tgt := 94) rfl (fun h2 => ?_) (fun h2 => ?_)
  · have hF := hF.1 h2
    refine k_ld hK 0 dX4_assignment_94 rfl rfl rfl rfl ?_
    refine k_gR hK dX4_assignment_95 lf_X4_29 rfl (sc_2 hs) (sf_2_0 hs) ?_
    refine k_cVc hK dX4_assignment_98 (Or.inl lm_X4_75) (As := []) (S := []) rfl (sc_7 hs) (Nat.le_of_ble_eq_true rfl) (fit_0 rfl rfl) rfl hF (fun u3 I4 hF => ?_)
    show K _ _ [] _ _ _
    refine k_ld hK 0 dX4_assignment_101 rfl rfl rfl rfl ?_
    refine k_ic hK dX4_assignment_102 ci_0 ?_
    refine k_cVc hK dX4_assignment_103 (Or.inl lm_X4_162) (As := [.int 0]) (S := []) rfl (sc_2 hs) (Nat.le_of_ble_eq_true rfl) (fit_0 rfl rfl) rfl hF (fun b5 I6 hF => ?_)
    show K _ _ [.int (b2i b5)] _ _ _
    refine k_bne hK dX4_assignment_106 (tgt := 111) rfl (fun h7 => ?_) (fun h7 => ?_)
    · have hF := hF.1 h7
      refine k_ld hK 0 dX4_assignment_111 rfl rfl rfl rfl ?_
      obtain ⟨p8, e9, h_p8, hF⟩ := hF
      refine k_gR hK dX4_assignment_112 lf_X4_33 rfl (sc_2 hs) e9 ?_
      refine k_ld hK 1 dX4_assignment_115 rfl rfl rfl rfl ?_
      refine k_ic hK dX4_assignment_116 ci_m1 ?_
      refine k_cne hK dX4_assignment_117 (tgt := 125) rfl (fun h10 => ?_) (fun h10 => ?_)
      · have hF := hF.1 h10
        refine k_bi hK dX4_assignment_125 cb_8 ?_
        refine k_ld hK 1 dX4_assignment_127 rfl rfl rfl rfl ?_
        refine k_ic hK dX4_assignment_128 ci_m1 ?_
        refine k_cne hK dX4_assignment_129 (tgt := 136) rfl (fun h11 => ?_) (fun h11 => ?_)
        · have hF := hF.1 h11
          refine k_ld hK 1 dX4_assignment_136 rfl rfl rfl rfl ?_
          refine k_ic hK dX4_assignment_137 ci_0 ?_
          refine k_cVc hK dX4_assignment_138 (Or.inl lm_X4_165) (As := [.int 8, .int x1, .int 0]) (S := []) rfl (sk_X5_0 hs h_p8) (Nat.le_of_ble_eq_true rfl) (fit_0 rfl rfl) rfl hF (fun u12 I13 hF => ?_)
          show K _ _ [] _ _ _
          refine k_ic hK dX4_assignment_141 ci_1 ?_
          exact k_iret (x := b2i true) hK dX4_assignment_142 rfl (b2i_nar _) (done_0 rfl rfl) (qC_i hF)
        · have hF := hF.2 h11
          refine k_ld hK 2 dX4_assignment_132 rfl rfl rfl rfl ?_
          refine k_goto hK dX4_assignment_133 (tgt := 137) rfl ?_
          refine k_ic hK dX4_assignment_137 ci_0 ?_
          refine k_cVc hK dX4_assignment_138 (Or.inl lm_X4_165) (As := [.int 8, .int x2, .int 0]) (S := []) rfl (sk_X5_0 hs h_p8) (Nat.le_of_ble_eq_true rfl) (fit_0 rfl rfl) rfl hF (fun u14 I15 hF => ?_)
          show K _ _ [] _ _ _
          refine k_ic hK dX4_assignment_141 ci_1 ?_
          exact k_iret (x := b2i true) hK dX4_assignment_142 rfl (b2i_nar _) (done_0 rfl rfl) (qC_i hF)
      · have hF := hF.2 h10
        refine k_bi hK dX4_assignment_120 cb_7 ?_
        refine k_goto hK dX4_assignment_122 (tgt := 127) rfl ?_
        refine k_ld hK 1 dX4_assignment_127 rfl rfl rfl rfl ?_
        refine k_ic hK dX4_assignment_128 ci_m1 ?_
        refine k_cne hK dX4_assignment_129 (tgt := 136) rfl (fun h16 => ?_) (fun h16 => ?_)
        · have hF := hF.1 h16
          refine k_ld hK 1 dX4_assignment_136 rfl rfl rfl rfl ?_
          refine k_ic hK dX4_assignment_137 ci_0 ?_
          refine k_cVc hK dX4_assignment_138 (Or.inl lm_X4_165) (As := [.int 7, .int x1, .int 0]) (S := []) rfl (sk_X5_0 hs h_p8) (Nat.le_of_ble_eq_true rfl) (fit_0 rfl rfl) rfl hF (fun u17 I18 hF => ?_)
          show K _ _ [] _ _ _
          refine k_ic hK dX4_assignment_141 ci_1 ?_
          exact k_iret (x := b2i true) hK dX4_assignment_142 rfl (b2i_nar _) (done_0 rfl rfl) (qC_i hF)
        · have hF := hF.2 h16
          refine k_ld hK 2 dX4_assignment_132 rfl rfl rfl rfl ?_
          refine k_goto hK dX4_assignment_133 (tgt := 137) rfl ?_
          refine k_ic hK dX4_assignment_137 ci_0 ?_
          refine k_cVc hK dX4_assignment_138 (Or.inl lm_X4_165) (As := [.int 7, .int x2, .int 0]) (S := []) rfl (sk_X5_0 hs h_p8) (Nat.le_of_ble_eq_true rfl) (fit_0 rfl rfl) rfl hF (fun u19 I20 hF => ?_)
          show K _ _ [] _ _ _
          refine k_ic hK dX4_assignment_141 ci_1 ?_
          exact k_iret (x := b2i true) hK dX4_assignment_142 rfl (b2i_nar _) (done_0 rfl rfl) (qC_i hF)
    · have hF := hF.2 h7
      refine k_ic hK dX4_assignment_109 ci_0 ?_
      exact k_iret (x := b2i false) hK dX4_assignment_110 rfl (b2i_nar _) (done_0 rfl rfl) (qC_i hF)
  · have hF := hF.2 h2
    refine k_ld hK 0 dX4_assignment_88 rfl rfl rfl rfl ?_
    refine k_ic hK dX4_assignment_89 ci_1 ?_
    refine k_cVc hK dX4_assignment_90 (Or.inl lm_X4_71) (As := [.int 1]) (S := []) rfl (sc_2 hs) (Nat.le_of_ble_eq_true rfl) (fit_0 rfl rfl) rfl hF (fun b21 I22 hF => ?_)
    show K _ _ [.int (b2i b21)] _ _ _
    exact k_iret (x := b2i b21) hK dX4_assignment_93 rfl (b2i_nar _) (done_0 rfl rfl) (qC_i hF)
set_option maxHeartbeats 4000000 in
theorem g_X4_loopLine_0 {d : Nat} {K : KT} {Q : Bool → HI → Prop} {I : HI} {J : HJ} {R : HR}  (hK : am_R M_X4_loopLine (am_W d) none R (qC fb J R Q) K) (hs : Stat R)  (hF : (((I 2 6) < 4 → Wc fv d M_X6_advance [.ref 7] I J R (fun u2 I3 => Wp fb d M_X6_isName [.ref 7] I3 J R (fun b4 => ((b4 = false → Wc fb d M_X4_fail [.ref 2, .int 1] I3 J R (fun b6 I7 => Q b6 I7)) ∧ (b4 = true → Wp fi d M_X4_rowOf [.ref 2, .int (I3 7 4)] I3 J R (fun r8 => ((r8 = (-1) → Wc fi d M_X4_variableOf [.ref 2, .int (I3 7 4), .int (b2i true)] I3 J R (fun r10 I11 => ((¬ r10 = (-1) → Wc fv d M_X6_advance [.ref 7] I11 J R (fun u13 I14 => Wc fb d M_X4_numberWithin [.ref 2, .int 1, .int 20] I14 J R (fun b15 I16 => ((b15 = true → Wc fv d M_X4_openBlock [.ref 2, .int 0] I16 J R (fun u18 I19 => (∃ p20 : Nat, (R 2 1) = some p20 ∧ isX5 p20 ∧ Wc fv d M_X5_emit [.ref p20, .int 10, .int r10, .int (I19 7 4)] I19 J R (fun u22 I23 => Wc fv d M_X6_advance [.ref 7] I23 J R (fun u24 I25 => Q true I25))))) ∧ (b15 = false → Q false I16))))) ∧ (r10 = (-1) → Wc fb d M_X4_fail [.ref 2, .int 2] I11 J R (fun b26 I27 => Q b26 I27))))) ∧ (¬ r8 = (-1) → Wc fb d M_X4_fail [.ref 2, .int 1] I3 J R (fun b28 I29 => Q b28 I29))))))))) ∧ (¬ (I 2 6) < 4 → Wc fb d M_X4_fail [.ref 2, .int 2] I J R (fun b30 I31 => Q b30 I31)))) : K 0 [(0, .ref 2)] [] I J R := by
  refine k_ld hK 0 dX4_loopLine_0 rfl rfl rfl rfl ?_
  refine k_gI hK dX4_loopLine_1 lf_X4_42 rfl (sc_2 hs) rfl ?_
  refine k_ic hK dX4_loopLine_4 ci_4 ?_
  refine k_clt hK dX4_loopLine_5 (tgt := 14) rfl (fun h1 => ?_) (fun h1 => ?_)
  · have hF := hF.1 h1
    refine k_ld hK 0 dX4_loopLine_14 rfl rfl rfl rfl ?_
    refine k_gR hK dX4_loopLine_15 lf_X4_29 rfl (sc_2 hs) (sf_2_0 hs) ?_
    refine k_cVc hK dX4_loopLine_18 (Or.inl lm_X4_75) (As := []) (S := []) rfl (sc_7 hs) (Nat.le_of_ble_eq_true rfl) (fit_0 rfl rfl) rfl hF (fun u2 I3 hF => ?_)
    show K _ _ [] _ _ _
    refine k_ld hK 0 dX4_loopLine_21 rfl rfl rfl rfl ?_
    refine k_gR hK dX4_loopLine_22 lf_X4_29 rfl (sc_2 hs) (sf_2_0 hs) ?_
    refine k_cVp hK dX4_loopLine_25 (Or.inl lm_X4_112) (As := []) (S := []) rfl (sc_7 hs) (Nat.le_of_ble_eq_true rfl) (fit_0 rfl rfl) rfl hF (fun b4 hF => ?_)
    show K _ _ [.int (b2i b4)] _ _ _
    refine k_beq hK dX4_loopLine_28 (tgt := 46) rfl (fun h5 => ?_) (fun h5 => ?_)
    · have hF := hF.1 h5
      refine k_ld hK 0 dX4_loopLine_46 rfl rfl rfl rfl ?_
      refine k_ic hK dX4_loopLine_47 ci_1 ?_
      refine k_cVc hK dX4_loopLine_48 (Or.inl lm_X4_71) (As := [.int 1]) (S := []) rfl (sc_2 hs) (Nat.le_of_ble_eq_true rfl) (fit_0 rfl rfl) rfl hF (fun b6 I7 hF => ?_)
      show K _ _ [.int (b2i b6)] _ _ _
      exact k_iret (x := b2i b6) hK dX4_loopLine_51 rfl (b2i_nar _) (done_0 rfl rfl) (qC_i hF)
    · have hF := hF.2 h5
      refine k_ld hK 0 dX4_loopLine_31 rfl rfl rfl rfl ?_
      refine k_ld hK 0 dX4_loopLine_32 rfl rfl rfl rfl ?_
      refine k_gR hK dX4_loopLine_33 lf_X4_29 rfl (sc_2 hs) (sf_2_0 hs) ?_
      refine k_gI hK dX4_loopLine_36 lf_X4_84 rfl (sc_7 hs) rfl ?_
      refine k_cVp hK dX4_loopLine_39 (Or.inl lm_X4_128) (As := [.int (I3 7 4)]) (S := []) rfl (sc_2 hs) (Nat.le_of_ble_eq_true rfl) (fit_0 rfl rfl) rfl hF (fun r8 hF => ?_)
      show K _ _ [.int r8] _ _ _
      refine k_ic hK dX4_loopLine_42 ci_m1 ?_
      refine k_ceq hK dX4_loopLine_43 (tgt := 52) rfl (fun h9 => ?_) (fun h9 => ?_)
      · have hF := hF.1 h9
        refine k_ld hK 0 dX4_loopLine_52 rfl rfl rfl rfl ?_
        refine k_ld hK 0 dX4_loopLine_53 rfl rfl rfl rfl ?_
        refine k_gR hK dX4_loopLine_54 lf_X4_29 rfl (sc_2 hs) (sf_2_0 hs) ?_
        refine k_gI hK dX4_loopLine_57 lf_X4_84 rfl (sc_7 hs) rfl ?_
        refine k_ic hK dX4_loopLine_60 ci_1 ?_
        refine k_cVc hK dX4_loopLine_61 (Or.inl lm_X4_124) (As := [.int (I3 7 4), .int (b2i true)]) (S := []) rfl (sc_2 hs) (Nat.le_of_ble_eq_true rfl) (fit_0 rfl rfl) rfl hF (fun r10 I11 hF => ?_)
        show K _ _ [.int r10] _ _ _
        refine k_st hK dX4_loopLine_64 rfl rfl rfl (Nat.le_of_ble_eq_true rfl) rfl ?_
        refine k_ld hK 0 dX4_loopLine_65 rfl rfl rfl rfl ?_
        refine k_ic hK dX4_loopLine_66 ci_m1 ?_
        refine k_cne hK dX4_loopLine_67 (tgt := 76) rfl (fun h12 => ?_) (fun h12 => ?_)
        · have hF := hF.1 h12
          refine k_ld hK 1 dX4_loopLine_76 rfl rfl rfl rfl ?_
          refine k_gR hK dX4_loopLine_77 lf_X4_29 rfl (sc_2 hs) (sf_2_0 hs) ?_
          refine k_cVc hK dX4_loopLine_80 (Or.inl lm_X4_75) (As := []) (S := []) rfl (sc_7 hs) (Nat.le_of_ble_eq_true rfl) (fit_0 rfl rfl) rfl hF (fun u13 I14 hF => ?_)
          show K _ _ [] _ _ _
          refine k_ld hK 1 dX4_loopLine_83 rfl rfl rfl rfl ?_
          refine k_ic hK dX4_loopLine_84 ci_1 ?_
          refine k_bi hK dX4_loopLine_85 cb_20 ?_
          refine k_cVc hK dX4_loopLine_87 (Or.inl lm_X4_138) (As := [.int 1, .int 20]) (S := []) rfl (sc_2 hs) (Nat.le_of_ble_eq_true rfl) (fit_0 rfl rfl) rfl hF (fun b15 I16 hF => ?_)
          show K _ _ [.int (b2i b15)] _ _ _
          refine k_bne hK dX4_loopLine_90 (tgt := 95) rfl (fun h17 => ?_) (fun h17 => ?_)
          · have hF := hF.1 h17
            refine k_ld hK 1 dX4_loopLine_95 rfl rfl rfl rfl ?_
            refine k_ic hK dX4_loopLine_96 ci_0 ?_
            refine k_cVc hK dX4_loopLine_97 (Or.inl lm_X4_168) (As := [.int 0]) (S := []) rfl (sc_2 hs) (Nat.le_of_ble_eq_true rfl) (fit_0 rfl rfl) rfl hF (fun u18 I19 hF => ?_)
            show K _ _ [] _ _ _
            refine k_ld hK 1 dX4_loopLine_100 rfl rfl rfl rfl ?_
            obtain ⟨p20, e21, h_p20, hF⟩ := hF
            refine k_gR hK dX4_loopLine_101 lf_X4_33 rfl (sc_2 hs) e21 ?_
            refine k_bi hK dX4_loopLine_104 cb_10 ?_
            refine k_ld hK 0 dX4_loopLine_106 rfl rfl rfl rfl ?_
            refine k_ld hK 1 dX4_loopLine_107 rfl rfl rfl rfl ?_
            refine k_gR hK dX4_loopLine_108 lf_X4_29 rfl (sc_2 hs) (sf_2_0 hs) ?_
            refine k_gI hK dX4_loopLine_111 lf_X4_84 rfl (sc_7 hs) rfl ?_
            refine k_cVc hK dX4_loopLine_114 (Or.inl lm_X4_165) (As := [.int 10, .int r10, .int (I19 7 4)]) (S := []) rfl (sk_X5_0 hs h_p20) (Nat.le_of_ble_eq_true rfl) (fit_0 rfl rfl) rfl hF (fun u22 I23 hF => ?_)
            show K _ _ [] _ _ _
            refine k_ld hK 1 dX4_loopLine_117 rfl rfl rfl rfl ?_
            refine k_gR hK dX4_loopLine_118 lf_X4_29 rfl (sc_2 hs) (sf_2_0 hs) ?_
            refine k_cVc hK dX4_loopLine_121 (Or.inl lm_X4_75) (As := []) (S := []) rfl (sc_7 hs) (Nat.le_of_ble_eq_true rfl) (fit_0 rfl rfl) rfl hF (fun u24 I25 hF => ?_)
            show K _ _ [] _ _ _
            refine k_ic hK dX4_loopLine_124 ci_1 ?_
            exact k_iret (x := b2i true) hK dX4_loopLine_125 rfl (b2i_nar _) (done_0 rfl rfl) (qC_i hF)
          · have hF := hF.2 h17
            refine k_ic hK dX4_loopLine_93 ci_0 ?_
            exact k_iret (x := b2i false) hK dX4_loopLine_94 rfl (b2i_nar _) (done_0 rfl rfl) (qC_i hF)
        · have hF := hF.2 h12
          refine k_ld hK 1 dX4_loopLine_70 rfl rfl rfl rfl ?_
          refine k_ic hK dX4_loopLine_71 ci_2 ?_
          refine k_cVc hK dX4_loopLine_72 (Or.inl lm_X4_71) (As := [.int 2]) (S := []) rfl (sc_2 hs) (Nat.le_of_ble_eq_true rfl) (fit_0 rfl rfl) rfl hF (fun b26 I27 hF => ?_)
          show K _ _ [.int (b2i b26)] _ _ _
          exact k_iret (x := b2i b26) hK dX4_loopLine_75 rfl (b2i_nar _) (done_0 rfl rfl) (qC_i hF)
      · have hF := hF.2 h9
        refine k_ld hK 0 dX4_loopLine_46 rfl rfl rfl rfl ?_
        refine k_ic hK dX4_loopLine_47 ci_1 ?_
        refine k_cVc hK dX4_loopLine_48 (Or.inl lm_X4_71) (As := [.int 1]) (S := []) rfl (sc_2 hs) (Nat.le_of_ble_eq_true rfl) (fit_0 rfl rfl) rfl hF (fun b28 I29 hF => ?_)
        show K _ _ [.int (b2i b28)] _ _ _
        exact k_iret (x := b2i b28) hK dX4_loopLine_51 rfl (b2i_nar _) (done_0 rfl rfl) (qC_i hF)
  · have hF := hF.2 h1
    refine k_ld hK 0 dX4_loopLine_8 rfl rfl rfl rfl ?_
    refine k_ic hK dX4_loopLine_9 ci_2 ?_
    refine k_cVc hK dX4_loopLine_10 (Or.inl lm_X4_71) (As := [.int 2]) (S := []) rfl (sc_2 hs) (Nat.le_of_ble_eq_true rfl) (fit_0 rfl rfl) rfl hF (fun b30 I31 hF => ?_)
    show K _ _ [.int (b2i b30)] _ _ _
    exact k_iret (x := b2i b30) hK dX4_loopLine_13 rfl (b2i_nar _) (done_0 rfl rfl) (qC_i hF)
theorem e_X4_loopLine {d : Nat} {Q : Bool → HI → Prop} {I : HI} {J : HJ} {R : HR}  (hs : Stat R)  (hF : (((I 2 6) < 4 → Wc fv d M_X6_advance [.ref 7] I J R (fun u2 I3 => Wp fb d M_X6_isName [.ref 7] I3 J R (fun b4 => ((b4 = false → Wc fb d M_X4_fail [.ref 2, .int 1] I3 J R (fun b6 I7 => Q b6 I7)) ∧ (b4 = true → Wp fi d M_X4_rowOf [.ref 2, .int (I3 7 4)] I3 J R (fun r8 => ((r8 = (-1) → Wc fi d M_X4_variableOf [.ref 2, .int (I3 7 4), .int (b2i true)] I3 J R (fun r10 I11 => ((¬ r10 = (-1) → Wc fv d M_X6_advance [.ref 7] I11 J R (fun u13 I14 => Wc fb d M_X4_numberWithin [.ref 2, .int 1, .int 20] I14 J R (fun b15 I16 => ((b15 = true → Wc fv d M_X4_openBlock [.ref 2, .int 0] I16 J R (fun u18 I19 => (∃ p20 : Nat, (R 2 1) = some p20 ∧ isX5 p20 ∧ Wc fv d M_X5_emit [.ref p20, .int 10, .int r10, .int (I19 7 4)] I19 J R (fun u22 I23 => Wc fv d M_X6_advance [.ref 7] I23 J R (fun u24 I25 => Q true I25))))) ∧ (b15 = false → Q false I16))))) ∧ (r10 = (-1) → Wc fb d M_X4_fail [.ref 2, .int 2] I11 J R (fun b26 I27 => Q b26 I27))))) ∧ (¬ r8 = (-1) → Wc fb d M_X4_fail [.ref 2, .int 1] I3 J R (fun b28 I29 => Q b28 I29))))))))) ∧ (¬ (I 2 6) < 4 → Wc fb d M_X4_fail [.ref 2, .int 2] I J R (fun b30 I31 => Q b30 I31)))) : Wc fb (d + 1) M_X4_loopLine [.ref 2] I J R Q := ⟨Nat.le_of_ble_eq_true rfl, fun K hK => g_X4_loopLine_0 hK hs hF⟩
set_option maxHeartbeats 4000000 in
theorem g_X4_openBlock_0 {d : Nat} {K : KT} {Q : Unit → HI → Prop} {I : HI} {J : HJ} {R : HR} {x1 : Int32} (hK : am_R M_X4_openBlock (am_W d) none R (qC fv J R Q) K) (hs : Stat R)  (hF : (((I 2 6) < 0 → Q () I) ∧ (¬ (I 2 6) < 0 → ((4 ≤ (I 2 6) → Q () I) ∧ (¬ 4 ≤ (I 2 6) → (∃ n3 : Nat, (I 2 6) = nI n3 ∧ n3 < 4 ∧ (∃ p6 : Nat, (R 2 1) = some p6 ∧ isX5 p6 ∧ Q () (up (up (up I 5 n3 x1) 6 n3 ((up I 5 n3 x1) p6 1)) 2 6 ((I 2 6) + 1))))))))) : K 0 [(0, .ref 2), (1, .int x1)] [] I J R := by
  refine k_ld hK 0 dX4_openBlock_0 rfl rfl rfl rfl ?_
  refine k_gI hK dX4_openBlock_1 lf_X4_42 rfl (sc_2 hs) rfl ?_
  refine k_lt hK dX4_openBlock_4 (tgt := 51) rfl (fun h1 => ?_) (fun h1 => ?_)
  · have hF := hF.1 h1
    exact k_vret hK dX4_openBlock_51 rfl (done_0 rfl rfl) (qC_i hF)
  · have hF := hF.2 h1
    refine k_ld hK 0 dX4_openBlock_7 rfl rfl rfl rfl ?_
    refine k_gI hK dX4_openBlock_8 lf_X4_42 rfl (sc_2 hs) rfl ?_
    refine k_ic hK dX4_openBlock_11 ci_4 ?_
    refine k_cge hK dX4_openBlock_12 (tgt := 51) rfl (fun h2 => ?_) (fun h2 => ?_)
    · have hF := hF.1 h2
      exact k_vret hK dX4_openBlock_51 rfl (done_0 rfl rfl) (qC_i hF)
    · have hF := hF.2 h2
      refine k_ld hK 0 dX4_openBlock_15 rfl rfl rfl rfl ?_
      refine k_gR hK dX4_openBlock_16 lf_X4_18 rfl (sc_2 hs) (sf_2_4 hs) ?_
      refine k_ld hK 0 dX4_openBlock_19 rfl rfl rfl rfl ?_
      refine k_gI hK dX4_openBlock_20 lf_X4_42 rfl (sc_2 hs) rfl ?_
      refine k_ld hK 1 dX4_openBlock_23 rfl rfl rfl rfl ?_
      obtain ⟨n3, i4, j5, hF⟩ := hF
      refine k_iast hK dX4_openBlock_24 (sc_5 hs) sn_5 (by decide) i4 j5 ?_
      refine k_ld hK 0 dX4_openBlock_25 rfl rfl rfl rfl ?_
      refine k_gR hK dX4_openBlock_26 lf_X4_21 rfl (sc_2 hs) (sf_2_5 hs) ?_
      refine k_ld hK 0 dX4_openBlock_29 rfl rfl rfl rfl ?_
      refine k_gI hK dX4_openBlock_30 lf_X4_42 rfl (sc_2 hs) ((up_na (by decide)).trans rfl) ?_
      refine k_ld hK 0 dX4_openBlock_33 rfl rfl rfl rfl ?_
      obtain ⟨p6, e7, h_p6, hF⟩ := hF
      refine k_gR hK dX4_openBlock_34 lf_X4_33 rfl (sc_2 hs) e7 ?_
      refine k_gI hK dX4_openBlock_37 lf_X4_171 rfl (sk_X5_0 hs h_p6) rfl ?_
      refine k_iast hK dX4_openBlock_40 (sc_6 hs) sn_6 (by decide) i4 j5 ?_
      refine k_ld hK 0 dX4_openBlock_41 rfl rfl rfl rfl ?_
      refine k_op hK dX4_openBlock_42 rfl rfl ?_
      refine k_gI hK dX4_openBlock_43 lf_X4_42 rfl (sc_2 hs) ((up_na (by decide)).trans ((up_na (by decide)).trans rfl)) ?_
      refine k_ic hK dX4_openBlock_46 ci_1 ?_
      refine k_op hK dX4_openBlock_47 rfl rfl ?_
      refine k_pI hK dX4_openBlock_48 lf_X4_42 rfl rfl rfl (sc_2 hs) ?_
      exact k_vret hK dX4_openBlock_51 rfl (done_0 rfl rfl) (qC_i hF)
theorem e_X4_openBlock {d : Nat} {Q : Unit → HI → Prop} {I : HI} {J : HJ} {R : HR} {x1 : Int32} (hs : Stat R)  (hF : (((I 2 6) < 0 → Q () I) ∧ (¬ (I 2 6) < 0 → ((4 ≤ (I 2 6) → Q () I) ∧ (¬ 4 ≤ (I 2 6) → (∃ n3 : Nat, (I 2 6) = nI n3 ∧ n3 < 4 ∧ (∃ p6 : Nat, (R 2 1) = some p6 ∧ isX5 p6 ∧ Q () (up (up (up I 5 n3 x1) 6 n3 ((up I 5 n3 x1) p6 1)) 2 6 ((I 2 6) + 1))))))))) : Wc fv (d + 1) M_X4_openBlock [.ref 2, .int x1] I J R Q := ⟨Nat.le_of_ble_eq_true rfl, fun K hK => g_X4_openBlock_0 hK hs hF⟩
set_option maxHeartbeats 4000000 in
theorem g_X4_ifLine_0 {d : Nat} {K : KT} {Q : Bool → HI → Prop} {I : HI} {J : HJ} {R : HR}  (hK : am_R M_X4_ifLine (am_W d) none R (qC fb J R Q) K) (hs : Stat R)  (hF : (((I 2 6) < 4 → Wc fv d M_X6_advance [.ref 7] I J R (fun u2 I3 => Wc fb d M_X4_expression [.ref 2, .int 0] I3 J R (fun b4 I5 => ((b4 = true → Wp fb d M_X6_isSign [.ref 7, .int 60] I5 J R (fun b7 => ((b7 = false → K 50 [(0, .ref 2)] [.int 13] I5 J R) ∧ (b7 = true → K 50 [(0, .ref 2)] [.int 12] I5 J R)))) ∧ (b4 = false → Q false I5))))) ∧ (¬ (I 2 6) < 4 → Wc fb d M_X4_fail [.ref 2, .int 2] I J R (fun b9 I10 => Q b9 I10)))) : K 0 [(0, .ref 2)] [] I J R := by
  refine k_ld hK 0 dX4_ifLine_0 rfl rfl rfl rfl ?_
  refine k_gI hK dX4_ifLine_1 lf_X4_42 rfl (sc_2 hs) rfl ?_
  refine k_ic hK dX4_ifLine_4 ci_4 ?_
  refine k_clt hK dX4_ifLine_5 (tgt := 14) rfl (fun h1 => ?_) (fun h1 => ?_)
  · have hF := hF.1 h1
    refine k_ld hK 0 dX4_ifLine_14 rfl rfl rfl rfl ?_
    refine k_gR hK dX4_ifLine_15 lf_X4_29 rfl (sc_2 hs) (sf_2_0 hs) ?_
    refine k_cVc hK dX4_ifLine_18 (Or.inl lm_X4_75) (As := []) (S := []) rfl (sc_7 hs) (Nat.le_of_ble_eq_true rfl) (fit_0 rfl rfl) rfl hF (fun u2 I3 hF => ?_)
    show K _ _ [] _ _ _
    refine k_ld hK 0 dX4_ifLine_21 rfl rfl rfl rfl ?_
    refine k_ic hK dX4_ifLine_22 ci_0 ?_
    refine k_cVc hK dX4_ifLine_23 (Or.inl lm_X4_162) (As := [.int 0]) (S := []) rfl (sc_2 hs) (Nat.le_of_ble_eq_true rfl) (fit_0 rfl rfl) rfl hF (fun b4 I5 hF => ?_)
    show K _ _ [.int (b2i b4)] _ _ _
    refine k_bne hK dX4_ifLine_26 (tgt := 31) rfl (fun h6 => ?_) (fun h6 => ?_)
    · have hF := hF.1 h6
      refine k_ld hK 0 dX4_ifLine_31 rfl rfl rfl rfl ?_
      refine k_gR hK dX4_ifLine_32 lf_X4_29 rfl (sc_2 hs) (sf_2_0 hs) ?_
      refine k_bi hK dX4_ifLine_35 cb_60 ?_
      refine k_cVp hK dX4_ifLine_37 (Or.inl lm_X4_67) (As := [.int 60]) (S := []) rfl (sc_7 hs) (Nat.le_of_ble_eq_true rfl) (fit_0 rfl rfl) rfl hF (fun b7 hF => ?_)
      show K _ _ [.int (b2i b7)] _ _ _
      refine k_beq hK dX4_ifLine_40 (tgt := 48) rfl (fun h8 => ?_) (fun h8 => ?_)
      · have hF := hF.1 h8
        refine k_bi hK dX4_ifLine_48 cb_13 ?_
        exact k_sub hK [0] rfl hF
      · have hF := hF.2 h8
        refine k_bi hK dX4_ifLine_43 cb_12 ?_
        refine k_goto hK dX4_ifLine_45 (tgt := 50) rfl ?_
        exact k_sub hK [0] rfl hF
    · have hF := hF.2 h6
      refine k_ic hK dX4_ifLine_29 ci_0 ?_
      exact k_iret (x := b2i false) hK dX4_ifLine_30 rfl (b2i_nar _) (done_0 rfl rfl) (qC_i hF)
  · have hF := hF.2 h1
    refine k_ld hK 0 dX4_ifLine_8 rfl rfl rfl rfl ?_
    refine k_ic hK dX4_ifLine_9 ci_2 ?_
    refine k_cVc hK dX4_ifLine_10 (Or.inl lm_X4_71) (As := [.int 2]) (S := []) rfl (sc_2 hs) (Nat.le_of_ble_eq_true rfl) (fit_0 rfl rfl) rfl hF (fun b9 I10 hF => ?_)
    show K _ _ [.int (b2i b9)] _ _ _
    exact k_iret (x := b2i b9) hK dX4_ifLine_13 rfl (b2i_nar _) (done_0 rfl rfl) (qC_i hF)
set_option maxHeartbeats 4000000 in
theorem g_X4_ifLine_50 {d : Nat} {K : KT} {Q : Bool → HI → Prop} {I : HI} {J : HJ} {R : HR} {u0 : Int32} (hK : am_R M_X4_ifLine (am_W d) none R (qC fb J R Q) K) (hs : Stat R)  (hF : ((¬ u0 = 13 → Wc fv d M_X6_advance [.ref 7] I J R (fun u2 I3 => Wc fb d M_X4_expression [.ref 2, .int 0] I3 J R (fun b4 I5 => ((b4 = true → Wc fv d M_X4_openBlock [.ref 2, .int 1] I5 J R (fun u7 I8 => (∃ p9 : Nat, (R 2 1) = some p9 ∧ isX5 p9 ∧ Wc fv d M_X5_emit [.ref p9, .int u0, .int 0, .int 0] I8 J R (fun u11 I12 => Q true I12)))) ∧ (b4 = false → Q false I5))))) ∧ (u0 = 13 → Wp fb d M_X6_isSign [.ref 7, .int 61] I J R (fun b13 => ((b13 = true → Wc fv d M_X6_advance [.ref 7] I J R (fun u15 I16 => Wc fb d M_X4_expression [.ref 2, .int 0] I16 J R (fun b17 I18 => ((b17 = true → Wc fv d M_X4_openBlock [.ref 2, .int 1] I18 J R (fun u20 I21 => (∃ p22 : Nat, (R 2 1) = some p22 ∧ isX5 p22 ∧ Wc fv d M_X5_emit [.ref p22, .int u0, .int 0, .int 0] I21 J R (fun u24 I25 => Q true I25)))) ∧ (b17 = false → Q false I18))))) ∧ (b13 = false → Wc fb d M_X4_fail [.ref 2, .int 1] I J R (fun b26 I27 => Q b26 I27))))))) : K 50 [(0, .ref 2)] [.int u0] I J R := by
  refine k_st hK dX4_ifLine_50 rfl rfl rfl (Nat.le_of_ble_eq_true rfl) rfl ?_
  refine k_ld hK 0 dX4_ifLine_51 rfl rfl rfl rfl ?_
  refine k_bi hK dX4_ifLine_52 cb_13 ?_
  refine k_cne hK dX4_ifLine_54 (tgt := 75) rfl (fun h1 => ?_) (fun h1 => ?_)
  · have hF := hF.1 h1
    refine k_ld hK 1 dX4_ifLine_75 rfl rfl rfl rfl ?_
    refine k_gR hK dX4_ifLine_76 lf_X4_29 rfl (sc_2 hs) (sf_2_0 hs) ?_
    refine k_cVc hK dX4_ifLine_79 (Or.inl lm_X4_75) (As := []) (S := []) rfl (sc_7 hs) (Nat.le_of_ble_eq_true rfl) (fit_0 rfl rfl) rfl hF (fun u2 I3 hF => ?_)
    show K _ _ [] _ _ _
    refine k_ld hK 1 dX4_ifLine_82 rfl rfl rfl rfl ?_
    refine k_ic hK dX4_ifLine_83 ci_0 ?_
    refine k_cVc hK dX4_ifLine_84 (Or.inl lm_X4_162) (As := [.int 0]) (S := []) rfl (sc_2 hs) (Nat.le_of_ble_eq_true rfl) (fit_0 rfl rfl) rfl hF (fun b4 I5 hF => ?_)
    show K _ _ [.int (b2i b4)] _ _ _
    refine k_bne hK dX4_ifLine_87 (tgt := 92) rfl (fun h6 => ?_) (fun h6 => ?_)
    · have hF := hF.1 h6
      refine k_ld hK 1 dX4_ifLine_92 rfl rfl rfl rfl ?_
      refine k_ic hK dX4_ifLine_93 ci_1 ?_
      refine k_cVc hK dX4_ifLine_94 (Or.inl lm_X4_168) (As := [.int 1]) (S := []) rfl (sc_2 hs) (Nat.le_of_ble_eq_true rfl) (fit_0 rfl rfl) rfl hF (fun u7 I8 hF => ?_)
      show K _ _ [] _ _ _
      refine k_ld hK 1 dX4_ifLine_97 rfl rfl rfl rfl ?_
      obtain ⟨p9, e10, h_p9, hF⟩ := hF
      refine k_gR hK dX4_ifLine_98 lf_X4_33 rfl (sc_2 hs) e10 ?_
      refine k_ld hK 0 dX4_ifLine_101 rfl rfl rfl rfl ?_
      refine k_ic hK dX4_ifLine_102 ci_0 ?_
      refine k_ic hK dX4_ifLine_103 ci_0 ?_
      refine k_cVc hK dX4_ifLine_104 (Or.inl lm_X4_165) (As := [.int u0, .int 0, .int 0]) (S := []) rfl (sk_X5_0 hs h_p9) (Nat.le_of_ble_eq_true rfl) (fit_0 rfl rfl) rfl hF (fun u11 I12 hF => ?_)
      show K _ _ [] _ _ _
      refine k_ic hK dX4_ifLine_107 ci_1 ?_
      exact k_iret (x := b2i true) hK dX4_ifLine_108 rfl (b2i_nar _) (done_0 rfl rfl) (qC_i hF)
    · have hF := hF.2 h6
      refine k_ic hK dX4_ifLine_90 ci_0 ?_
      exact k_iret (x := b2i false) hK dX4_ifLine_91 rfl (b2i_nar _) (done_0 rfl rfl) (qC_i hF)
  · have hF := hF.2 h1
    refine k_ld hK 1 dX4_ifLine_57 rfl rfl rfl rfl ?_
    refine k_gR hK dX4_ifLine_58 lf_X4_29 rfl (sc_2 hs) (sf_2_0 hs) ?_
    refine k_bi hK dX4_ifLine_61 cb_61 ?_
    refine k_cVp hK dX4_ifLine_63 (Or.inl lm_X4_67) (As := [.int 61]) (S := []) rfl (sc_7 hs) (Nat.le_of_ble_eq_true rfl) (fit_0 rfl rfl) rfl hF (fun b13 hF => ?_)
    show K _ _ [.int (b2i b13)] _ _ _
    refine k_bne hK dX4_ifLine_66 (tgt := 75) rfl (fun h14 => ?_) (fun h14 => ?_)
    · have hF := hF.1 h14
      refine k_ld hK 1 dX4_ifLine_75 rfl rfl rfl rfl ?_
      refine k_gR hK dX4_ifLine_76 lf_X4_29 rfl (sc_2 hs) (sf_2_0 hs) ?_
      refine k_cVc hK dX4_ifLine_79 (Or.inl lm_X4_75) (As := []) (S := []) rfl (sc_7 hs) (Nat.le_of_ble_eq_true rfl) (fit_0 rfl rfl) rfl hF (fun u15 I16 hF => ?_)
      show K _ _ [] _ _ _
      refine k_ld hK 1 dX4_ifLine_82 rfl rfl rfl rfl ?_
      refine k_ic hK dX4_ifLine_83 ci_0 ?_
      refine k_cVc hK dX4_ifLine_84 (Or.inl lm_X4_162) (As := [.int 0]) (S := []) rfl (sc_2 hs) (Nat.le_of_ble_eq_true rfl) (fit_0 rfl rfl) rfl hF (fun b17 I18 hF => ?_)
      show K _ _ [.int (b2i b17)] _ _ _
      refine k_bne hK dX4_ifLine_87 (tgt := 92) rfl (fun h19 => ?_) (fun h19 => ?_)
      · have hF := hF.1 h19
        refine k_ld hK 1 dX4_ifLine_92 rfl rfl rfl rfl ?_
        refine k_ic hK dX4_ifLine_93 ci_1 ?_
        refine k_cVc hK dX4_ifLine_94 (Or.inl lm_X4_168) (As := [.int 1]) (S := []) rfl (sc_2 hs) (Nat.le_of_ble_eq_true rfl) (fit_0 rfl rfl) rfl hF (fun u20 I21 hF => ?_)
        show K _ _ [] _ _ _
        refine k_ld hK 1 dX4_ifLine_97 rfl rfl rfl rfl ?_
        obtain ⟨p22, e23, h_p22, hF⟩ := hF
        refine k_gR hK dX4_ifLine_98 lf_X4_33 rfl (sc_2 hs) e23 ?_
        refine k_ld hK 0 dX4_ifLine_101 rfl rfl rfl rfl ?_
        refine k_ic hK dX4_ifLine_102 ci_0 ?_
        refine k_ic hK dX4_ifLine_103 ci_0 ?_
        refine k_cVc hK dX4_ifLine_104 (Or.inl lm_X4_165) (As := [.int u0, .int 0, .int 0]) (S := []) rfl (sk_X5_0 hs h_p22) (Nat.le_of_ble_eq_true rfl) (fit_0 rfl rfl) rfl hF (fun u24 I25 hF => ?_)
        show K _ _ [] _ _ _
        refine k_ic hK dX4_ifLine_107 ci_1 ?_
        exact k_iret (x := b2i true) hK dX4_ifLine_108 rfl (b2i_nar _) (done_0 rfl rfl) (qC_i hF)
      · have hF := hF.2 h19
        refine k_ic hK dX4_ifLine_90 ci_0 ?_
        exact k_iret (x := b2i false) hK dX4_ifLine_91 rfl (b2i_nar _) (done_0 rfl rfl) (qC_i hF)
    · have hF := hF.2 h14
      refine k_ld hK 1 dX4_ifLine_69 rfl rfl rfl rfl ?_
      refine k_ic hK dX4_ifLine_70 ci_1 ?_
      refine k_cVc hK dX4_ifLine_71 (Or.inl lm_X4_71) (As := [.int 1]) (S := []) rfl (sc_2 hs) (Nat.le_of_ble_eq_true rfl) (fit_0 rfl rfl) rfl hF (fun b26 I27 hF => ?_)
      show K _ _ [.int (b2i b26)] _ _ _
      exact k_iret (x := b2i b26) hK dX4_ifLine_74 rfl (b2i_nar _) (done_0 rfl rfl) (qC_i hF)
set_option maxHeartbeats 4000000 in
theorem g_X4_elseLine_0 {d : Nat} {K : KT} {Q : Bool → HI → Prop} {I : HI} {J : HJ} {R : HR}  (hK : am_R M_X4_elseLine (am_W d) none R (qC fb J R Q) K) (hs : Stat R)  (hF : ((((I 2 6) - 1) < 0 → Wc fb d M_X4_fail [.ref 2, .int 1] I J R (fun b2 I3 => Q b2 I3)) ∧ (¬ ((I 2 6) - 1) < 0 → ((4 ≤ ((I 2 6) - 1) → Wc fb d M_X4_fail [.ref 2, .int 1] I J R (fun b5 I6 => Q b5 I6)) ∧ (¬ 4 ≤ ((I 2 6) - 1) → (∃ n7 : Nat, ((I 2 6) - 1) = nI n7 ∧ n7 < 4 ∧ (((I 5 n7) = 1 → (∃ p11 : Nat, (R 2 1) = some p11 ∧ isX5 p11 ∧ Wc fv d M_X5_emit [.ref p11, .int 14, .int 0, .int 0] (up (up I 5 n7 2) 6 n7 ((up I 5 n7 2) p11 1)) J R (fun u13 I14 => Wc fv d M_X5_leadHere [.ref p11, .int (I 6 n7)] I14 J R (fun u15 I16 => Wc fv d M_X6_advance [.ref 7] I16 J R (fun u17 I18 => Q true I18))))) ∧ (¬ (I 5 n7) = 1 → Wc fb d M_X4_fail [.ref 2, .int 1] I J R (fun b19 I20 => Q b19 I20))))))))) : K 0 [(0, .ref 2)] [] I J R := by
  refine k_ld hK 0 dX4_elseLine_0 rfl rfl rfl rfl ?_
  refine k_gI hK dX4_elseLine_1 lf_X4_42 rfl (sc_2 hs) rfl ?_
  refine k_ic hK dX4_elseLine_4 ci_1 ?_
  refine k_op hK dX4_elseLine_5 rfl rfl ?_
  refine k_st hK dX4_elseLine_6 rfl rfl rfl (Nat.le_of_ble_eq_true rfl) rfl ?_
  refine k_ld hK 0 dX4_elseLine_7 rfl rfl rfl rfl ?_
  refine k_lt hK dX4_elseLine_8 (tgt := 26) rfl (fun h1 => ?_) (fun h1 => ?_)
  · have hF := hF.1 h1
    refine k_ld hK 1 dX4_elseLine_26 rfl rfl rfl rfl ?_
    refine k_ic hK dX4_elseLine_27 ci_1 ?_
    refine k_cVc hK dX4_elseLine_28 (Or.inl lm_X4_71) (As := [.int 1]) (S := []) rfl (sc_2 hs) (Nat.le_of_ble_eq_true rfl) (fit_0 rfl rfl) rfl hF (fun b2 I3 hF => ?_)
    show K _ _ [.int (b2i b2)] _ _ _
    exact k_iret (x := b2i b2) hK dX4_elseLine_31 rfl (b2i_nar _) (done_0 rfl rfl) (qC_i hF)
  · have hF := hF.2 h1
    refine k_ld hK 0 dX4_elseLine_11 rfl rfl rfl rfl ?_
    refine k_ic hK dX4_elseLine_12 ci_4 ?_
    refine k_cge hK dX4_elseLine_13 (tgt := 26) rfl (fun h4 => ?_) (fun h4 => ?_)
    · have hF := hF.1 h4
      refine k_ld hK 1 dX4_elseLine_26 rfl rfl rfl rfl ?_
      refine k_ic hK dX4_elseLine_27 ci_1 ?_
      refine k_cVc hK dX4_elseLine_28 (Or.inl lm_X4_71) (As := [.int 1]) (S := []) rfl (sc_2 hs) (Nat.le_of_ble_eq_true rfl) (fit_0 rfl rfl) rfl hF (fun b5 I6 hF => ?_)
      show K _ _ [.int (b2i b5)] _ _ _
      exact k_iret (x := b2i b5) hK dX4_elseLine_31 rfl (b2i_nar _) (done_0 rfl rfl) (qC_i hF)
    · have hF := hF.2 h4
      refine k_ld hK 1 dX4_elseLine_16 rfl rfl rfl rfl ?_
      refine k_gR hK dX4_elseLine_17 lf_X4_18 rfl (sc_2 hs) (sf_2_4 hs) ?_
      refine k_ld hK 0 dX4_elseLine_20 rfl rfl rfl rfl ?_
      obtain ⟨n7, i8, j9, hF⟩ := hF
      refine k_iald hK dX4_elseLine_21 (sc_5 hs) sn_5 (by decide) i8 j9 rfl ?_
      refine k_ic hK dX4_elseLine_22 ci_1 ?_
      refine k_ceq hK dX4_elseLine_23 (tgt := 32) rfl (fun h10 => ?_) (fun h10 => ?_)
      · have hF := hF.1 h10
        refine k_ld hK 1 dX4_elseLine_32 rfl rfl rfl rfl ?_
        refine k_gR hK dX4_elseLine_33 lf_X4_21 rfl (sc_2 hs) (sf_2_5 hs) ?_
        refine k_ld hK 0 dX4_elseLine_36 rfl rfl rfl rfl ?_
        refine k_iald hK dX4_elseLine_37 (sc_6 hs) sn_6 (by decide) i8 j9 rfl ?_
        refine k_st hK dX4_elseLine_38 rfl rfl rfl (Nat.le_of_ble_eq_true rfl) rfl ?_
        refine k_ld hK 2 dX4_elseLine_39 rfl rfl rfl rfl ?_
        refine k_gR hK dX4_elseLine_40 lf_X4_18 rfl (sc_2 hs) (sf_2_4 hs) ?_
        refine k_ld hK 1 dX4_elseLine_43 rfl rfl rfl rfl ?_
        refine k_ic hK dX4_elseLine_44 ci_2 ?_
        refine k_iast hK dX4_elseLine_45 (sc_5 hs) sn_5 (by decide) i8 j9 ?_
        refine k_ld hK 2 dX4_elseLine_46 rfl rfl rfl rfl ?_
        refine k_gR hK dX4_elseLine_47 lf_X4_21 rfl (sc_2 hs) (sf_2_5 hs) ?_
        refine k_ld hK 1 dX4_elseLine_50 rfl rfl rfl rfl ?_
        refine k_ld hK 2 dX4_elseLine_51 rfl rfl rfl rfl ?_
        obtain ⟨p11, e12, h_p11, hF⟩ := hF
        refine k_gR hK dX4_elseLine_52 lf_X4_33 rfl (sc_2 hs) e12 ?_
        refine k_gI hK dX4_elseLine_55 lf_X4_171 rfl (sk_X5_0 hs h_p11) rfl ?_
        refine k_iast hK dX4_elseLine_58 (sc_6 hs) sn_6 (by decide) i8 j9 ?_
        refine k_ld hK 2 dX4_elseLine_59 rfl rfl rfl rfl ?_
        refine k_gR hK dX4_elseLine_60 lf_X4_33 rfl (sc_2 hs) e12 ?_
        refine k_bi hK dX4_elseLine_63 cb_14 ?_
        refine k_ic hK dX4_elseLine_65 ci_0 ?_
        refine k_ic hK dX4_elseLine_66 ci_0 ?_
        refine k_cVc hK dX4_elseLine_67 (Or.inl lm_X4_165) (As := [.int 14, .int 0, .int 0]) (S := []) rfl (sk_X5_0 hs h_p11) (Nat.le_of_ble_eq_true rfl) (fit_0 rfl rfl) rfl hF (fun u13 I14 hF => ?_)
        show K _ _ [] _ _ _
        refine k_ld hK 2 dX4_elseLine_70 rfl rfl rfl rfl ?_
        refine k_gR hK dX4_elseLine_71 lf_X4_33 rfl (sc_2 hs) e12 ?_
        refine k_ld hK 0 dX4_elseLine_74 rfl rfl rfl rfl ?_
        refine k_cVc hK dX4_elseLine_75 (Or.inl lm_X4_174) (As := [.int (I 6 n7)]) (S := []) rfl (sk_X5_0 hs h_p11) (Nat.le_of_ble_eq_true rfl) (fit_0 rfl rfl) rfl hF (fun u15 I16 hF => ?_)
        show K _ _ [] _ _ _
        refine k_ld hK 2 dX4_elseLine_78 rfl rfl rfl rfl ?_
        refine k_gR hK dX4_elseLine_79 lf_X4_29 rfl (sc_2 hs) (sf_2_0 hs) ?_
        refine k_cVc hK dX4_elseLine_82 (Or.inl lm_X4_75) (As := []) (S := []) rfl (sc_7 hs) (Nat.le_of_ble_eq_true rfl) (fit_0 rfl rfl) rfl hF (fun u17 I18 hF => ?_)
        show K _ _ [] _ _ _
        refine k_ic hK dX4_elseLine_85 ci_1 ?_
        exact k_iret (x := b2i true) hK dX4_elseLine_86 rfl (b2i_nar _) (done_0 rfl rfl) (qC_i hF)
      · have hF := hF.2 h10
        refine k_ld hK 1 dX4_elseLine_26 rfl rfl rfl rfl ?_
        refine k_ic hK dX4_elseLine_27 ci_1 ?_
        refine k_cVc hK dX4_elseLine_28 (Or.inl lm_X4_71) (As := [.int 1]) (S := []) rfl (sc_2 hs) (Nat.le_of_ble_eq_true rfl) (fit_0 rfl rfl) rfl hF (fun b19 I20 hF => ?_)
        show K _ _ [.int (b2i b19)] _ _ _
        exact k_iret (x := b2i b19) hK dX4_elseLine_31 rfl (b2i_nar _) (done_0 rfl rfl) (qC_i hF)
theorem e_X4_elseLine {d : Nat} {Q : Bool → HI → Prop} {I : HI} {J : HJ} {R : HR}  (hs : Stat R)  (hF : ((((I 2 6) - 1) < 0 → Wc fb d M_X4_fail [.ref 2, .int 1] I J R (fun b2 I3 => Q b2 I3)) ∧ (¬ ((I 2 6) - 1) < 0 → ((4 ≤ ((I 2 6) - 1) → Wc fb d M_X4_fail [.ref 2, .int 1] I J R (fun b5 I6 => Q b5 I6)) ∧ (¬ 4 ≤ ((I 2 6) - 1) → (∃ n7 : Nat, ((I 2 6) - 1) = nI n7 ∧ n7 < 4 ∧ (((I 5 n7) = 1 → (∃ p11 : Nat, (R 2 1) = some p11 ∧ isX5 p11 ∧ Wc fv d M_X5_emit [.ref p11, .int 14, .int 0, .int 0] (up (up I 5 n7 2) 6 n7 ((up I 5 n7 2) p11 1)) J R (fun u13 I14 => Wc fv d M_X5_leadHere [.ref p11, .int (I 6 n7)] I14 J R (fun u15 I16 => Wc fv d M_X6_advance [.ref 7] I16 J R (fun u17 I18 => Q true I18))))) ∧ (¬ (I 5 n7) = 1 → Wc fb d M_X4_fail [.ref 2, .int 1] I J R (fun b19 I20 => Q b19 I20))))))))) : Wc fb (d + 1) M_X4_elseLine [.ref 2] I J R Q := ⟨Nat.le_of_ble_eq_true rfl, fun K hK => g_X4_elseLine_0 hK hs hF⟩
set_option maxHeartbeats 4000000 in
theorem g_X4_endLine_0 {d : Nat} {K : KT} {Q : Bool → HI → Prop} {I : HI} {J : HJ} {R : HR}  (hK : am_R M_X4_endLine (am_W d) none R (qC fb J R Q) K) (hs : Stat R)  (hF : ((((I 2 6) - 1) < 0 → Wc fb d M_X4_fail [.ref 2, .int 1] I J R (fun b2 I3 => Q b2 I3)) ∧ (¬ ((I 2 6) - 1) < 0 → ((((I 2 6) - 1) < 4 → (∃ n5 : Nat, ((I 2 6) - 1) = nI n5 ∧ n5 < 4 ∧ ((¬ (I 5 n5) = 0 → (∃ p9 : Nat, (R 2 1) = some p9 ∧ isX5 p9 ∧ Wc fv d M_X5_leadHere [.ref p9, .int (I 6 n5)] I J R (fun u11 I12 => Wc fv d M_X6_advance [.ref 7] (up I12 2 6 ((I 2 6) - 1)) J R (fun u13 I14 => Q true I14)))) ∧ ((I 5 n5) = 0 → (∃ p15 : Nat, (R 2 1) = some p15 ∧ isX5 p15 ∧ Wc fv d M_X5_emit [.ref p15, .int 11, .int ((I 6 n5) + 1), .int 0] I J R (fun u17 I18 => Wc fv d M_X6_advance [.ref 7] (up I18 2 6 ((I 2 6) - 1)) J R (fun u19 I20 => Q true I20))))))) ∧ (¬ ((I 2 6) - 1) < 4 → Wc fb d M_X4_fail [.ref 2, .int 1] I J R (fun b21 I22 => Q b21 I22)))))) : K 0 [(0, .ref 2)] [] I J R := by
  refine k_ld hK 0 dX4_endLine_0 rfl rfl rfl rfl ?_
  refine k_gI hK dX4_endLine_1 lf_X4_42 rfl (sc_2 hs) rfl ?_
  refine k_ic hK dX4_endLine_4 ci_1 ?_
  refine k_op hK dX4_endLine_5 rfl rfl ?_
  refine k_st hK dX4_endLine_6 rfl rfl rfl (Nat.le_of_ble_eq_true rfl) rfl ?_
  refine k_ld hK 0 dX4_endLine_7 rfl rfl rfl rfl ?_
  refine k_lt hK dX4_endLine_8 (tgt := 16) rfl (fun h1 => ?_) (fun h1 => ?_)
  · have hF := hF.1 h1
    refine k_ld hK 1 dX4_endLine_16 rfl rfl rfl rfl ?_
    refine k_ic hK dX4_endLine_17 ci_1 ?_
    refine k_cVc hK dX4_endLine_18 (Or.inl lm_X4_71) (As := [.int 1]) (S := []) rfl (sc_2 hs) (Nat.le_of_ble_eq_true rfl) (fit_0 rfl rfl) rfl hF (fun b2 I3 hF => ?_)
    show K _ _ [.int (b2i b2)] _ _ _
    exact k_iret (x := b2i b2) hK dX4_endLine_21 rfl (b2i_nar _) (done_0 rfl rfl) (qC_i hF)
  · have hF := hF.2 h1
    refine k_ld hK 0 dX4_endLine_11 rfl rfl rfl rfl ?_
    refine k_ic hK dX4_endLine_12 ci_4 ?_
    refine k_clt hK dX4_endLine_13 (tgt := 22) rfl (fun h4 => ?_) (fun h4 => ?_)
    · have hF := hF.1 h4
      refine k_ld hK 1 dX4_endLine_22 rfl rfl rfl rfl ?_
      refine k_gR hK dX4_endLine_23 lf_X4_18 rfl (sc_2 hs) (sf_2_4 hs) ?_
      refine k_ld hK 0 dX4_endLine_26 rfl rfl rfl rfl ?_
      obtain ⟨n5, i6, j7, hF⟩ := hF
      refine k_iald hK dX4_endLine_27 (sc_5 hs) sn_5 (by decide) i6 j7 rfl ?_
      refine k_ne hK dX4_endLine_28 (tgt := 52) rfl (fun h8 => ?_) (fun h8 => ?_)
      · have hF := hF.1 h8
        refine k_ld hK 1 dX4_endLine_52 rfl rfl rfl rfl ?_
        obtain ⟨p9, e10, h_p9, hF⟩ := hF
        refine k_gR hK dX4_endLine_53 lf_X4_33 rfl (sc_2 hs) e10 ?_
        refine k_ld hK 1 dX4_endLine_56 rfl rfl rfl rfl ?_
        refine k_gR hK dX4_endLine_57 lf_X4_21 rfl (sc_2 hs) (sf_2_5 hs) ?_
        refine k_ld hK 0 dX4_endLine_60 rfl rfl rfl rfl ?_
        refine k_iald hK dX4_endLine_61 (sc_6 hs) sn_6 (by decide) i6 j7 rfl ?_
        refine k_cVc hK dX4_endLine_62 (Or.inl lm_X4_174) (As := [.int (I 6 n5)]) (S := []) rfl (sk_X5_0 hs h_p9) (Nat.le_of_ble_eq_true rfl) (fit_0 rfl rfl) rfl hF (fun u11 I12 hF => ?_)
        show K _ _ [] _ _ _
        refine k_ld hK 1 dX4_endLine_65 rfl rfl rfl rfl ?_
        refine k_ld hK 0 dX4_endLine_66 rfl rfl rfl rfl ?_
        refine k_pI hK dX4_endLine_67 lf_X4_42 rfl rfl rfl (sc_2 hs) ?_
        refine k_ld hK 1 dX4_endLine_70 rfl rfl rfl rfl ?_
        refine k_gR hK dX4_endLine_71 lf_X4_29 rfl (sc_2 hs) (sf_2_0 hs) ?_
        refine k_cVc hK dX4_endLine_74 (Or.inl lm_X4_75) (As := []) (S := []) rfl (sc_7 hs) (Nat.le_of_ble_eq_true rfl) (fit_0 rfl rfl) rfl hF (fun u13 I14 hF => ?_)
        show K _ _ [] _ _ _
        refine k_ic hK dX4_endLine_77 ci_1 ?_
        exact k_iret (x := b2i true) hK dX4_endLine_78 rfl (b2i_nar _) (done_0 rfl rfl) (qC_i hF)
      · have hF := hF.2 h8
        refine k_ld hK 1 dX4_endLine_31 rfl rfl rfl rfl ?_
        obtain ⟨p15, e16, h_p15, hF⟩ := hF
        refine k_gR hK dX4_endLine_32 lf_X4_33 rfl (sc_2 hs) e16 ?_
        refine k_bi hK dX4_endLine_35 cb_11 ?_
        refine k_ld hK 1 dX4_endLine_37 rfl rfl rfl rfl ?_
        refine k_gR hK dX4_endLine_38 lf_X4_21 rfl (sc_2 hs) (sf_2_5 hs) ?_
        refine k_ld hK 0 dX4_endLine_41 rfl rfl rfl rfl ?_
        refine k_iald hK dX4_endLine_42 (sc_6 hs) sn_6 (by decide) i6 j7 rfl ?_
        refine k_ic hK dX4_endLine_43 ci_1 ?_
        refine k_op hK dX4_endLine_44 rfl rfl ?_
        refine k_ic hK dX4_endLine_45 ci_0 ?_
        refine k_cVc hK dX4_endLine_46 (Or.inl lm_X4_165) (As := [.int 11, .int ((I 6 n5) + 1), .int 0]) (S := []) rfl (sk_X5_0 hs h_p15) (Nat.le_of_ble_eq_true rfl) (fit_0 rfl rfl) rfl hF (fun u17 I18 hF => ?_)
        show K _ _ [] _ _ _
        refine k_goto hK dX4_endLine_49 (tgt := 65) rfl ?_
        refine k_ld hK 1 dX4_endLine_65 rfl rfl rfl rfl ?_
        refine k_ld hK 0 dX4_endLine_66 rfl rfl rfl rfl ?_
        refine k_pI hK dX4_endLine_67 lf_X4_42 rfl rfl rfl (sc_2 hs) ?_
        refine k_ld hK 1 dX4_endLine_70 rfl rfl rfl rfl ?_
        refine k_gR hK dX4_endLine_71 lf_X4_29 rfl (sc_2 hs) (sf_2_0 hs) ?_
        refine k_cVc hK dX4_endLine_74 (Or.inl lm_X4_75) (As := []) (S := []) rfl (sc_7 hs) (Nat.le_of_ble_eq_true rfl) (fit_0 rfl rfl) rfl hF (fun u19 I20 hF => ?_)
        show K _ _ [] _ _ _
        refine k_ic hK dX4_endLine_77 ci_1 ?_
        exact k_iret (x := b2i true) hK dX4_endLine_78 rfl (b2i_nar _) (done_0 rfl rfl) (qC_i hF)
    · have hF := hF.2 h4
      refine k_ld hK 1 dX4_endLine_16 rfl rfl rfl rfl ?_
      refine k_ic hK dX4_endLine_17 ci_1 ?_
      refine k_cVc hK dX4_endLine_18 (Or.inl lm_X4_71) (As := [.int 1]) (S := []) rfl (sc_2 hs) (Nat.le_of_ble_eq_true rfl) (fit_0 rfl rfl) rfl hF (fun b21 I22 hF => ?_)
      show K _ _ [.int (b2i b21)] _ _ _
      exact k_iret (x := b2i b21) hK dX4_endLine_21 rfl (b2i_nar _) (done_0 rfl rfl) (qC_i hF)
theorem e_X4_endLine {d : Nat} {Q : Bool → HI → Prop} {I : HI} {J : HJ} {R : HR}  (hs : Stat R)  (hF : ((((I 2 6) - 1) < 0 → Wc fb d M_X4_fail [.ref 2, .int 1] I J R (fun b2 I3 => Q b2 I3)) ∧ (¬ ((I 2 6) - 1) < 0 → ((((I 2 6) - 1) < 4 → (∃ n5 : Nat, ((I 2 6) - 1) = nI n5 ∧ n5 < 4 ∧ ((¬ (I 5 n5) = 0 → (∃ p9 : Nat, (R 2 1) = some p9 ∧ isX5 p9 ∧ Wc fv d M_X5_leadHere [.ref p9, .int (I 6 n5)] I J R (fun u11 I12 => Wc fv d M_X6_advance [.ref 7] (up I12 2 6 ((I 2 6) - 1)) J R (fun u13 I14 => Q true I14)))) ∧ ((I 5 n5) = 0 → (∃ p15 : Nat, (R 2 1) = some p15 ∧ isX5 p15 ∧ Wc fv d M_X5_emit [.ref p15, .int 11, .int ((I 6 n5) + 1), .int 0] I J R (fun u17 I18 => Wc fv d M_X6_advance [.ref 7] (up I18 2 6 ((I 2 6) - 1)) J R (fun u19 I20 => Q true I20))))))) ∧ (¬ ((I 2 6) - 1) < 4 → Wc fb d M_X4_fail [.ref 2, .int 1] I J R (fun b21 I22 => Q b21 I22)))))) : Wc fb (d + 1) M_X4_endLine [.ref 2] I J R Q := ⟨Nat.le_of_ble_eq_true rfl, fun K hK => g_X4_endLine_0 hK hs hF⟩
set_option maxHeartbeats 4000000 in
theorem g_X4_outLine_0 {d : Nat} {K : KT} {Q : Bool → HI → Prop} {I : HI} {J : HJ} {R : HR}  (hK : am_R M_X4_outLine (am_W d) none R (qC fb J R Q) K) (hs : Stat R)  (hF : Wc fv d M_X6_advance [.ref 7] I J R (fun u1 I2 => Wc fb d M_X4_expression [.ref 2, .int 0] I2 J R (fun b3 I4 => ((b3 = true → (∃ p6 : Nat, (R 2 1) = some p6 ∧ isX5 p6 ∧ Wc fv d M_X5_emit [.ref p6, .int 9, .int 0, .int 0] I4 J R (fun u8 I9 => Q true I9))) ∧ (b3 = false → Q false I4))))) : K 0 [(0, .ref 2)] [] I J R := by
  refine k_ld hK 0 dX4_outLine_0 rfl rfl rfl rfl ?_
  refine k_gR hK dX4_outLine_1 lf_X4_29 rfl (sc_2 hs) (sf_2_0 hs) ?_
  refine k_cVc hK dX4_outLine_4 (Or.inl lm_X4_75) (As := []) (S := []) rfl (sc_7 hs) (Nat.le_of_ble_eq_true rfl) (fit_0 rfl rfl) rfl hF (fun u1 I2 hF => ?_)
  show K _ _ [] _ _ _
  refine k_ld hK 0 dX4_outLine_7 rfl rfl rfl rfl ?_
  refine k_ic hK dX4_outLine_8 ci_0 ?_
  refine k_cVc hK dX4_outLine_9 (Or.inl lm_X4_162) (As := [.int 0]) (S := []) rfl (sc_2 hs) (Nat.le_of_ble_eq_true rfl) (fit_0 rfl rfl) rfl hF (fun b3 I4 hF => ?_)
  show K _ _ [.int (b2i b3)] _ _ _
  refine k_bne hK dX4_outLine_12 (tgt := 17) rfl (fun h5 => ?_) (fun h5 => ?_)
  · have hF := hF.1 h5
    refine k_ld hK 0 dX4_outLine_17 rfl rfl rfl rfl ?_
    obtain ⟨p6, e7, h_p6, hF⟩ := hF
    refine k_gR hK dX4_outLine_18 lf_X4_33 rfl (sc_2 hs) e7 ?_
    refine k_bi hK dX4_outLine_21 cb_9 ?_
    refine k_ic hK dX4_outLine_23 ci_0 ?_
    refine k_ic hK dX4_outLine_24 ci_0 ?_
    refine k_cVc hK dX4_outLine_25 (Or.inl lm_X4_165) (As := [.int 9, .int 0, .int 0]) (S := []) rfl (sk_X5_0 hs h_p6) (Nat.le_of_ble_eq_true rfl) (fit_0 rfl rfl) rfl hF (fun u8 I9 hF => ?_)
    show K _ _ [] _ _ _
    refine k_ic hK dX4_outLine_28 ci_1 ?_
    exact k_iret (x := b2i true) hK dX4_outLine_29 rfl (b2i_nar _) (done_0 rfl rfl) (qC_i hF)
  · have hF := hF.2 h5
    refine k_ic hK dX4_outLine_15 ci_0 ?_
    exact k_iret (x := b2i false) hK dX4_outLine_16 rfl (b2i_nar _) (done_0 rfl rfl) (qC_i hF)
theorem e_X4_outLine {d : Nat} {Q : Bool → HI → Prop} {I : HI} {J : HJ} {R : HR}  (hs : Stat R)  (hF : Wc fv d M_X6_advance [.ref 7] I J R (fun u1 I2 => Wc fb d M_X4_expression [.ref 2, .int 0] I2 J R (fun b3 I4 => ((b3 = true → (∃ p6 : Nat, (R 2 1) = some p6 ∧ isX5 p6 ∧ Wc fv d M_X5_emit [.ref p6, .int 9, .int 0, .int 0] I4 J R (fun u8 I9 => Q true I9))) ∧ (b3 = false → Q false I4))))) : Wc fb (d + 1) M_X4_outLine [.ref 2] I J R Q := ⟨Nat.le_of_ble_eq_true rfl, fun K hK => g_X4_outLine_0 hK hs hF⟩
set_option maxHeartbeats 4000000 in
theorem g_X4_expression_0 {d : Nat} {K : KT} {Q : Bool → HI → Prop} {I : HI} {J : HJ} {R : HR} {x1 : Int32} (hK : am_R M_X4_expression (am_W d) none R (qC fb J R Q) K) (hs : Stat R)  (hF : K 7 [(0, .ref 2), (1, .int x1), (2, .int (-1)), (3, .int (-1)), (4, .int 0)] [] I J R) : K 0 [(0, .ref 2), (1, .int x1)] [] I J R := by
  refine k_ic hK dX4_expression_0 ci_m1 ?_
  refine k_st hK dX4_expression_1 rfl rfl rfl (Nat.le_of_ble_eq_true rfl) rfl ?_
  refine k_ic hK dX4_expression_2 ci_m1 ?_
  refine k_st hK dX4_expression_3 rfl rfl rfl (Nat.le_of_ble_eq_true rfl) rfl ?_
  refine k_ic hK dX4_expression_4 ci_0 ?_
  refine k_st hK dX4_expression_5 rfl rfl rfl (Nat.le_of_ble_eq_true rfl) rfl ?_
  exact k_sub hK [3, 4, 2, 1, 0] rfl hF
set_option maxHeartbeats 4000000 in
theorem g_X4_expression_7 {d : Nat} {K : KT} {Q : Bool → HI → Prop} {I : HI} {J : HJ} {R : HR} {x1 : Int32} {x2 : Int32} {x3 : Int32} {x4 : Int32} (hK : am_R M_X4_expression (am_W d) none R (qC fb J R Q) K) (hs : Stat R)  (hF : ((900 ≤ x4 → Wc fb d M_X4_fail [.ref 2, .int 1] I J R (fun b2 I3 => Q b2 I3)) ∧ (¬ 900 ≤ x4 → Wc fb d M_X4_factor [.ref 2, .int x1] I J R (fun b4 I5 => ((b4 = true → ((x3 = (-1) → K 42 [(0, .ref 2), (1, .int x1), (2, .int x2), (3, .int x3), (4, .int x4)] [] I5 J R) ∧ (¬ x3 = (-1) → (∃ p8 : Nat, (R 2 1) = some p8 ∧ isX5 p8 ∧ Wc fv d M_X5_emit [.ref p8, .int x3, .int 0, .int 0] I5 J R (fun u10 I11 => K 42 [(0, .ref 2), (1, .int x1), (2, .int x2), (3, .int (-1)), (4, .int x4)] [] I11 J R))))) ∧ (b4 = false → Q false I5)))))) : K 7 [(0, .ref 2), (1, .int x1), (2, .int x2), (3, .int x3), (4, .int x4)] [] I J R := by
  refine k_ld hK 4 dX4_expression_7 rfl rfl rfl rfl ?_
  refine k_si hK dX4_expression_9 cs_900 ?_
  refine k_cge hK dX4_expression_12 (tgt := 109) rfl (fun h1 => ?_) (fun h1 => ?_)
  · have hF := hF.1 h1
    refine k_ld hK 0 dX4_expression_109 rfl rfl rfl rfl ?_
    refine k_ic hK dX4_expression_110 ci_1 ?_
    refine k_cVc hK dX4_expression_111 (Or.inl lm_X4_71) (As := [.int 1]) (S := []) rfl (sc_2 hs) (Nat.le_of_ble_eq_true rfl) (fit_0 rfl rfl) rfl hF (fun b2 I3 hF => ?_)
    show K _ _ [.int (b2i b2)] _ _ _
    exact k_iret (x := b2i b2) hK dX4_expression_114 rfl (b2i_nar _) (done_0 rfl rfl) (qC_i hF)
  · have hF := hF.2 h1
    refine k_ld hK 0 dX4_expression_15 rfl rfl rfl rfl ?_
    refine k_ld hK 1 dX4_expression_16 rfl rfl rfl rfl ?_
    refine k_cVc hK dX4_expression_17 (Or.inl lm_X4_177) (As := [.int x1]) (S := []) rfl (sc_2 hs) (Nat.le_of_ble_eq_true rfl) (fit_0 rfl rfl) rfl hF (fun b4 I5 hF => ?_)
    show K _ _ [.int (b2i b4)] _ _ _
    refine k_bne hK dX4_expression_20 (tgt := 25) rfl (fun h6 => ?_) (fun h6 => ?_)
    · have hF := hF.1 h6
      refine k_ld hK 3 dX4_expression_25 rfl rfl rfl rfl ?_
      refine k_ic hK dX4_expression_26 ci_m1 ?_
      refine k_ceq hK dX4_expression_27 (tgt := 42) rfl (fun h7 => ?_) (fun h7 => ?_)
      · have hF := hF.1 h7
        exact k_sub hK [0, 1, 2, 3, 4] rfl hF
      · have hF := hF.2 h7
        refine k_ld hK 0 dX4_expression_30 rfl rfl rfl rfl ?_
        obtain ⟨p8, e9, h_p8, hF⟩ := hF
        refine k_gR hK dX4_expression_31 lf_X4_33 rfl (sc_2 hs) e9 ?_
        refine k_ld hK 3 dX4_expression_34 rfl rfl rfl rfl ?_
        refine k_ic hK dX4_expression_35 ci_0 ?_
        refine k_ic hK dX4_expression_36 ci_0 ?_
        refine k_cVc hK dX4_expression_37 (Or.inl lm_X4_165) (As := [.int x3, .int 0, .int 0]) (S := []) rfl (sk_X5_0 hs h_p8) (Nat.le_of_ble_eq_true rfl) (fit_0 rfl rfl) rfl hF (fun u10 I11 hF => ?_)
        show K _ _ [] _ _ _
        refine k_ic hK dX4_expression_40 ci_m1 ?_
        refine k_st hK dX4_expression_41 rfl rfl rfl (Nat.le_of_ble_eq_true rfl) rfl ?_
        exact k_sub hK [1, 2, 3, 0, 4] rfl hF
    · have hF := hF.2 h6
      refine k_ic hK dX4_expression_23 ci_0 ?_
      exact k_iret (x := b2i false) hK dX4_expression_24 rfl (b2i_nar _) (done_0 rfl rfl) (qC_i hF)
set_option maxHeartbeats 4000000 in
theorem g_X4_expression_42 {d : Nat} {K : KT} {Q : Bool → HI → Prop} {I : HI} {J : HJ} {R : HR} {x1 : Int32} {x2 : Int32} {x3 : Int32} {x4 : Int32} (hK : am_R M_X4_expression (am_W d) none R (qC fb J R Q) K) (hs : Stat R)  (hF : Wp fi d M_X6_operator [.ref 7] I J R (fun r1 => ((r1 = 5 → Wc fv d M_X6_advance [.ref 7] I J R (fun u3 I4 => K 7 [(0, .ref 2), (1, .int x1), (2, .int x2), (3, .int r1), (4, .int (x4 + 1))] [] I4 J R)) ∧ (¬ r1 = 5 → ((¬ r1 = 6 → ((x2 = (-1) → ((¬ r1 = (-1) → Wc fv d M_X6_advance [.ref 7] I J R (fun u8 I9 => K 7 [(0, .ref 2), (1, .int x1), (2, .int r1), (3, .int x3), (4, .int (x4 + 1))] [] I9 J R)) ∧ (r1 = (-1) → Q true I))) ∧ (¬ x2 = (-1) → (∃ p10 : Nat, (R 2 1) = some p10 ∧ isX5 p10 ∧ Wc fv d M_X5_emit [.ref p10, .int x2, .int 0, .int 0] I J R (fun u12 I13 => ((¬ r1 = (-1) → Wc fv d M_X6_advance [.ref 7] I13 J R (fun u15 I16 => K 7 [(0, .ref 2), (1, .int x1), (2, .int r1), (3, .int x3), (4, .int (x4 + 1))] [] I16 J R)) ∧ (r1 = (-1) → Q true I13))))))) ∧ (r1 = 6 → Wc fv d M_X6_advance [.ref 7] I J R (fun u17 I18 => K 7 [(0, .ref 2), (1, .int x1), (2, .int x2), (3, .int r1), (4, .int (x4 + 1))] [] I18 J R))))))) : K 42 [(0, .ref 2), (1, .int x1), (2, .int x2), (3, .int x3), (4, .int x4)] [] I J R := by
  refine k_ld hK 0 dX4_expression_42 rfl rfl rfl rfl ?_
  refine k_gR hK dX4_expression_43 lf_X4_29 rfl (sc_2 hs) (sf_2_0 hs) ?_
  refine k_cVp hK dX4_expression_46 (Or.inl lm_X4_180) (As := []) (S := []) rfl (sc_7 hs) (Nat.le_of_ble_eq_true rfl) (fit_0 rfl rfl) rfl hF (fun r1 hF => ?_)
  show K _ _ [.int r1] _ _ _
  refine k_st hK dX4_expression_49 rfl rfl rfl (Nat.le_of_ble_eq_true rfl) rfl ?_
  refine k_ld hK 0 dX4_expression_51 rfl rfl rfl rfl ?_
  refine k_ic hK dX4_expression_53 ci_5 ?_
  refine k_ceq hK dX4_expression_54 (tgt := 64) rfl (fun h2 => ?_) (fun h2 => ?_)
  · have hF := hF.1 h2
    refine k_ld hK 0 dX4_expression_64 rfl rfl rfl rfl ?_
    refine k_st hK dX4_expression_66 rfl rfl rfl (Nat.le_of_ble_eq_true rfl) rfl ?_
    refine k_goto hK dX4_expression_67 (tgt := 96) rfl ?_
    refine k_ld hK 2 dX4_expression_96 rfl rfl rfl rfl ?_
    refine k_gR hK dX4_expression_97 lf_X4_29 rfl (sc_2 hs) (sf_2_0 hs) ?_
    refine k_cVc hK dX4_expression_100 (Or.inl lm_X4_75) (As := []) (S := []) rfl (sc_7 hs) (Nat.le_of_ble_eq_true rfl) (fit_0 rfl rfl) rfl hF (fun u3 I4 hF => ?_)
    show K _ _ [] _ _ _
    refine k_iinc hK 5 dX4_expression_103 (v := (x4 + 1)) rfl (Nat.le_of_ble_eq_true rfl) (congrArg (fun q => x4 + q) ci_1) rfl ?_
    refine k_goto hK dX4_expression_106 (tgt := 7) rfl ?_
    exact k_sub hK [3, 4, 5, 1, 0] rfl hF
  · have hF := hF.2 h2
    refine k_ld hK 0 dX4_expression_57 rfl rfl rfl rfl ?_
    refine k_bi hK dX4_expression_59 cb_6 ?_
    refine k_cne hK dX4_expression_61 (tgt := 70) rfl (fun h5 => ?_) (fun h5 => ?_)
    · have hF := hF.1 h5
      refine k_ld hK 3 dX4_expression_70 rfl rfl rfl rfl ?_
      refine k_ic hK dX4_expression_71 ci_m1 ?_
      refine k_ceq hK dX4_expression_72 (tgt := 85) rfl (fun h6 => ?_) (fun h6 => ?_)
      · have hF := hF.1 h6
        refine k_ld hK 0 dX4_expression_85 rfl rfl rfl rfl ?_
        refine k_ic hK dX4_expression_87 ci_m1 ?_
        refine k_cne hK dX4_expression_88 (tgt := 93) rfl (fun h7 => ?_) (fun h7 => ?_)
        · have hF := hF.1 h7
          refine k_ld hK 0 dX4_expression_93 rfl rfl rfl rfl ?_
          refine k_st hK dX4_expression_95 rfl rfl rfl (Nat.le_of_ble_eq_true rfl) rfl ?_
          refine k_ld hK 2 dX4_expression_96 rfl rfl rfl rfl ?_
          refine k_gR hK dX4_expression_97 lf_X4_29 rfl (sc_2 hs) (sf_2_0 hs) ?_
          refine k_cVc hK dX4_expression_100 (Or.inl lm_X4_75) (As := []) (S := []) rfl (sc_7 hs) (Nat.le_of_ble_eq_true rfl) (fit_0 rfl rfl) rfl hF (fun u8 I9 hF => ?_)
          show K _ _ [] _ _ _
          refine k_iinc hK 5 dX4_expression_103 (v := (x4 + 1)) rfl (Nat.le_of_ble_eq_true rfl) (congrArg (fun q => x4 + q) ci_1) rfl ?_
          refine k_goto hK dX4_expression_106 (tgt := 7) rfl ?_
          exact k_sub hK [3, 4, 1, 5, 0] rfl hF
        · have hF := hF.2 h7
          refine k_ic hK dX4_expression_91 ci_1 ?_
          exact k_iret (x := b2i true) hK dX4_expression_92 rfl (b2i_nar _) (done_0 rfl rfl) (qC_i hF)
      · have hF := hF.2 h6
        refine k_ld hK 1 dX4_expression_75 rfl rfl rfl rfl ?_
        obtain ⟨p10, e11, h_p10, hF⟩ := hF
        refine k_gR hK dX4_expression_76 lf_X4_33 rfl (sc_2 hs) e11 ?_
        refine k_ld hK 3 dX4_expression_79 rfl rfl rfl rfl ?_
        refine k_ic hK dX4_expression_80 ci_0 ?_
        refine k_ic hK dX4_expression_81 ci_0 ?_
        refine k_cVc hK dX4_expression_82 (Or.inl lm_X4_165) (As := [.int x2, .int 0, .int 0]) (S := []) rfl (sk_X5_0 hs h_p10) (Nat.le_of_ble_eq_true rfl) (fit_0 rfl rfl) rfl hF (fun u12 I13 hF => ?_)
        show K _ _ [] _ _ _
        refine k_ld hK 0 dX4_expression_85 rfl rfl rfl rfl ?_
        refine k_ic hK dX4_expression_87 ci_m1 ?_
        refine k_cne hK dX4_expression_88 (tgt := 93) rfl (fun h14 => ?_) (fun h14 => ?_)
        · have hF := hF.1 h14
          refine k_ld hK 0 dX4_expression_93 rfl rfl rfl rfl ?_
          refine k_st hK dX4_expression_95 rfl rfl rfl (Nat.le_of_ble_eq_true rfl) rfl ?_
          refine k_ld hK 2 dX4_expression_96 rfl rfl rfl rfl ?_
          refine k_gR hK dX4_expression_97 lf_X4_29 rfl (sc_2 hs) (sf_2_0 hs) ?_
          refine k_cVc hK dX4_expression_100 (Or.inl lm_X4_75) (As := []) (S := []) rfl (sc_7 hs) (Nat.le_of_ble_eq_true rfl) (fit_0 rfl rfl) rfl hF (fun u15 I16 hF => ?_)
          show K _ _ [] _ _ _
          refine k_iinc hK 5 dX4_expression_103 (v := (x4 + 1)) rfl (Nat.le_of_ble_eq_true rfl) (congrArg (fun q => x4 + q) ci_1) rfl ?_
          refine k_goto hK dX4_expression_106 (tgt := 7) rfl ?_
          exact k_sub hK [3, 4, 1, 5, 0] rfl hF
        · have hF := hF.2 h14
          refine k_ic hK dX4_expression_91 ci_1 ?_
          exact k_iret (x := b2i true) hK dX4_expression_92 rfl (b2i_nar _) (done_0 rfl rfl) (qC_i hF)
    · have hF := hF.2 h5
      refine k_ld hK 0 dX4_expression_64 rfl rfl rfl rfl ?_
      refine k_st hK dX4_expression_66 rfl rfl rfl (Nat.le_of_ble_eq_true rfl) rfl ?_
      refine k_goto hK dX4_expression_67 (tgt := 96) rfl ?_
      refine k_ld hK 2 dX4_expression_96 rfl rfl rfl rfl ?_
      refine k_gR hK dX4_expression_97 lf_X4_29 rfl (sc_2 hs) (sf_2_0 hs) ?_
      refine k_cVc hK dX4_expression_100 (Or.inl lm_X4_75) (As := []) (S := []) rfl (sc_7 hs) (Nat.le_of_ble_eq_true rfl) (fit_0 rfl rfl) rfl hF (fun u17 I18 hF => ?_)
      show K _ _ [] _ _ _
      refine k_iinc hK 5 dX4_expression_103 (v := (x4 + 1)) rfl (Nat.le_of_ble_eq_true rfl) (congrArg (fun q => x4 + q) ci_1) rfl ?_
      refine k_goto hK dX4_expression_106 (tgt := 7) rfl ?_
      exact k_sub hK [3, 4, 5, 1, 0] rfl hF
set_option maxHeartbeats 4000000 in
theorem g_X4_factor_0 {d : Nat} {K : KT} {Q : Bool → HI → Prop} {I : HI} {J : HJ} {R : HR} {x1 : Int32} (hK : am_R M_X4_factor (am_W d) none R (qC fb J R Q) K) (hs : Stat R)  (hF : ((¬ (I 7 3) = 2 → Wp fb d M_X6_isName [.ref 7] I J R (fun b2 => ((b2 = true → Wp fi d M_X4_rowOf [.ref 2, .int (I 7 4)] I J R (fun r4 => Wc fi d M_X4_variableOf [.ref 2, .int (I 7 4), .int (b2i false)] I J R (fun r5 I6 => ((¬ r4 = (-1) → Wc fv d M_X6_advance [.ref 7] I6 J R (fun u8 I9 => ((r4 = (-1) → K 146 [(0, .ref 2), (2, .int r4), (3, .int r5)] [] I9 J R) ∧ (¬ r4 = (-1) → Wc fb d M_X4_bracket [.ref 2, .int 91, .int 93, .int (x1 + 1)] I9 J R (fun b11 I12 => ((b11 = true → K 146 [(0, .ref 2), (2, .int r4), (3, .int r5)] [] I12 J R) ∧ (b11 = false → Q false I12))))))) ∧ (r4 = (-1) → ((¬ r5 = (-1) → Wc fv d M_X6_advance [.ref 7] I6 J R (fun u15 I16 => ((r4 = (-1) → K 146 [(0, .ref 2), (2, .int r4), (3, .int r5)] [] I16 J R) ∧ (¬ r4 = (-1) → Wc fb d M_X4_bracket [.ref 2, .int 91, .int 93, .int (x1 + 1)] I16 J R (fun b18 I19 => ((b18 = true → K 146 [(0, .ref 2), (2, .int r4), (3, .int r5)] [] I19 J R) ∧ (b18 = false → Q false I19))))))) ∧ (r5 = (-1) → Wc fb d M_X4_fail [.ref 2, .int 1] I6 J R (fun b21 I22 => Q b21 I22)))))))) ∧ (b2 = false → Wc fb d M_X4_bracket [.ref 2, .int 40, .int 41, .int (x1 + 1)] I J R (fun b23 I24 => Q b23 I24))))) ∧ ((I 7 3) = 2 → (((I 7 4) ≤ 9999 → (∃ p26 : Nat, (R 2 1) = some p26 ∧ isX5 p26 ∧ Wc fv d M_X5_emit [.ref p26, .int 0, .int (I 7 4), .int 0] I J R (fun u28 I29 => Wc fv d M_X6_advance [.ref 7] I29 J R (fun u30 I31 => Q true I31)))) ∧ (¬ (I 7 4) ≤ 9999 → Wc fb d M_X4_fail [.ref 2, .int 2] I J R (fun b32 I33 => Q b32 I33)))))) : K 0 [(0, .ref 2), (1, .int x1)] [] I J R := by
  refine k_ld hK 0 dX4_factor_0 rfl rfl rfl rfl ?_
  refine k_gR hK dX4_factor_1 lf_X4_29 rfl (sc_2 hs) (sf_2_0 hs) ?_
  refine k_gI hK dX4_factor_4 lf_X4_60 rfl (sc_7 hs) rfl ?_
  refine k_ic hK dX4_factor_7 ci_2 ?_
  refine k_cne hK dX4_factor_8 (tgt := 55) rfl (fun h1 => ?_) (fun h1 => ?_)
  · have hF := hF.1 h1
    refine k_ld hK 0 dX4_factor_55 rfl rfl rfl rfl ?_
    refine k_gR hK dX4_factor_56 lf_X4_29 rfl (sc_2 hs) (sf_2_0 hs) ?_
    refine k_cVp hK dX4_factor_59 (Or.inl lm_X4_112) (As := []) (S := []) rfl (sc_7 hs) (Nat.le_of_ble_eq_true rfl) (fit_0 rfl rfl) rfl hF (fun b2 hF => ?_)
    show K _ _ [.int (b2i b2)] _ _ _
    refine k_bne hK dX4_factor_62 (tgt := 77) rfl (fun h3 => ?_) (fun h3 => ?_)
    · have hF := hF.1 h3
      refine k_ld hK 0 dX4_factor_77 rfl rfl rfl rfl ?_
      refine k_ld hK 0 dX4_factor_78 rfl rfl rfl rfl ?_
      refine k_gR hK dX4_factor_79 lf_X4_29 rfl (sc_2 hs) (sf_2_0 hs) ?_
      refine k_gI hK dX4_factor_82 lf_X4_84 rfl (sc_7 hs) rfl ?_
      refine k_cVp hK dX4_factor_85 (Or.inl lm_X4_128) (As := [.int (I 7 4)]) (S := []) rfl (sc_2 hs) (Nat.le_of_ble_eq_true rfl) (fit_0 rfl rfl) rfl hF (fun r4 hF => ?_)
      show K _ _ [.int r4] _ _ _
      refine k_st hK dX4_factor_88 rfl rfl rfl (Nat.le_of_ble_eq_true rfl) rfl ?_
      refine k_ld hK 1 dX4_factor_89 rfl rfl rfl rfl ?_
      refine k_ld hK 1 dX4_factor_90 rfl rfl rfl rfl ?_
      refine k_gR hK dX4_factor_91 lf_X4_29 rfl (sc_2 hs) (sf_2_0 hs) ?_
      refine k_gI hK dX4_factor_94 lf_X4_84 rfl (sc_7 hs) rfl ?_
      refine k_ic hK dX4_factor_97 ci_0 ?_
      refine k_cVc hK dX4_factor_98 (Or.inl lm_X4_124) (As := [.int (I 7 4), .int (b2i false)]) (S := []) rfl (sc_2 hs) (Nat.le_of_ble_eq_true rfl) (fit_0 rfl rfl) rfl hF (fun r5 I6 hF => ?_)
      show K _ _ [.int r5] _ _ _
      refine k_st hK dX4_factor_101 rfl rfl rfl (Nat.le_of_ble_eq_true rfl) rfl ?_
      refine k_ld hK 1 dX4_factor_102 rfl rfl rfl rfl ?_
      refine k_ic hK dX4_factor_103 ci_m1 ?_
      refine k_cne hK dX4_factor_104 (tgt := 118) rfl (fun h7 => ?_) (fun h7 => ?_)
      · have hF := hF.1 h7
        refine k_ld hK 2 dX4_factor_118 rfl rfl rfl rfl ?_
        refine k_gR hK dX4_factor_119 lf_X4_29 rfl (sc_2 hs) (sf_2_0 hs) ?_
        refine k_cVc hK dX4_factor_122 (Or.inl lm_X4_75) (As := []) (S := []) rfl (sc_7 hs) (Nat.le_of_ble_eq_true rfl) (fit_0 rfl rfl) rfl hF (fun u8 I9 hF => ?_)
        show K _ _ [] _ _ _
        refine k_ld hK 1 dX4_factor_125 rfl rfl rfl rfl ?_
        refine k_ic hK dX4_factor_126 ci_m1 ?_
        refine k_ceq hK dX4_factor_127 (tgt := 146) rfl (fun h10 => ?_) (fun h10 => ?_)
        · have hF := hF.1 h10
          exact k_sub hK [2, 1, 0] rfl hF
        · have hF := hF.2 h10
          refine k_ld hK 2 dX4_factor_130 rfl rfl rfl rfl ?_
          refine k_bi hK dX4_factor_131 cb_91 ?_
          refine k_bi hK dX4_factor_133 cb_93 ?_
          refine k_ld hK 3 dX4_factor_135 rfl rfl rfl rfl ?_
          refine k_ic hK dX4_factor_136 ci_1 ?_
          refine k_op hK dX4_factor_137 rfl rfl ?_
          refine k_cVc hK dX4_factor_138 (Or.inl lm_X4_158) (As := [.int 91, .int 93, .int (x1 + 1)]) (S := []) rfl (sc_2 hs) (Nat.le_of_ble_eq_true rfl) (fit_0 rfl rfl) rfl hF (fun b11 I12 hF => ?_)
          show K _ _ [.int (b2i b11)] _ _ _
          refine k_bne hK dX4_factor_141 (tgt := 146) rfl (fun h13 => ?_) (fun h13 => ?_)
          · have hF := hF.1 h13
            exact k_sub hK [2, 1, 0] rfl hF
          · have hF := hF.2 h13
            refine k_ic hK dX4_factor_144 ci_0 ?_
            exact k_iret (x := b2i false) hK dX4_factor_145 rfl (b2i_nar _) (done_0 rfl rfl) (qC_i hF)
      · have hF := hF.2 h7
        refine k_ld hK 0 dX4_factor_107 rfl rfl rfl rfl ?_
        refine k_ic hK dX4_factor_108 ci_m1 ?_
        refine k_cne hK dX4_factor_109 (tgt := 118) rfl (fun h14 => ?_) (fun h14 => ?_)
        · have hF := hF.1 h14
          refine k_ld hK 2 dX4_factor_118 rfl rfl rfl rfl ?_
          refine k_gR hK dX4_factor_119 lf_X4_29 rfl (sc_2 hs) (sf_2_0 hs) ?_
          refine k_cVc hK dX4_factor_122 (Or.inl lm_X4_75) (As := []) (S := []) rfl (sc_7 hs) (Nat.le_of_ble_eq_true rfl) (fit_0 rfl rfl) rfl hF (fun u15 I16 hF => ?_)
          show K _ _ [] _ _ _
          refine k_ld hK 1 dX4_factor_125 rfl rfl rfl rfl ?_
          refine k_ic hK dX4_factor_126 ci_m1 ?_
          refine k_ceq hK dX4_factor_127 (tgt := 146) rfl (fun h17 => ?_) (fun h17 => ?_)
          · have hF := hF.1 h17
            exact k_sub hK [2, 1, 0] rfl hF
          · have hF := hF.2 h17
            refine k_ld hK 2 dX4_factor_130 rfl rfl rfl rfl ?_
            refine k_bi hK dX4_factor_131 cb_91 ?_
            refine k_bi hK dX4_factor_133 cb_93 ?_
            refine k_ld hK 3 dX4_factor_135 rfl rfl rfl rfl ?_
            refine k_ic hK dX4_factor_136 ci_1 ?_
            refine k_op hK dX4_factor_137 rfl rfl ?_
            refine k_cVc hK dX4_factor_138 (Or.inl lm_X4_158) (As := [.int 91, .int 93, .int (x1 + 1)]) (S := []) rfl (sc_2 hs) (Nat.le_of_ble_eq_true rfl) (fit_0 rfl rfl) rfl hF (fun b18 I19 hF => ?_)
            show K _ _ [.int (b2i b18)] _ _ _
            refine k_bne hK dX4_factor_141 (tgt := 146) rfl (fun h20 => ?_) (fun h20 => ?_)
            · have hF := hF.1 h20
              exact k_sub hK [2, 1, 0] rfl hF
            · have hF := hF.2 h20
              refine k_ic hK dX4_factor_144 ci_0 ?_
              exact k_iret (x := b2i false) hK dX4_factor_145 rfl (b2i_nar _) (done_0 rfl rfl) (qC_i hF)
        · have hF := hF.2 h14
          refine k_ld hK 2 dX4_factor_112 rfl rfl rfl rfl ?_
          refine k_ic hK dX4_factor_113 ci_1 ?_
          refine k_cVc hK dX4_factor_114 (Or.inl lm_X4_71) (As := [.int 1]) (S := []) rfl (sc_2 hs) (Nat.le_of_ble_eq_true rfl) (fit_0 rfl rfl) rfl hF (fun b21 I22 hF => ?_)
          show K _ _ [.int (b2i b21)] _ _ _
          exact k_iret (x := b2i b21) hK dX4_factor_117 rfl (b2i_nar _) (done_0 rfl rfl) (qC_i hF)
    · have hF := hF.2 h3
      refine k_ld hK 0 dX4_factor_65 rfl rfl rfl rfl ?_
      refine k_bi hK dX4_factor_66 cb_40 ?_
      refine k_bi hK dX4_factor_68 cb_41 ?_
      refine k_ld hK 1 dX4_factor_70 rfl rfl rfl rfl ?_
      refine k_ic hK dX4_factor_71 ci_1 ?_
      refine k_op hK dX4_factor_72 rfl rfl ?_
      refine k_cVc hK dX4_factor_73 (Or.inl lm_X4_158) (As := [.int 40, .int 41, .int (x1 + 1)]) (S := []) rfl (sc_2 hs) (Nat.le_of_ble_eq_true rfl) (fit_0 rfl rfl) rfl hF (fun b23 I24 hF => ?_)
      show K _ _ [.int (b2i b23)] _ _ _
      exact k_iret (x := b2i b23) hK dX4_factor_76 rfl (b2i_nar _) (done_0 rfl rfl) (qC_i hF)
  · have hF := hF.2 h1
    refine k_ld hK 0 dX4_factor_11 rfl rfl rfl rfl ?_
    refine k_gR hK dX4_factor_12 lf_X4_29 rfl (sc_2 hs) (sf_2_0 hs) ?_
    refine k_gI hK dX4_factor_15 lf_X4_84 rfl (sc_7 hs) rfl ?_
    refine k_si hK dX4_factor_18 cs_9999 ?_
    refine k_cle hK dX4_factor_21 (tgt := 30) rfl (fun h25 => ?_) (fun h25 => ?_)
    · have hF := hF.1 h25
      refine k_ld hK 0 dX4_factor_30 rfl rfl rfl rfl ?_
      obtain ⟨p26, e27, h_p26, hF⟩ := hF
      refine k_gR hK dX4_factor_31 lf_X4_33 rfl (sc_2 hs) e27 ?_
      refine k_ic hK dX4_factor_34 ci_0 ?_
      refine k_ld hK 0 dX4_factor_35 rfl rfl rfl rfl ?_
      refine k_gR hK dX4_factor_36 lf_X4_29 rfl (sc_2 hs) (sf_2_0 hs) ?_
      refine k_gI hK dX4_factor_39 lf_X4_84 rfl (sc_7 hs) rfl ?_
      refine k_ic hK dX4_factor_42 ci_0 ?_
      refine k_cVc hK dX4_factor_43 (Or.inl lm_X4_165) (As := [.int 0, .int (I 7 4), .int 0]) (S := []) rfl (sk_X5_0 hs h_p26) (Nat.le_of_ble_eq_true rfl) (fit_0 rfl rfl) rfl hF (fun u28 I29 hF => ?_)
      show K _ _ [] _ _ _
      refine k_ld hK 0 dX4_factor_46 rfl rfl rfl rfl ?_
      refine k_gR hK dX4_factor_47 lf_X4_29 rfl (sc_2 hs) (sf_2_0 hs) ?_
      refine k_cVc hK dX4_factor_50 (Or.inl lm_X4_75) (As := []) (S := []) rfl (sc_7 hs) (Nat.le_of_ble_eq_true rfl) (fit_0 rfl rfl) rfl hF (fun u30 I31 hF => ?_)
      show K _ _ [] _ _ _
      refine k_ic hK dX4_factor_53 ci_1 ?_
      exact k_iret (x := b2i true) hK dX4_factor_54 rfl (b2i_nar _) (done_0 rfl rfl) (qC_i hF)
    · have hF := hF.2 h25
      refine k_ld hK 0 dX4_factor_24 rfl rfl rfl rfl ?_
      refine k_ic hK dX4_factor_25 ci_2 ?_
      refine k_cVc hK dX4_factor_26 (Or.inl lm_X4_71) (As := [.int 2]) (S := []) rfl (sc_2 hs) (Nat.le_of_ble_eq_true rfl) (fit_0 rfl rfl) rfl hF (fun b32 I33 hF => ?_)
      show K _ _ [.int (b2i b32)] _ _ _
      exact k_iret (x := b2i b32) hK dX4_factor_29 rfl (b2i_nar _) (done_0 rfl rfl) (qC_i hF)
set_option maxHeartbeats 4000000 in
theorem g_X4_factor_146 {d : Nat} {K : KT} {Q : Bool → HI → Prop} {I : HI} {J : HJ} {R : HR} {x2 : Int32} {x3 : Int32} (hK : am_R M_X4_factor (am_W d) none R (qC fb J R Q) K) (hs : Stat R)  (hF : (∃ p1 : Nat, (R 2 1) = some p1 ∧ isX5 p1 ∧ ((¬ x2 = (-1) → ((¬ x2 = (-1) → Wc fv d M_X5_emit [.ref p1, .int 2, .int x2, .int 0] I J R (fun u5 I6 => Q true I6)) ∧ (x2 = (-1) → Wc fv d M_X5_emit [.ref p1, .int 2, .int x3, .int 0] I J R (fun u7 I8 => Q true I8)))) ∧ (x2 = (-1) → ((¬ x2 = (-1) → Wc fv d M_X5_emit [.ref p1, .int 1, .int x2, .int 0] I J R (fun u10 I11 => Q true I11)) ∧ (x2 = (-1) → Wc fv d M_X5_emit [.ref p1, .int 1, .int x3, .int 0] I J R (fun u12 I13 => Q true I13))))))) : K 146 [(0, .ref 2), (2, .int x2), (3, .int x3)] [] I J R := by
  refine k_ld hK 0 dX4_factor_146 rfl rfl rfl rfl ?_
  obtain ⟨p1, e2, h_p1, hF⟩ := hF
  refine k_gR hK dX4_factor_147 lf_X4_33 rfl (sc_2 hs) e2 ?_
  refine k_ld hK 1 dX4_factor_150 rfl rfl rfl rfl ?_
  refine k_ic hK dX4_factor_151 ci_m1 ?_
  refine k_cne hK dX4_factor_152 (tgt := 159) rfl (fun h3 => ?_) (fun h3 => ?_)
  · have hF := hF.1 h3
    refine k_ic hK dX4_factor_159 ci_2 ?_
    refine k_ld hK 1 dX4_factor_160 rfl rfl rfl rfl ?_
    refine k_ic hK dX4_factor_161 ci_m1 ?_
    refine k_cne hK dX4_factor_162 (tgt := 169) rfl (fun h4 => ?_) (fun h4 => ?_)
    · have hF := hF.1 h4
      refine k_ld hK 1 dX4_factor_169 rfl rfl rfl rfl ?_
      refine k_ic hK dX4_factor_170 ci_0 ?_
      refine k_cVc hK dX4_factor_171 (Or.inl lm_X4_165) (As := [.int 2, .int x2, .int 0]) (S := []) rfl (sk_X5_0 hs h_p1) (Nat.le_of_ble_eq_true rfl) (fit_0 rfl rfl) rfl hF (fun u5 I6 hF => ?_)
      show K _ _ [] _ _ _
      refine k_ic hK dX4_factor_174 ci_1 ?_
      exact k_iret (x := b2i true) hK dX4_factor_175 rfl (b2i_nar _) (done_0 rfl rfl) (qC_i hF)
    · have hF := hF.2 h4
      refine k_ld hK 2 dX4_factor_165 rfl rfl rfl rfl ?_
      refine k_goto hK dX4_factor_166 (tgt := 170) rfl ?_
      refine k_ic hK dX4_factor_170 ci_0 ?_
      refine k_cVc hK dX4_factor_171 (Or.inl lm_X4_165) (As := [.int 2, .int x3, .int 0]) (S := []) rfl (sk_X5_0 hs h_p1) (Nat.le_of_ble_eq_true rfl) (fit_0 rfl rfl) rfl hF (fun u7 I8 hF => ?_)
      show K _ _ [] _ _ _
      refine k_ic hK dX4_factor_174 ci_1 ?_
      exact k_iret (x := b2i true) hK dX4_factor_175 rfl (b2i_nar _) (done_0 rfl rfl) (qC_i hF)
  · have hF := hF.2 h3
    refine k_ic hK dX4_factor_155 ci_1 ?_
    refine k_goto hK dX4_factor_156 (tgt := 160) rfl ?_
    refine k_ld hK 1 dX4_factor_160 rfl rfl rfl rfl ?_
    refine k_ic hK dX4_factor_161 ci_m1 ?_
    refine k_cne hK dX4_factor_162 (tgt := 169) rfl (fun h9 => ?_) (fun h9 => ?_)
    · have hF := hF.1 h9
      refine k_ld hK 1 dX4_factor_169 rfl rfl rfl rfl ?_
      refine k_ic hK dX4_factor_170 ci_0 ?_
      refine k_cVc hK dX4_factor_171 (Or.inl lm_X4_165) (As := [.int 1, .int x2, .int 0]) (S := []) rfl (sk_X5_0 hs h_p1) (Nat.le_of_ble_eq_true rfl) (fit_0 rfl rfl) rfl hF (fun u10 I11 hF => ?_)
      show K _ _ [] _ _ _
      refine k_ic hK dX4_factor_174 ci_1 ?_
      exact k_iret (x := b2i true) hK dX4_factor_175 rfl (b2i_nar _) (done_0 rfl rfl) (qC_i hF)
    · have hF := hF.2 h9
      refine k_ld hK 2 dX4_factor_165 rfl rfl rfl rfl ?_
      refine k_goto hK dX4_factor_166 (tgt := 170) rfl ?_
      refine k_ic hK dX4_factor_170 ci_0 ?_
      refine k_cVc hK dX4_factor_171 (Or.inl lm_X4_165) (As := [.int 1, .int x3, .int 0]) (S := []) rfl (sk_X5_0 hs h_p1) (Nat.le_of_ble_eq_true rfl) (fit_0 rfl rfl) rfl hF (fun u12 I13 hF => ?_)
      show K _ _ [] _ _ _
      refine k_ic hK dX4_factor_174 ci_1 ?_
      exact k_iret (x := b2i true) hK dX4_factor_175 rfl (b2i_nar _) (done_0 rfl rfl) (qC_i hF)
set_option maxHeartbeats 4000000 in
theorem g_X4_bracket_0 {d : Nat} {K : KT} {Q : Bool → HI → Prop} {I : HI} {J : HJ} {R : HR} {x1 : Int32} {x2 : Int32} {x3 : Int32} (hK : am_R M_X4_bracket (am_W d) none R (qC fb J R Q) K) (hs : Stat R)  (hF : Wp fb d M_X6_isSign [.ref 7, .int x1] I J R (fun b1 => ((b1 = true → ((x3 ≤ 8 → Wc fv d M_X6_advance [.ref 7] I J R (fun u4 I5 => Wc fb d M_X4_expression [.ref 2, .int x3] I5 J R (fun b6 I7 => ((b6 = true → Wp fb d M_X6_isSign [.ref 7, .int x2] I7 J R (fun b9 => ((b9 = true → Wc fv d M_X6_advance [.ref 7] I7 J R (fun u11 I12 => Q true I12)) ∧ (b9 = false → Wc fb d M_X4_fail [.ref 2, .int 1] I7 J R (fun b13 I14 => Q b13 I14))))) ∧ (b6 = false → Q false I7))))) ∧ (¬ x3 ≤ 8 → Wc fb d M_X4_fail [.ref 2, .int 2] I J R (fun b15 I16 => Q b15 I16)))) ∧ (b1 = false → Wc fb d M_X4_fail [.ref 2, .int 1] I J R (fun b17 I18 => Q b17 I18))))) : K 0 [(0, .ref 2), (1, .int x1), (2, .int x2), (3, .int x3)] [] I J R := by
  refine k_ld hK 0 dX4_bracket_0 rfl rfl rfl rfl ?_
  refine k_gR hK dX4_bracket_1 lf_X4_29 rfl (sc_2 hs) (sf_2_0 hs) ?_
  refine k_ld hK 1 dX4_bracket_4 rfl rfl rfl rfl ?_
  refine k_cVp hK dX4_bracket_5 (Or.inl lm_X4_67) (As := [.int x1]) (S := []) rfl (sc_7 hs) (Nat.le_of_ble_eq_true rfl) (fit_0 rfl rfl) rfl hF (fun b1 hF => ?_)
  show K _ _ [.int (b2i b1)] _ _ _
  refine k_bne hK dX4_bracket_8 (tgt := 17) rfl (fun h2 => ?_) (fun h2 => ?_)
  · have hF := hF.1 h2
    refine k_ld hK 3 dX4_bracket_17 rfl rfl rfl rfl ?_
    refine k_bi hK dX4_bracket_18 cb_8 ?_
    refine k_cle hK dX4_bracket_20 (tgt := 29) rfl (fun h3 => ?_) (fun h3 => ?_)
    · have hF := hF.1 h3
      refine k_ld hK 0 dX4_bracket_29 rfl rfl rfl rfl ?_
      refine k_gR hK dX4_bracket_30 lf_X4_29 rfl (sc_2 hs) (sf_2_0 hs) ?_
      refine k_cVc hK dX4_bracket_33 (Or.inl lm_X4_75) (As := []) (S := []) rfl (sc_7 hs) (Nat.le_of_ble_eq_true rfl) (fit_0 rfl rfl) rfl hF (fun u4 I5 hF => ?_)
      show K _ _ [] _ _ _
      refine k_ld hK 0 dX4_bracket_36 rfl rfl rfl rfl ?_
      refine k_ld hK 3 dX4_bracket_37 rfl rfl rfl rfl ?_
      refine k_cVc hK dX4_bracket_38 (Or.inl lm_X4_162) (As := [.int x3]) (S := []) rfl (sc_2 hs) (Nat.le_of_ble_eq_true rfl) (fit_0 rfl rfl) rfl hF (fun b6 I7 hF => ?_)
      show K _ _ [.int (b2i b6)] _ _ _
      refine k_bne hK dX4_bracket_41 (tgt := 46) rfl (fun h8 => ?_) (fun h8 => ?_)
      · have hF := hF.1 h8
        refine k_ld hK 0 dX4_bracket_46 rfl rfl rfl rfl ?_
        refine k_gR hK dX4_bracket_47 lf_X4_29 rfl (sc_2 hs) (sf_2_0 hs) ?_
        refine k_ld hK 2 dX4_bracket_50 rfl rfl rfl rfl ?_
        refine k_cVp hK dX4_bracket_51 (Or.inl lm_X4_67) (As := [.int x2]) (S := []) rfl (sc_7 hs) (Nat.le_of_ble_eq_true rfl) (fit_0 rfl rfl) rfl hF (fun b9 hF => ?_)
        show K _ _ [.int (b2i b9)] _ _ _
        refine k_bne hK dX4_bracket_54 (tgt := 63) rfl (fun h10 => ?_) (fun h10 => ?_)
        · have hF := hF.1 h10
          refine k_ld hK 0 dX4_bracket_63 rfl rfl rfl rfl ?_
          refine k_gR hK dX4_bracket_64 lf_X4_29 rfl (sc_2 hs) (sf_2_0 hs) ?_
          refine k_cVc hK dX4_bracket_67 (Or.inl lm_X4_75) (As := []) (S := []) rfl (sc_7 hs) (Nat.le_of_ble_eq_true rfl) (fit_0 rfl rfl) rfl hF (fun u11 I12 hF => ?_)
          show K _ _ [] _ _ _
          refine k_ic hK dX4_bracket_70 ci_1 ?_
          exact k_iret (x := b2i true) hK dX4_bracket_71 rfl (b2i_nar _) (done_0 rfl rfl) (qC_i hF)
        · have hF := hF.2 h10
          refine k_ld hK 0 dX4_bracket_57 rfl rfl rfl rfl ?_
          refine k_ic hK dX4_bracket_58 ci_1 ?_
          refine k_cVc hK dX4_bracket_59 (Or.inl lm_X4_71) (As := [.int 1]) (S := []) rfl (sc_2 hs) (Nat.le_of_ble_eq_true rfl) (fit_0 rfl rfl) rfl hF (fun b13 I14 hF => ?_)
          show K _ _ [.int (b2i b13)] _ _ _
          exact k_iret (x := b2i b13) hK dX4_bracket_62 rfl (b2i_nar _) (done_0 rfl rfl) (qC_i hF)
      · have hF := hF.2 h8
        refine k_ic hK dX4_bracket_44 ci_0 ?_
        exact k_iret (x := b2i false) hK dX4_bracket_45 rfl (b2i_nar _) (done_0 rfl rfl) (qC_i hF)
    · have hF := hF.2 h3
      refine k_ld hK 0 dX4_bracket_23 rfl rfl rfl rfl ?_
      refine k_ic hK dX4_bracket_24 ci_2 ?_
      refine k_cVc hK dX4_bracket_25 (Or.inl lm_X4_71) (As := [.int 2]) (S := []) rfl (sc_2 hs) (Nat.le_of_ble_eq_true rfl) (fit_0 rfl rfl) rfl hF (fun b15 I16 hF => ?_)
      show K _ _ [.int (b2i b15)] _ _ _
      exact k_iret (x := b2i b15) hK dX4_bracket_28 rfl (b2i_nar _) (done_0 rfl rfl) (qC_i hF)
  · have hF := hF.2 h2
    refine k_ld hK 0 dX4_bracket_11 rfl rfl rfl rfl ?_
    refine k_ic hK dX4_bracket_12 ci_1 ?_
    refine k_cVc hK dX4_bracket_13 (Or.inl lm_X4_71) (As := [.int 1]) (S := []) rfl (sc_2 hs) (Nat.le_of_ble_eq_true rfl) (fit_0 rfl rfl) rfl hF (fun b17 I18 hF => ?_)
    show K _ _ [.int (b2i b17)] _ _ _
    exact k_iret (x := b2i b17) hK dX4_bracket_16 rfl (b2i_nar _) (done_0 rfl rfl) (qC_i hF)
theorem e_X4_bracket {d : Nat} {Q : Bool → HI → Prop} {I : HI} {J : HJ} {R : HR} {x1 : Int32} {x2 : Int32} {x3 : Int32} (hs : Stat R)  (hF : Wp fb d M_X6_isSign [.ref 7, .int x1] I J R (fun b1 => ((b1 = true → ((x3 ≤ 8 → Wc fv d M_X6_advance [.ref 7] I J R (fun u4 I5 => Wc fb d M_X4_expression [.ref 2, .int x3] I5 J R (fun b6 I7 => ((b6 = true → Wp fb d M_X6_isSign [.ref 7, .int x2] I7 J R (fun b9 => ((b9 = true → Wc fv d M_X6_advance [.ref 7] I7 J R (fun u11 I12 => Q true I12)) ∧ (b9 = false → Wc fb d M_X4_fail [.ref 2, .int 1] I7 J R (fun b13 I14 => Q b13 I14))))) ∧ (b6 = false → Q false I7))))) ∧ (¬ x3 ≤ 8 → Wc fb d M_X4_fail [.ref 2, .int 2] I J R (fun b15 I16 => Q b15 I16)))) ∧ (b1 = false → Wc fb d M_X4_fail [.ref 2, .int 1] I J R (fun b17 I18 => Q b17 I18))))) : Wc fb (d + 1) M_X4_bracket [.ref 2, .int x1, .int x2, .int x3] I J R Q := ⟨Nat.le_of_ble_eq_true rfl, fun K hK => g_X4_bracket_0 hK hs hF⟩
set_option maxHeartbeats 4000000 in
theorem g_X4_rowOf_0 {d : Nat} {K : KT} {Q : Int32 → Prop} {I : HI} {J : HJ} {R : HR} {x1 : Int32} (hK : am_R M_X4_rowOf (am_W d) none R (qP fi I J R Q) K) (hs : Stat R)  (hF : K 2 [(0, .ref 2), (1, .int x1), (2, .int 0)] [] I J R) : K 0 [(0, .ref 2), (1, .int x1)] [] I J R := by
  refine k_ic hK dX4_rowOf_0 ci_0 ?_
  refine k_st hK dX4_rowOf_1 rfl rfl rfl (Nat.le_of_ble_eq_true rfl) rfl ?_
  exact k_sub hK [1, 2, 0] rfl hF
set_option maxHeartbeats 4000000 in
theorem g_X4_rowOf_2 {d : Nat} {K : KT} {Q : Int32 → Prop} {I : HI} {J : HJ} {R : HR} {x1 : Int32} {x2 : Int32} (hK : am_R M_X4_rowOf (am_W d) none R (qP fi I J R Q) K) (hs : Stat R)  (hF : (∃ p1 : Nat, (R 2 1) = some p1 ∧ isX5 p1 ∧ (((I p1 5) ≤ x2 → Q (-1)) ∧ (¬ (I p1 5) ≤ x2 → ((6 ≤ x2 → Q (-1)) ∧ (¬ 6 ≤ x2 → (∃ n5 : Nat, x2 = nI n5 ∧ n5 < 6 ∧ ((¬ (I 4 n5) = x1 → K 2 [(0, .ref 2), (1, .int x1), (2, .int (x2 + 1))] [] I J R) ∧ ((I 4 n5) = x1 → Q x2))))))))) : K 2 [(0, .ref 2), (1, .int x1), (2, .int x2)] [] I J R := by
  refine k_ld hK 2 dX4_rowOf_2 rfl rfl rfl rfl ?_
  refine k_ld hK 0 dX4_rowOf_3 rfl rfl rfl rfl ?_
  obtain ⟨p1, e2, h_p1, hF⟩ := hF
  refine k_gR hK dX4_rowOf_4 lf_X4_33 rfl (sc_2 hs) e2 ?_
  refine k_gI hK dX4_rowOf_7 lf_X4_132 rfl (sk_X5_0 hs h_p1) rfl ?_
  refine k_cge hK dX4_rowOf_10 (tgt := 37) rfl (fun h3 => ?_) (fun h3 => ?_)
  · have hF := hF.1 h3
    refine k_ic hK dX4_rowOf_37 ci_m1 ?_
    exact k_iret hK dX4_rowOf_38 rfl rfl (done_0 rfl rfl) (qP_i hF)
  · have hF := hF.2 h3
    refine k_ld hK 2 dX4_rowOf_13 rfl rfl rfl rfl ?_
    refine k_bi hK dX4_rowOf_14 cb_6 ?_
    refine k_cge hK dX4_rowOf_16 (tgt := 37) rfl (fun h4 => ?_) (fun h4 => ?_)
    · have hF := hF.1 h4
      refine k_ic hK dX4_rowOf_37 ci_m1 ?_
      exact k_iret hK dX4_rowOf_38 rfl rfl (done_0 rfl rfl) (qP_i hF)
    · have hF := hF.2 h4
      refine k_ld hK 0 dX4_rowOf_19 rfl rfl rfl rfl ?_
      refine k_gR hK dX4_rowOf_20 lf_X4_15 rfl (sc_2 hs) (sf_2_3 hs) ?_
      refine k_ld hK 2 dX4_rowOf_23 rfl rfl rfl rfl ?_
      obtain ⟨n5, i6, j7, hF⟩ := hF
      refine k_iald hK dX4_rowOf_24 (sc_4 hs) sn_4 (by decide) i6 j7 rfl ?_
      refine k_ld hK 1 dX4_rowOf_25 rfl rfl rfl rfl ?_
      refine k_cne hK dX4_rowOf_26 (tgt := 31) rfl (fun h8 => ?_) (fun h8 => ?_)
      · have hF := hF.1 h8
        refine k_iinc hK 2 dX4_rowOf_31 (v := (x2 + 1)) rfl (Nat.le_of_ble_eq_true rfl) (congrArg (fun q => x2 + q) ci_1) rfl ?_
        refine k_goto hK dX4_rowOf_34 (tgt := 2) rfl ?_
        exact k_sub hK [1, 2, 0] rfl hF
      · have hF := hF.2 h8
        refine k_ld hK 2 dX4_rowOf_29 rfl rfl rfl rfl ?_
        exact k_iret hK dX4_rowOf_30 rfl rfl (done_0 rfl rfl) (qP_i hF)
set_option maxHeartbeats 4000000 in
theorem g_X4_variableOf_0 {d : Nat} {K : KT} {Q : Int32 → HI → Prop} {I : HI} {J : HJ} {R : HR} {x1 : Int32} {y2 : Bool} (hK : am_R M_X4_variableOf (am_W d) none R (qC fi J R Q) K) (hs : Stat R)  (hF : (∃ p1 : Nat, (R 2 1) = some p1 ∧ isX5 p1 ∧ K 11 [(0, .ref 2), (1, .int x1), (2, .int (b2i y2)), (3, .int (I p1 4)), (4, .int 0)] [] I J R)) : K 0 [(0, .ref 2), (1, .int x1), (2, .int (b2i y2))] [] I J R := by
  refine k_ld hK 0 dX4_variableOf_0 rfl rfl rfl rfl ?_
  obtain ⟨p1, e2, h_p1, hF⟩ := hF
  refine k_gR hK dX4_variableOf_1 lf_X4_33 rfl (sc_2 hs) e2 ?_
  refine k_gI hK dX4_variableOf_4 lf_X4_184 rfl (sk_X5_0 hs h_p1) rfl ?_
  refine k_st hK dX4_variableOf_7 rfl rfl rfl (Nat.le_of_ble_eq_true rfl) rfl ?_
  refine k_ic hK dX4_variableOf_8 ci_0 ?_
  refine k_st hK dX4_variableOf_9 rfl rfl rfl (Nat.le_of_ble_eq_true rfl) rfl ?_
  exact k_sub hK [2, 3, 4, 1, 0] rfl hF
set_option maxHeartbeats 4000000 in
theorem g_X4_variableOf_11 {d : Nat} {K : KT} {Q : Int32 → HI → Prop} {I : HI} {J : HJ} {R : HR} {x1 : Int32} {y2 : Bool} {x3 : Int32} {x4 : Int32} (hK : am_R M_X4_variableOf (am_W d) none R (qC fi J R Q) K) (hs : Stat R)  (hF : ((x3 ≤ x4 → K 44 [(0, .ref 2), (1, .int x1), (2, .int (b2i y2)), (3, .int x3)] [] I J R) ∧ (¬ x3 ≤ x4 → ((8 ≤ x4 → K 44 [(0, .ref 2), (1, .int x1), (2, .int (b2i y2)), (3, .int x3)] [] I J R) ∧ (¬ 8 ≤ x4 → (∃ n3 : Nat, x4 = nI n3 ∧ n3 < 8 ∧ ((¬ (I 3 n3) = x1 → K 11 [(0, .ref 2), (1, .int x1), (2, .int (b2i y2)), (3, .int x3), (4, .int (x4 + 1))] [] I J R) ∧ ((I 3 n3) = x1 → Q x4 I)))))))) : K 11 [(0, .ref 2), (1, .int x1), (2, .int (b2i y2)), (3, .int x3), (4, .int x4)] [] I J R := by
  refine k_ld hK 4 dX4_variableOf_11 rfl rfl rfl rfl ?_
  refine k_ld hK 3 dX4_variableOf_13 rfl rfl rfl rfl ?_
  refine k_cge hK dX4_variableOf_14 (tgt := 44) rfl (fun h1 => ?_) (fun h1 => ?_)
  · have hF := hF.1 h1
    exact k_sub hK [0, 1, 2, 3] rfl hF
  · have hF := hF.2 h1
    refine k_ld hK 4 dX4_variableOf_17 rfl rfl rfl rfl ?_
    refine k_bi hK dX4_variableOf_19 cb_8 ?_
    refine k_cge hK dX4_variableOf_21 (tgt := 44) rfl (fun h2 => ?_) (fun h2 => ?_)
    · have hF := hF.1 h2
      exact k_sub hK [0, 1, 2, 3] rfl hF
    · have hF := hF.2 h2
      refine k_ld hK 0 dX4_variableOf_24 rfl rfl rfl rfl ?_
      refine k_gR hK dX4_variableOf_25 lf_X4_9 rfl (sc_2 hs) (sf_2_2 hs) ?_
      refine k_ld hK 4 dX4_variableOf_28 rfl rfl rfl rfl ?_
      obtain ⟨n3, i4, j5, hF⟩ := hF
      refine k_iald hK dX4_variableOf_30 (sc_3 hs) sn_3 (by decide) i4 j5 rfl ?_
      refine k_ld hK 1 dX4_variableOf_31 rfl rfl rfl rfl ?_
      refine k_cne hK dX4_variableOf_32 (tgt := 38) rfl (fun h6 => ?_) (fun h6 => ?_)
      · have hF := hF.1 h6
        refine k_iinc hK 4 dX4_variableOf_38 (v := (x4 + 1)) rfl (Nat.le_of_ble_eq_true rfl) (congrArg (fun q => x4 + q) ci_1) rfl ?_
        refine k_goto hK dX4_variableOf_41 (tgt := 11) rfl ?_
        exact k_sub hK [1, 2, 3, 4, 0] rfl hF
      · have hF := hF.2 h6
        refine k_ld hK 4 dX4_variableOf_35 rfl rfl rfl rfl ?_
        exact k_iret hK dX4_variableOf_37 rfl rfl (done_0 rfl rfl) (qC_i hF)
set_option maxHeartbeats 4000000 in
theorem g_X4_variableOf_44 {d : Nat} {K : KT} {Q : Int32 → HI → Prop} {I : HI} {J : HJ} {R : HR} {x1 : Int32} {y2 : Bool} {x3 : Int32} (hK : am_R M_X4_variableOf (am_W d) none R (qC fi J R Q) K) (hs : Stat R)  (hF : ((y2 = false → Q (-1) I) ∧ (y2 = true → ((x3 < 0 → Q (-1) I) ∧ (¬ x3 < 0 → ((x3 < 8 → (∃ n4 : Nat, x3 = nI n4 ∧ n4 < 8 ∧ (∃ p7 : Nat, (R 2 1) = some p7 ∧ isX5 p7 ∧ Q x3 (up (up I 3 n4 x1) p7 4 (x3 + 1))))) ∧ (¬ x3 < 8 → Q (-1) I))))))) : K 44 [(0, .ref 2), (1, .int x1), (2, .int (b2i y2)), (3, .int x3)] [] I J R := by
  refine k_ld hK 2 dX4_variableOf_44 rfl rfl rfl rfl ?_
  refine k_beq hK dX4_variableOf_45 (tgt := 58) rfl (fun h1 => ?_) (fun h1 => ?_)
  · have hF := hF.1 h1
    refine k_ic hK dX4_variableOf_58 ci_m1 ?_
    exact k_iret hK dX4_variableOf_59 rfl rfl (done_0 rfl rfl) (qC_i hF)
  · have hF := hF.2 h1
    refine k_ld hK 3 dX4_variableOf_48 rfl rfl rfl rfl ?_
    refine k_lt hK dX4_variableOf_49 (tgt := 58) rfl (fun h2 => ?_) (fun h2 => ?_)
    · have hF := hF.1 h2
      refine k_ic hK dX4_variableOf_58 ci_m1 ?_
      exact k_iret hK dX4_variableOf_59 rfl rfl (done_0 rfl rfl) (qC_i hF)
    · have hF := hF.2 h2
      refine k_ld hK 3 dX4_variableOf_52 rfl rfl rfl rfl ?_
      refine k_bi hK dX4_variableOf_53 cb_8 ?_
      refine k_clt hK dX4_variableOf_55 (tgt := 60) rfl (fun h3 => ?_) (fun h3 => ?_)
      · have hF := hF.1 h3
        refine k_ld hK 0 dX4_variableOf_60 rfl rfl rfl rfl ?_
        refine k_gR hK dX4_variableOf_61 lf_X4_9 rfl (sc_2 hs) (sf_2_2 hs) ?_
        refine k_ld hK 3 dX4_variableOf_64 rfl rfl rfl rfl ?_
        refine k_ld hK 1 dX4_variableOf_65 rfl rfl rfl rfl ?_
        obtain ⟨n4, i5, j6, hF⟩ := hF
        refine k_iast hK dX4_variableOf_66 (sc_3 hs) sn_3 (by decide) i5 j6 ?_
        refine k_ld hK 0 dX4_variableOf_67 rfl rfl rfl rfl ?_
        obtain ⟨p7, e8, h_p7, hF⟩ := hF
        refine k_gR hK dX4_variableOf_68 lf_X4_33 rfl (sc_2 hs) e8 ?_
        refine k_ld hK 3 dX4_variableOf_71 rfl rfl rfl rfl ?_
        refine k_ic hK dX4_variableOf_72 ci_1 ?_
        refine k_op hK dX4_variableOf_73 rfl rfl ?_
        refine k_pI hK dX4_variableOf_74 lf_X4_184 rfl rfl rfl (sk_X5_0 hs h_p7) ?_
        refine k_ld hK 3 dX4_variableOf_77 rfl rfl rfl rfl ?_
        exact k_iret hK dX4_variableOf_78 rfl rfl (done_0 rfl rfl) (qC_i hF)
      · have hF := hF.2 h3
        refine k_ic hK dX4_variableOf_58 ci_m1 ?_
        exact k_iret hK dX4_variableOf_59 rfl rfl (done_0 rfl rfl) (qC_i hF)
set_option maxHeartbeats 4000000 in
theorem g_X6_start_0 {d : Nat} {K : KT} {Q : Unit → HI → Prop} {I : HI} {J : HJ} {R : HR} {x1 : Int32} (hK : am_R M_X6_start (am_W d) none R (qC fv J R Q) K) (hs : Stat R)  (hF : ((900 ≤ x1 → Wc fv d M_X6_advance [.ref 7] (up (up I 7 1 900) 7 2 0) J R (fun u2 I3 => Q () I3)) ∧ (¬ 900 ≤ x1 → Wc fv d M_X6_advance [.ref 7] (up (up I 7 1 x1) 7 2 0) J R (fun u4 I5 => Q () I5)))) : K 0 [(0, .ref 7), (1, .int x1)] [] I J R := by
  refine k_ld hK 0 dX6_start_0 rfl rfl rfl rfl ?_
  refine k_ld hK 1 dX6_start_1 rfl rfl rfl rfl ?_
  refine k_ld hK 0 dX6_start_2 rfl rfl rfl rfl ?_
  refine k_gR hK dX6_start_3 lf_X6_9 rfl (sc_7 hs) (sf_7_0 hs) ?_
  refine k_alen hK dX6_start_6 (Or.inl (sc_1 hs)) sn_1 cn_900 ?_
  refine k_cge hK dX6_start_7 (tgt := 14) rfl (fun h1 => ?_) (fun h1 => ?_)
  · have hF := hF.1 h1
    refine k_ld hK 0 dX6_start_14 rfl rfl rfl rfl ?_
    refine k_gR hK dX6_start_15 lf_X6_9 rfl (sc_7 hs) (sf_7_0 hs) ?_
    refine k_alen hK dX6_start_18 (Or.inl (sc_1 hs)) sn_1 cn_900 ?_
    refine k_pI hK dX6_start_19 lf_X6_15 rfl rfl rfl (sc_7 hs) ?_
    refine k_ld hK 0 dX6_start_22 rfl rfl rfl rfl ?_
    refine k_ic hK dX6_start_23 ci_0 ?_
    refine k_pI hK dX6_start_24 lf_X6_19 rfl rfl rfl (sc_7 hs) ?_
    refine k_ld hK 0 dX6_start_27 rfl rfl rfl rfl ?_
    refine k_cVc hK dX6_start_28 (Or.inl lm_X6_22) (As := []) (S := []) rfl (sc_7 hs) (Nat.le_of_ble_eq_true rfl) (fit_0 rfl rfl) rfl hF (fun u2 I3 hF => ?_)
    show K _ _ [] _ _ _
    exact k_vret hK dX6_start_31 rfl (done_0 rfl rfl) (qC_i hF)
  · have hF := hF.2 h1
    refine k_ld hK 1 dX6_start_10 rfl rfl rfl rfl ?_
    refine k_goto hK dX6_start_11 (tgt := 19) rfl ?_
    refine k_pI hK dX6_start_19 lf_X6_15 rfl rfl rfl (sc_7 hs) ?_
    refine k_ld hK 0 dX6_start_22 rfl rfl rfl rfl ?_
    refine k_ic hK dX6_start_23 ci_0 ?_
    refine k_pI hK dX6_start_24 lf_X6_19 rfl rfl rfl (sc_7 hs) ?_
    refine k_ld hK 0 dX6_start_27 rfl rfl rfl rfl ?_
    refine k_cVc hK dX6_start_28 (Or.inl lm_X6_22) (As := []) (S := []) rfl (sc_7 hs) (Nat.le_of_ble_eq_true rfl) (fit_0 rfl rfl) rfl hF (fun u4 I5 hF => ?_)
    show K _ _ [] _ _ _
    exact k_vret hK dX6_start_31 rfl (done_0 rfl rfl) (qC_i hF)
theorem e_X6_start {d : Nat} {Q : Unit → HI → Prop} {I : HI} {J : HJ} {R : HR} {x1 : Int32} (hs : Stat R)  (hF : ((900 ≤ x1 → Wc fv d M_X6_advance [.ref 7] (up (up I 7 1 900) 7 2 0) J R (fun u2 I3 => Q () I3)) ∧ (¬ 900 ≤ x1 → Wc fv d M_X6_advance [.ref 7] (up (up I 7 1 x1) 7 2 0) J R (fun u4 I5 => Q () I5)))) : Wc fv (d + 1) M_X6_start [.ref 7, .int x1] I J R Q := ⟨Nat.le_of_ble_eq_true rfl, fun K hK => g_X6_start_0 hK hs hF⟩
set_option maxHeartbeats 4000000 in
theorem g_X6_advance_0 {d : Nat} {K : KT} {Q : Unit → HI → Prop} {I : HI} {J : HJ} {R : HR}  (hK : am_R M_X6_advance (am_W d) none R (qC fv J R Q) K) (hs : Stat R)  (hF : (((I 7 1) ≤ (I 7 2) → K 52 [(0, .ref 7)] [] I J R) ∧ (¬ (I 7 1) ≤ (I 7 2) → (∃ n2 : Nat, (I 7 2) = nI n2 ∧ n2 < 900 ∧ (((I 1 n2) = 32 → K 0 [(0, .ref 7)] [] (up I 7 2 ((I 7 2) + 1)) J R) ∧ (¬ (I 1 n2) = 32 → ((¬ (I 1 n2) = 10 → K 52 [(0, .ref 7)] [] I J R) ∧ ((I 1 n2) = 10 → K 0 [(0, .ref 7)] [] (up I 7 2 ((I 7 2) + 1)) J R)))))))) : K 0 [(0, .ref 7)] [] I J R := by
  refine k_ld hK 0 dX6_advance_0 rfl rfl rfl rfl ?_
  refine k_gI hK dX6_advance_1 lf_X6_19 rfl (sc_7 hs) rfl ?_
  refine k_ld hK 0 dX6_advance_4 rfl rfl rfl rfl ?_
  refine k_gI hK dX6_advance_5 lf_X6_15 rfl (sc_7 hs) rfl ?_
  refine k_cge hK dX6_advance_8 (tgt := 52) rfl (fun h1 => ?_) (fun h1 => ?_)
  · have hF := hF.1 h1
    exact k_sub hK [0] rfl hF
  · have hF := hF.2 h1
    refine k_ld hK 0 dX6_advance_11 rfl rfl rfl rfl ?_
    refine k_gR hK dX6_advance_12 lf_X6_9 rfl (sc_7 hs) (sf_7_0 hs) ?_
    refine k_ld hK 0 dX6_advance_15 rfl rfl rfl rfl ?_
    refine k_gI hK dX6_advance_16 lf_X6_19 rfl (sc_7 hs) rfl ?_
    obtain ⟨n2, i3, j4, hF⟩ := hF
    refine k_bald hK dX6_advance_19 (Or.inl (sc_1 hs)) sn_1 (by decide) i3 j4 rfl ?_
    refine k_bi hK dX6_advance_20 cb_32 ?_
    refine k_ceq hK dX6_advance_22 (tgt := 39) rfl (fun h5 => ?_) (fun h5 => ?_)
    · have hF := hF.1 h5
      refine k_ld hK 0 dX6_advance_39 rfl rfl rfl rfl ?_
      refine k_op hK dX6_advance_40 rfl rfl ?_
      refine k_gI hK dX6_advance_41 lf_X6_19 rfl (sc_7 hs) rfl ?_
      refine k_ic hK dX6_advance_44 ci_1 ?_
      refine k_op hK dX6_advance_45 rfl rfl ?_
      refine k_pI hK dX6_advance_46 lf_X6_19 rfl rfl rfl (sc_7 hs) ?_
      refine k_goto hK dX6_advance_49 (tgt := 0) rfl ?_
      exact k_sub hK [0] rfl hF
    · have hF := hF.2 h5
      refine k_ld hK 0 dX6_advance_25 rfl rfl rfl rfl ?_
      refine k_gR hK dX6_advance_26 lf_X6_9 rfl (sc_7 hs) (sf_7_0 hs) ?_
      refine k_ld hK 0 dX6_advance_29 rfl rfl rfl rfl ?_
      refine k_gI hK dX6_advance_30 lf_X6_19 rfl (sc_7 hs) rfl ?_
      refine k_bald hK dX6_advance_33 (Or.inl (sc_1 hs)) sn_1 (by decide) i3 j4 rfl ?_
      refine k_bi hK dX6_advance_34 cb_10 ?_
      refine k_cne hK dX6_advance_36 (tgt := 52) rfl (fun h6 => ?_) (fun h6 => ?_)
      · have hF := hF.1 h6
        exact k_sub hK [0] rfl hF
      · have hF := hF.2 h6
        refine k_ld hK 0 dX6_advance_39 rfl rfl rfl rfl ?_
        refine k_op hK dX6_advance_40 rfl rfl ?_
        refine k_gI hK dX6_advance_41 lf_X6_19 rfl (sc_7 hs) rfl ?_
        refine k_ic hK dX6_advance_44 ci_1 ?_
        refine k_op hK dX6_advance_45 rfl rfl ?_
        refine k_pI hK dX6_advance_46 lf_X6_19 rfl rfl rfl (sc_7 hs) ?_
        refine k_goto hK dX6_advance_49 (tgt := 0) rfl ?_
        exact k_sub hK [0] rfl hF
set_option maxHeartbeats 4000000 in
theorem g_X6_advance_52 {d : Nat} {K : KT} {Q : Unit → HI → Prop} {I : HI} {J : HJ} {R : HR}  (hK : am_R M_X6_advance (am_W d) none R (qC fv J R Q) K) (hs : Stat R)  (hF : (((I 7 2) < (I 7 1) → (∃ n2 : Nat, (I 7 2) = nI n2 ∧ n2 < 900 ∧ (((I 1 n2) < 97 → K 220 [(0, .ref 7)] [] (up (up I 7 5 (I 7 2)) 7 4 0) J R) ∧ (¬ (I 1 n2) < 97 → ((122 < (I 1 n2) → K 220 [(0, .ref 7)] [] (up (up I 7 5 (I 7 2)) 7 4 0) J R) ∧ (¬ 122 < (I 1 n2) → K 117 [(0, .ref 7)] [] (up (up (up I 7 5 (I 7 2)) 7 4 0) 7 3 1) J R)))))) ∧ (¬ (I 7 2) < (I 7 1) → Q () (up (up (up I 7 5 (I 7 2)) 7 4 0) 7 3 0)))) : K 52 [(0, .ref 7)] [] I J R := by
  refine k_ld hK 0 dX6_advance_52 rfl rfl rfl rfl ?_
  refine k_ld hK 0 dX6_advance_53 rfl rfl rfl rfl ?_
  refine k_gI hK dX6_advance_54 lf_X6_19 rfl (sc_7 hs) rfl ?_
  refine k_pI hK dX6_advance_57 lf_X6_25 rfl rfl rfl (sc_7 hs) ?_
  refine k_ld hK 0 dX6_advance_60 rfl rfl rfl rfl ?_
  refine k_ic hK dX6_advance_61 ci_0 ?_
  refine k_pI hK dX6_advance_62 lf_X6_28 rfl rfl rfl (sc_7 hs) ?_
  refine k_ld hK 0 dX6_advance_65 rfl rfl rfl rfl ?_
  refine k_gI hK dX6_advance_66 lf_X6_19 rfl (sc_7 hs) ((up_nk (by decide)).trans ((up_nk (by decide)).trans rfl)) ?_
  refine k_ld hK 0 dX6_advance_69 rfl rfl rfl rfl ?_
  refine k_gI hK dX6_advance_70 lf_X6_15 rfl (sc_7 hs) ((up_nk (by decide)).trans ((up_nk (by decide)).trans rfl)) ?_
  refine k_clt hK dX6_advance_73 (tgt := 84) rfl (fun h1 => ?_) (fun h1 => ?_)
  · have hF := hF.1 h1
    refine k_ld hK 0 dX6_advance_84 rfl rfl rfl rfl ?_
    refine k_gR hK dX6_advance_85 lf_X6_9 rfl (sc_7 hs) (sf_7_0 hs) ?_
    refine k_ld hK 0 dX6_advance_88 rfl rfl rfl rfl ?_
    refine k_gI hK dX6_advance_89 lf_X6_19 rfl (sc_7 hs) ((up_nk (by decide)).trans ((up_nk (by decide)).trans rfl)) ?_
    obtain ⟨n2, i3, j4, hF⟩ := hF
    refine k_bald hK dX6_advance_92 (Or.inl (sc_1 hs)) sn_1 (by decide) i3 j4 ((up_na (by decide)).trans ((up_na (by decide)).trans rfl)) ?_
    refine k_bi hK dX6_advance_93 cb_97 ?_
    refine k_clt hK dX6_advance_95 (tgt := 220) rfl (fun h5 => ?_) (fun h5 => ?_)
    · have hF := hF.1 h5
      exact k_sub hK [0] rfl hF
    · have hF := hF.2 h5
      refine k_ld hK 0 dX6_advance_98 rfl rfl rfl rfl ?_
      refine k_gR hK dX6_advance_99 lf_X6_9 rfl (sc_7 hs) (sf_7_0 hs) ?_
      refine k_ld hK 0 dX6_advance_102 rfl rfl rfl rfl ?_
      refine k_gI hK dX6_advance_103 lf_X6_19 rfl (sc_7 hs) ((up_nk (by decide)).trans ((up_nk (by decide)).trans rfl)) ?_
      refine k_bald hK dX6_advance_106 (Or.inl (sc_1 hs)) sn_1 (by decide) i3 j4 ((up_na (by decide)).trans ((up_na (by decide)).trans rfl)) ?_
      refine k_bi hK dX6_advance_107 cb_122 ?_
      refine k_cgt hK dX6_advance_109 (tgt := 220) rfl (fun h6 => ?_) (fun h6 => ?_)
      · have hF := hF.1 h6
        exact k_sub hK [0] rfl hF
      · have hF := hF.2 h6
        refine k_ld hK 0 dX6_advance_112 rfl rfl rfl rfl ?_
        refine k_ic hK dX6_advance_113 ci_1 ?_
        refine k_pI hK dX6_advance_114 lf_X6_31 rfl rfl rfl (sc_7 hs) ?_
        exact k_sub hK [0] rfl hF
  · have hF := hF.2 h1
    refine k_ld hK 0 dX6_advance_76 rfl rfl rfl rfl ?_
    refine k_ic hK dX6_advance_77 ci_0 ?_
    refine k_pI hK dX6_advance_78 lf_X6_31 rfl rfl rfl (sc_7 hs) ?_
    refine k_goto hK dX6_advance_81 (tgt := 381) rfl ?_
    exact k_vret hK dX6_advance_381 rfl (done_0 rfl rfl) (qC_i hF)
set_option maxHeartbeats 4000000 in
theorem g_X6_advance_117 {d : Nat} {K : KT} {Q : Unit → HI → Prop} {I : HI} {J : HJ} {R : HR}  (hK : am_R M_X6_advance (am_W d) none R (qC fv J R Q) K) (hs : Stat R)  (hF : (((I 7 1) ≤ (I 7 2) → K 192 [(0, .ref 7)] [] I J R) ∧ (¬ (I 7 1) ≤ (I 7 2) → (∃ n2 : Nat, (I 7 2) = nI n2 ∧ n2 < 900 ∧ (((I 1 n2) < 97 → K 192 [(0, .ref 7)] [] I J R) ∧ (¬ (I 1 n2) < 97 → ((122 < (I 1 n2) → K 192 [(0, .ref 7)] [] I J R) ∧ (¬ 122 < (I 1 n2) → K 117 [(0, .ref 7)] [] (up (up I 7 4 (((I 7 4) <<< ((5 : Int32) &&& 31) : Int32) ||| ((I 1 n2) - 96))) 7 2 ((I 7 2) + 1)) J R)))))))) : K 117 [(0, .ref 7)] [] I J R := by
  refine k_ld hK 0 dX6_advance_117 rfl rfl rfl rfl ?_
  refine k_gI hK dX6_advance_118 lf_X6_19 rfl (sc_7 hs) rfl ?_
  refine k_ld hK 0 dX6_advance_121 rfl rfl rfl rfl ?_
  refine k_gI hK dX6_advance_122 lf_X6_15 rfl (sc_7 hs) rfl ?_
  refine k_cge hK dX6_advance_125 (tgt := 192) rfl (fun h1 => ?_) (fun h1 => ?_)
  · have hF := hF.1 h1
    exact k_sub hK [0] rfl hF
  · have hF := hF.2 h1
    refine k_ld hK 0 dX6_advance_128 rfl rfl rfl rfl ?_
    refine k_gR hK dX6_advance_129 lf_X6_9 rfl (sc_7 hs) (sf_7_0 hs) ?_
    refine k_ld hK 0 dX6_advance_132 rfl rfl rfl rfl ?_
    refine k_gI hK dX6_advance_133 lf_X6_19 rfl (sc_7 hs) rfl ?_
    obtain ⟨n2, i3, j4, hF⟩ := hF
    refine k_bald hK dX6_advance_136 (Or.inl (sc_1 hs)) sn_1 (by decide) i3 j4 rfl ?_
    refine k_bi hK dX6_advance_137 cb_97 ?_
    refine k_clt hK dX6_advance_139 (tgt := 192) rfl (fun h5 => ?_) (fun h5 => ?_)
    · have hF := hF.1 h5
      exact k_sub hK [0] rfl hF
    · have hF := hF.2 h5
      refine k_ld hK 0 dX6_advance_142 rfl rfl rfl rfl ?_
      refine k_gR hK dX6_advance_143 lf_X6_9 rfl (sc_7 hs) (sf_7_0 hs) ?_
      refine k_ld hK 0 dX6_advance_146 rfl rfl rfl rfl ?_
      refine k_gI hK dX6_advance_147 lf_X6_19 rfl (sc_7 hs) rfl ?_
      refine k_bald hK dX6_advance_150 (Or.inl (sc_1 hs)) sn_1 (by decide) i3 j4 rfl ?_
      refine k_bi hK dX6_advance_151 cb_122 ?_
      refine k_cgt hK dX6_advance_153 (tgt := 192) rfl (fun h6 => ?_) (fun h6 => ?_)
      · have hF := hF.1 h6
        exact k_sub hK [0] rfl hF
      · have hF := hF.2 h6
        refine k_ld hK 0 dX6_advance_156 rfl rfl rfl rfl ?_
        refine k_ld hK 0 dX6_advance_157 rfl rfl rfl rfl ?_
        refine k_gI hK dX6_advance_158 lf_X6_28 rfl (sc_7 hs) rfl ?_
        refine k_ic hK dX6_advance_161 ci_5 ?_
        refine k_op hK dX6_advance_162 rfl rfl ?_
        refine k_ld hK 0 dX6_advance_163 rfl rfl rfl rfl ?_
        refine k_gR hK dX6_advance_164 lf_X6_9 rfl (sc_7 hs) (sf_7_0 hs) ?_
        refine k_ld hK 0 dX6_advance_167 rfl rfl rfl rfl ?_
        refine k_gI hK dX6_advance_168 lf_X6_19 rfl (sc_7 hs) rfl ?_
        refine k_bald hK dX6_advance_171 (Or.inl (sc_1 hs)) sn_1 (by decide) i3 j4 rfl ?_
        refine k_bi hK dX6_advance_172 cb_96 ?_
        refine k_op hK dX6_advance_174 rfl rfl ?_
        refine k_op hK dX6_advance_175 rfl rfl ?_
        refine k_pI hK dX6_advance_176 lf_X6_28 rfl rfl rfl (sc_7 hs) ?_
        refine k_ld hK 0 dX6_advance_179 rfl rfl rfl rfl ?_
        refine k_op hK dX6_advance_180 rfl rfl ?_
        refine k_gI hK dX6_advance_181 lf_X6_19 rfl (sc_7 hs) ((up_nk (by decide)).trans rfl) ?_
        refine k_ic hK dX6_advance_184 ci_1 ?_
        refine k_op hK dX6_advance_185 rfl rfl ?_
        refine k_pI hK dX6_advance_186 lf_X6_19 rfl rfl rfl (sc_7 hs) ?_
        refine k_goto hK dX6_advance_189 (tgt := 117) rfl ?_
        exact k_sub hK [0] rfl hF
set_option maxHeartbeats 4000000 in
theorem g_X6_advance_192 {d : Nat} {K : KT} {Q : Unit → HI → Prop} {I : HI} {J : HJ} {R : HR}  (hK : am_R M_X6_advance (am_W d) none R (qC fv J R Q) K) (hs : Stat R)  (hF : ((((I 7 2) - (I 7 5)) ≤ 5 → Q () (up I 7 4 (I 7 4))) ∧ (¬ ((I 7 2) - (I 7 5)) ≤ 5 → Q () (up I 7 4 0)))) : K 192 [(0, .ref 7)] [] I J R := by
  refine k_ld hK 0 dX6_advance_192 rfl rfl rfl rfl ?_
  refine k_ld hK 0 dX6_advance_193 rfl rfl rfl rfl ?_
  refine k_gI hK dX6_advance_194 lf_X6_19 rfl (sc_7 hs) rfl ?_
  refine k_ld hK 0 dX6_advance_197 rfl rfl rfl rfl ?_
  refine k_gI hK dX6_advance_198 lf_X6_25 rfl (sc_7 hs) rfl ?_
  refine k_op hK dX6_advance_201 rfl rfl ?_
  refine k_ic hK dX6_advance_202 ci_5 ?_
  refine k_cle hK dX6_advance_203 (tgt := 210) rfl (fun h1 => ?_) (fun h1 => ?_)
  · have hF := hF.1 h1
    refine k_ld hK 0 dX6_advance_210 rfl rfl rfl rfl ?_
    refine k_gI hK dX6_advance_211 lf_X6_28 rfl (sc_7 hs) rfl ?_
    refine k_pI hK dX6_advance_214 lf_X6_28 rfl rfl rfl (sc_7 hs) ?_
    refine k_goto hK dX6_advance_217 (tgt := 381) rfl ?_
    exact k_vret hK dX6_advance_381 rfl (done_0 rfl rfl) (qC_i hF)
  · have hF := hF.2 h1
    refine k_ic hK dX6_advance_206 ci_0 ?_
    refine k_goto hK dX6_advance_207 (tgt := 214) rfl ?_
    refine k_pI hK dX6_advance_214 lf_X6_28 rfl rfl rfl (sc_7 hs) ?_
    refine k_goto hK dX6_advance_217 (tgt := 381) rfl ?_
    exact k_vret hK dX6_advance_381 rfl (done_0 rfl rfl) (qC_i hF)
set_option maxHeartbeats 4000000 in
theorem g_X6_advance_220 {d : Nat} {K : KT} {Q : Unit → HI → Prop} {I : HI} {J : HJ} {R : HR}  (hK : am_R M_X6_advance (am_W d) none R (qC fv J R Q) K) (hs : Stat R)  (hF : (∃ n1 : Nat, (I 7 2) = nI n1 ∧ n1 < 900 ∧ (((I 1 n1) < 48 → Q () (up (up (up I 7 3 3) 7 4 (I 1 n1)) 7 2 ((I 7 2) + 1))) ∧ (¬ (I 1 n1) < 48 → ((57 < (I 1 n1) → Q () (up (up (up I 7 3 3) 7 4 (I 1 n1)) 7 2 ((I 7 2) + 1))) ∧ (¬ 57 < (I 1 n1) → K 253 [(0, .ref 7)] [] (up I 7 3 2) J R)))))) : K 220 [(0, .ref 7)] [] I J R := by
  refine k_ld hK 0 dX6_advance_220 rfl rfl rfl rfl ?_
  refine k_gR hK dX6_advance_221 lf_X6_9 rfl (sc_7 hs) (sf_7_0 hs) ?_
  refine k_ld hK 0 dX6_advance_224 rfl rfl rfl rfl ?_
  refine k_gI hK dX6_advance_225 lf_X6_19 rfl (sc_7 hs) rfl ?_
  obtain ⟨n1, i2, j3, hF⟩ := hF
  refine k_bald hK dX6_advance_228 (Or.inl (sc_1 hs)) sn_1 (by decide) i2 j3 rfl ?_
  refine k_bi hK dX6_advance_229 cb_48 ?_
  refine k_clt hK dX6_advance_231 (tgt := 353) rfl (fun h4 => ?_) (fun h4 => ?_)
  · have hF := hF.1 h4
    refine k_ld hK 0 dX6_advance_353 rfl rfl rfl rfl ?_
    refine k_ic hK dX6_advance_354 ci_3 ?_
    refine k_pI hK dX6_advance_355 lf_X6_31 rfl rfl rfl (sc_7 hs) ?_
    refine k_ld hK 0 dX6_advance_358 rfl rfl rfl rfl ?_
    refine k_ld hK 0 dX6_advance_359 rfl rfl rfl rfl ?_
    refine k_gR hK dX6_advance_360 lf_X6_9 rfl (sc_7 hs) (sf_7_0 hs) ?_
    refine k_ld hK 0 dX6_advance_363 rfl rfl rfl rfl ?_
    refine k_gI hK dX6_advance_364 lf_X6_19 rfl (sc_7 hs) ((up_nk (by decide)).trans rfl) ?_
    refine k_bald hK dX6_advance_367 (Or.inl (sc_1 hs)) sn_1 (by decide) i2 j3 ((up_na (by decide)).trans rfl) ?_
    refine k_pI hK dX6_advance_368 lf_X6_28 rfl rfl rfl (sc_7 hs) ?_
    refine k_ld hK 0 dX6_advance_371 rfl rfl rfl rfl ?_
    refine k_op hK dX6_advance_372 rfl rfl ?_
    refine k_gI hK dX6_advance_373 lf_X6_19 rfl (sc_7 hs) ((up_nk (by decide)).trans ((up_nk (by decide)).trans rfl)) ?_
    refine k_ic hK dX6_advance_376 ci_1 ?_
    refine k_op hK dX6_advance_377 rfl rfl ?_
    refine k_pI hK dX6_advance_378 lf_X6_19 rfl rfl rfl (sc_7 hs) ?_
    exact k_vret hK dX6_advance_381 rfl (done_0 rfl rfl) (qC_i hF)
  · have hF := hF.2 h4
    refine k_ld hK 0 dX6_advance_234 rfl rfl rfl rfl ?_
    refine k_gR hK dX6_advance_235 lf_X6_9 rfl (sc_7 hs) (sf_7_0 hs) ?_
    refine k_ld hK 0 dX6_advance_238 rfl rfl rfl rfl ?_
    refine k_gI hK dX6_advance_239 lf_X6_19 rfl (sc_7 hs) rfl ?_
    refine k_bald hK dX6_advance_242 (Or.inl (sc_1 hs)) sn_1 (by decide) i2 j3 rfl ?_
    refine k_bi hK dX6_advance_243 cb_57 ?_
    refine k_cgt hK dX6_advance_245 (tgt := 353) rfl (fun h5 => ?_) (fun h5 => ?_)
    · have hF := hF.1 h5
      refine k_ld hK 0 dX6_advance_353 rfl rfl rfl rfl ?_
      refine k_ic hK dX6_advance_354 ci_3 ?_
      refine k_pI hK dX6_advance_355 lf_X6_31 rfl rfl rfl (sc_7 hs) ?_
      refine k_ld hK 0 dX6_advance_358 rfl rfl rfl rfl ?_
      refine k_ld hK 0 dX6_advance_359 rfl rfl rfl rfl ?_
      refine k_gR hK dX6_advance_360 lf_X6_9 rfl (sc_7 hs) (sf_7_0 hs) ?_
      refine k_ld hK 0 dX6_advance_363 rfl rfl rfl rfl ?_
      refine k_gI hK dX6_advance_364 lf_X6_19 rfl (sc_7 hs) ((up_nk (by decide)).trans rfl) ?_
      refine k_bald hK dX6_advance_367 (Or.inl (sc_1 hs)) sn_1 (by decide) i2 j3 ((up_na (by decide)).trans rfl) ?_
      refine k_pI hK dX6_advance_368 lf_X6_28 rfl rfl rfl (sc_7 hs) ?_
      refine k_ld hK 0 dX6_advance_371 rfl rfl rfl rfl ?_
      refine k_op hK dX6_advance_372 rfl rfl ?_
      refine k_gI hK dX6_advance_373 lf_X6_19 rfl (sc_7 hs) ((up_nk (by decide)).trans ((up_nk (by decide)).trans rfl)) ?_
      refine k_ic hK dX6_advance_376 ci_1 ?_
      refine k_op hK dX6_advance_377 rfl rfl ?_
      refine k_pI hK dX6_advance_378 lf_X6_19 rfl rfl rfl (sc_7 hs) ?_
      exact k_vret hK dX6_advance_381 rfl (done_0 rfl rfl) (qC_i hF)
    · have hF := hF.2 h5
      refine k_ld hK 0 dX6_advance_248 rfl rfl rfl rfl ?_
      refine k_ic hK dX6_advance_249 ci_2 ?_
      refine k_pI hK dX6_advance_250 lf_X6_31 rfl rfl rfl (sc_7 hs) ?_
      exact k_sub hK [0] rfl hF
set_option maxHeartbeats 4000000 in
theorem g_X6_advance_253 {d : Nat} {K : KT} {Q : Unit → HI → Prop} {I : HI} {J : HJ} {R : HR}  (hK : am_R M_X6_advance (am_W d) none R (qC fv J R Q) K) (hs : Stat R)  (hF : (((I 7 1) ≤ (I 7 2) → Q () I) ∧ (¬ (I 7 1) ≤ (I 7 2) → (∃ n2 : Nat, (I 7 2) = nI n2 ∧ n2 < 900 ∧ (((I 1 n2) < 48 → Q () I) ∧ (¬ (I 1 n2) < 48 → ((57 < (I 1 n2) → Q () I) ∧ (¬ 57 < (I 1 n2) → ((((((I 7 4) * 10) + (I 1 n2)) - 48) ≤ 9999 → K 253 [(0, .ref 7)] [] (up (up (up I 7 4 ((((I 7 4) * 10) + (I 1 n2)) - 48)) 7 4 ((((I 7 4) * 10) + (I 1 n2)) - 48)) 7 2 ((I 7 2) + 1)) J R) ∧ (¬ ((((I 7 4) * 10) + (I 1 n2)) - 48) ≤ 9999 → K 253 [(0, .ref 7)] [] (up (up (up I 7 4 ((((I 7 4) * 10) + (I 1 n2)) - 48)) 7 4 10000) 7 2 ((I 7 2) + 1)) J R)))))))))) : K 253 [(0, .ref 7)] [] I J R := by
  refine k_ld hK 0 dX6_advance_253 rfl rfl rfl rfl ?_
  refine k_gI hK dX6_advance_254 lf_X6_19 rfl (sc_7 hs) rfl ?_
  refine k_ld hK 0 dX6_advance_257 rfl rfl rfl rfl ?_
  refine k_gI hK dX6_advance_258 lf_X6_15 rfl (sc_7 hs) rfl ?_
  refine k_cge hK dX6_advance_261 (tgt := 381) rfl (fun h1 => ?_) (fun h1 => ?_)
  · have hF := hF.1 h1
    exact k_vret hK dX6_advance_381 rfl (done_0 rfl rfl) (qC_i hF)
  · have hF := hF.2 h1
    refine k_ld hK 0 dX6_advance_264 rfl rfl rfl rfl ?_
    refine k_gR hK dX6_advance_265 lf_X6_9 rfl (sc_7 hs) (sf_7_0 hs) ?_
    refine k_ld hK 0 dX6_advance_268 rfl rfl rfl rfl ?_
    refine k_gI hK dX6_advance_269 lf_X6_19 rfl (sc_7 hs) rfl ?_
    obtain ⟨n2, i3, j4, hF⟩ := hF
    refine k_bald hK dX6_advance_272 (Or.inl (sc_1 hs)) sn_1 (by decide) i3 j4 rfl ?_
    refine k_bi hK dX6_advance_273 cb_48 ?_
    refine k_clt hK dX6_advance_275 (tgt := 381) rfl (fun h5 => ?_) (fun h5 => ?_)
    · have hF := hF.1 h5
      exact k_vret hK dX6_advance_381 rfl (done_0 rfl rfl) (qC_i hF)
    · have hF := hF.2 h5
      refine k_ld hK 0 dX6_advance_278 rfl rfl rfl rfl ?_
      refine k_gR hK dX6_advance_279 lf_X6_9 rfl (sc_7 hs) (sf_7_0 hs) ?_
      refine k_ld hK 0 dX6_advance_282 rfl rfl rfl rfl ?_
      refine k_gI hK dX6_advance_283 lf_X6_19 rfl (sc_7 hs) rfl ?_
      refine k_bald hK dX6_advance_286 (Or.inl (sc_1 hs)) sn_1 (by decide) i3 j4 rfl ?_
      refine k_bi hK dX6_advance_287 cb_57 ?_
      refine k_cgt hK dX6_advance_289 (tgt := 381) rfl (fun h6 => ?_) (fun h6 => ?_)
      · have hF := hF.1 h6
        exact k_vret hK dX6_advance_381 rfl (done_0 rfl rfl) (qC_i hF)
      · have hF := hF.2 h6
        refine k_ld hK 0 dX6_advance_292 rfl rfl rfl rfl ?_
        refine k_ld hK 0 dX6_advance_293 rfl rfl rfl rfl ?_
        refine k_gI hK dX6_advance_294 lf_X6_28 rfl (sc_7 hs) rfl ?_
        refine k_bi hK dX6_advance_297 cb_10 ?_
        refine k_op hK dX6_advance_299 rfl rfl ?_
        refine k_ld hK 0 dX6_advance_300 rfl rfl rfl rfl ?_
        refine k_gR hK dX6_advance_301 lf_X6_9 rfl (sc_7 hs) (sf_7_0 hs) ?_
        refine k_ld hK 0 dX6_advance_304 rfl rfl rfl rfl ?_
        refine k_gI hK dX6_advance_305 lf_X6_19 rfl (sc_7 hs) rfl ?_
        refine k_bald hK dX6_advance_308 (Or.inl (sc_1 hs)) sn_1 (by decide) i3 j4 rfl ?_
        refine k_op hK dX6_advance_309 rfl rfl ?_
        refine k_bi hK dX6_advance_310 cb_48 ?_
        refine k_op hK dX6_advance_312 rfl rfl ?_
        refine k_pI hK dX6_advance_313 lf_X6_28 rfl rfl rfl (sc_7 hs) ?_
        refine k_ld hK 0 dX6_advance_316 rfl rfl rfl rfl ?_
        refine k_ld hK 0 dX6_advance_317 rfl rfl rfl rfl ?_
        refine k_gI hK dX6_advance_318 lf_X6_28 rfl (sc_7 hs) up_s ?_
        refine k_si hK dX6_advance_321 cs_9999 ?_
        refine k_cle hK dX6_advance_324 (tgt := 333) rfl (fun h7 => ?_) (fun h7 => ?_)
        · have hF := hF.1 h7
          refine k_ld hK 0 dX6_advance_333 rfl rfl rfl rfl ?_
          refine k_gI hK dX6_advance_334 lf_X6_28 rfl (sc_7 hs) up_s ?_
          refine k_pI hK dX6_advance_337 lf_X6_28 rfl rfl rfl (sc_7 hs) ?_
          refine k_ld hK 0 dX6_advance_340 rfl rfl rfl rfl ?_
          refine k_op hK dX6_advance_341 rfl rfl ?_
          refine k_gI hK dX6_advance_342 lf_X6_19 rfl (sc_7 hs) ((up_nk (by decide)).trans ((up_nk (by decide)).trans rfl)) ?_
          refine k_ic hK dX6_advance_345 ci_1 ?_
          refine k_op hK dX6_advance_346 rfl rfl ?_
          refine k_pI hK dX6_advance_347 lf_X6_19 rfl rfl rfl (sc_7 hs) ?_
          refine k_goto hK dX6_advance_350 (tgt := 253) rfl ?_
          exact k_sub hK [0] rfl hF
        · have hF := hF.2 h7
          refine k_si hK dX6_advance_327 cs_10000 ?_
          refine k_goto hK dX6_advance_330 (tgt := 337) rfl ?_
          refine k_pI hK dX6_advance_337 lf_X6_28 rfl rfl rfl (sc_7 hs) ?_
          refine k_ld hK 0 dX6_advance_340 rfl rfl rfl rfl ?_
          refine k_op hK dX6_advance_341 rfl rfl ?_
          refine k_gI hK dX6_advance_342 lf_X6_19 rfl (sc_7 hs) ((up_nk (by decide)).trans ((up_nk (by decide)).trans rfl)) ?_
          refine k_ic hK dX6_advance_345 ci_1 ?_
          refine k_op hK dX6_advance_346 rfl rfl ?_
          refine k_pI hK dX6_advance_347 lf_X6_19 rfl rfl rfl (sc_7 hs) ?_
          refine k_goto hK dX6_advance_350 (tgt := 253) rfl ?_
          exact k_sub hK [0] rfl hF
set_option maxHeartbeats 4000000 in
theorem g_X6_isName_0 {d : Nat} {K : KT} {Q : Bool → Prop} {I : HI} {J : HJ} {R : HR}  (hK : am_R M_X6_isName (am_W d) none R (qP fb I J R Q) K) (hs : Stat R)  (hF : ((¬ (I 7 3) = 1 → Q false) ∧ ((I 7 3) = 1 → ((((I 7 2) - (I 7 5)) ≤ 4 → (((I 7 4) = 294 → Q false) ∧ (¬ (I 7 4) = 294 → (((I 7 4) = 302 → Q false) ∧ (¬ (I 7 4) = 302 → (((I 7 4) = 5572 → Q false) ∧ (¬ (I 7 4) = 5572 → (((I 7 4) = 16052 → Q false) ∧ (¬ (I 7 4) = 16052 → (((I 7 4) = 18935 → Q false) ∧ (¬ (I 7 4) = 18935 → (((I 7 4) = 176741 → Q false) ∧ (¬ (I 7 4) = 176741 → (((I 7 4) = 409072 → Q false) ∧ (¬ (I 7 4) = 409072 → Q true))))))))))))))) ∧ (¬ ((I 7 2) - (I 7 5)) ≤ 4 → Q false))))) : K 0 [(0, .ref 7)] [] I J R := by
  refine k_ld hK 0 dX6_isName_0 rfl rfl rfl rfl ?_
  refine k_gI hK dX6_isName_1 lf_X6_31 rfl (sc_7 hs) rfl ?_
  refine k_ic hK dX6_isName_4 ci_1 ?_
  refine k_cne hK dX6_isName_5 (tgt := 21) rfl (fun h1 => ?_) (fun h1 => ?_)
  · have hF := hF.1 h1
    refine k_ic hK dX6_isName_21 ci_0 ?_
    exact k_iret (x := b2i false) hK dX6_isName_22 rfl (b2i_nar _) (done_0 rfl rfl) (qP_i hF)
  · have hF := hF.2 h1
    refine k_ld hK 0 dX6_isName_8 rfl rfl rfl rfl ?_
    refine k_gI hK dX6_isName_9 lf_X6_19 rfl (sc_7 hs) rfl ?_
    refine k_ld hK 0 dX6_isName_12 rfl rfl rfl rfl ?_
    refine k_gI hK dX6_isName_13 lf_X6_25 rfl (sc_7 hs) rfl ?_
    refine k_op hK dX6_isName_16 rfl rfl ?_
    refine k_ic hK dX6_isName_17 ci_4 ?_
    refine k_cle hK dX6_isName_18 (tgt := 23) rfl (fun h2 => ?_) (fun h2 => ?_)
    · have hF := hF.1 h2
      refine k_ld hK 0 dX6_isName_23 rfl rfl rfl rfl ?_
      refine k_gI hK dX6_isName_24 lf_X6_28 rfl (sc_7 hs) rfl ?_
      refine k_lkp hK dX6_isName_27 (cs := [(294, 92), (302, 92), (5572, 92), (16052, 92), (18935, 92), (176741, 92), (409072, 92)]) (td := 94) (by decide) (by decide) ?_
      refine swc (fun h3 => ?_) (fun h3 => ?_)
      · have hF := hF.1 h3
        refine k_ic hK dX6_isName_92 ci_0 ?_
        exact k_iret (x := b2i false) hK dX6_isName_93 rfl (b2i_nar _) (done_0 rfl rfl) (qP_i hF)
      have hF := hF.2 h3
      refine swc (fun h4 => ?_) (fun h4 => ?_)
      · have hF := hF.1 h4
        refine k_ic hK dX6_isName_92 ci_0 ?_
        exact k_iret (x := b2i false) hK dX6_isName_93 rfl (b2i_nar _) (done_0 rfl rfl) (qP_i hF)
      have hF := hF.2 h4
      refine swc (fun h5 => ?_) (fun h5 => ?_)
      · have hF := hF.1 h5
        refine k_ic hK dX6_isName_92 ci_0 ?_
        exact k_iret (x := b2i false) hK dX6_isName_93 rfl (b2i_nar _) (done_0 rfl rfl) (qP_i hF)
      have hF := hF.2 h5
      refine swc (fun h6 => ?_) (fun h6 => ?_)
      · have hF := hF.1 h6
        refine k_ic hK dX6_isName_92 ci_0 ?_
        exact k_iret (x := b2i false) hK dX6_isName_93 rfl (b2i_nar _) (done_0 rfl rfl) (qP_i hF)
      have hF := hF.2 h6
      refine swc (fun h7 => ?_) (fun h7 => ?_)
      · have hF := hF.1 h7
        refine k_ic hK dX6_isName_92 ci_0 ?_
        exact k_iret (x := b2i false) hK dX6_isName_93 rfl (b2i_nar _) (done_0 rfl rfl) (qP_i hF)
      have hF := hF.2 h7
      refine swc (fun h8 => ?_) (fun h8 => ?_)
      · have hF := hF.1 h8
        refine k_ic hK dX6_isName_92 ci_0 ?_
        exact k_iret (x := b2i false) hK dX6_isName_93 rfl (b2i_nar _) (done_0 rfl rfl) (qP_i hF)
      have hF := hF.2 h8
      refine swc (fun h9 => ?_) (fun h9 => ?_)
      · have hF := hF.1 h9
        refine k_ic hK dX6_isName_92 ci_0 ?_
        exact k_iret (x := b2i false) hK dX6_isName_93 rfl (b2i_nar _) (done_0 rfl rfl) (qP_i hF)
      have hF := hF.2 h9
      refine swn ?_
      refine k_ic hK dX6_isName_94 ci_1 ?_
      exact k_iret (x := b2i true) hK dX6_isName_95 rfl (b2i_nar _) (done_0 rfl rfl) (qP_i hF)
    · have hF := hF.2 h2
      refine k_ic hK dX6_isName_21 ci_0 ?_
      exact k_iret (x := b2i false) hK dX6_isName_22 rfl (b2i_nar _) (done_0 rfl rfl) (qP_i hF)
theorem e_X6_isName {d : Nat} {Q : Bool → Prop} {I : HI} {J : HJ} {R : HR}  (hs : Stat R)  (hF : ((¬ (I 7 3) = 1 → Q false) ∧ ((I 7 3) = 1 → ((((I 7 2) - (I 7 5)) ≤ 4 → (((I 7 4) = 294 → Q false) ∧ (¬ (I 7 4) = 294 → (((I 7 4) = 302 → Q false) ∧ (¬ (I 7 4) = 302 → (((I 7 4) = 5572 → Q false) ∧ (¬ (I 7 4) = 5572 → (((I 7 4) = 16052 → Q false) ∧ (¬ (I 7 4) = 16052 → (((I 7 4) = 18935 → Q false) ∧ (¬ (I 7 4) = 18935 → (((I 7 4) = 176741 → Q false) ∧ (¬ (I 7 4) = 176741 → (((I 7 4) = 409072 → Q false) ∧ (¬ (I 7 4) = 409072 → Q true))))))))))))))) ∧ (¬ ((I 7 2) - (I 7 5)) ≤ 4 → Q false))))) : Wp fb (d + 1) M_X6_isName [.ref 7] I J R Q := ⟨Nat.le_of_ble_eq_true rfl, fun K hK => g_X6_isName_0 hK hs hF⟩
set_option maxHeartbeats 4000000 in
theorem g_X6_isSign_0 {d : Nat} {K : KT} {Q : Bool → Prop} {I : HI} {J : HJ} {R : HR} {x1 : Int32} (hK : am_R M_X6_isSign (am_W d) none R (qP fb I J R Q) K) (hs : Stat R)  (hF : ((¬ (I 7 3) = 3 → Q false) ∧ ((I 7 3) = 3 → ((¬ (I 7 4) = x1 → Q false) ∧ ((I 7 4) = x1 → Q true))))) : K 0 [(0, .ref 7), (1, .int x1)] [] I J R := by
  refine k_ld hK 0 dX6_isSign_0 rfl rfl rfl rfl ?_
  refine k_gI hK dX6_isSign_1 lf_X6_31 rfl (sc_7 hs) rfl ?_
  refine k_ic hK dX6_isSign_4 ci_3 ?_
  refine k_cne hK dX6_isSign_5 (tgt := 20) rfl (fun h1 => ?_) (fun h1 => ?_)
  · have hF := hF.1 h1
    refine k_ic hK dX6_isSign_20 ci_0 ?_
    exact k_iret (x := b2i false) hK dX6_isSign_21 rfl (b2i_nar _) (done_0 rfl rfl) (qP_i hF)
  · have hF := hF.2 h1
    refine k_ld hK 0 dX6_isSign_8 rfl rfl rfl rfl ?_
    refine k_gI hK dX6_isSign_9 lf_X6_28 rfl (sc_7 hs) rfl ?_
    refine k_ld hK 1 dX6_isSign_12 rfl rfl rfl rfl ?_
    refine k_cne hK dX6_isSign_13 (tgt := 20) rfl (fun h2 => ?_) (fun h2 => ?_)
    · have hF := hF.1 h2
      refine k_ic hK dX6_isSign_20 ci_0 ?_
      exact k_iret (x := b2i false) hK dX6_isSign_21 rfl (b2i_nar _) (done_0 rfl rfl) (qP_i hF)
    · have hF := hF.2 h2
      refine k_ic hK dX6_isSign_16 ci_1 ?_
      refine k_goto hK dX6_isSign_17 (tgt := 21) rfl ?_
      exact k_iret (x := b2i true) hK dX6_isSign_21 rfl (b2i_nar _) (done_0 rfl rfl) (qP_i hF)
theorem e_X6_isSign {d : Nat} {Q : Bool → Prop} {I : HI} {J : HJ} {R : HR} {x1 : Int32} (hs : Stat R)  (hF : ((¬ (I 7 3) = 3 → Q false) ∧ ((I 7 3) = 3 → ((¬ (I 7 4) = x1 → Q false) ∧ ((I 7 4) = x1 → Q true))))) : Wp fb (d + 1) M_X6_isSign [.ref 7, .int x1] I J R Q := ⟨Nat.le_of_ble_eq_true rfl, fun K hK => g_X6_isSign_0 hK hs hF⟩
set_option maxHeartbeats 4000000 in
theorem g_X6_operator_0 {d : Nat} {K : KT} {Q : Int32 → Prop} {I : HI} {J : HJ} {R : HR}  (hK : am_R M_X6_operator (am_W d) none R (qP fi I J R Q) K) (hs : Stat R)  (hF : (((I 7 3) = 3 → (((I 7 4) = 42 → Q 5) ∧ (¬ (I 7 4) = 42 → (((I 7 4) = 43 → Q 3) ∧ (¬ (I 7 4) = 43 → (((I 7 4) = 44 → Q (-1)) ∧ (¬ (I 7 4) = 44 → (((I 7 4) = 45 → Q 4) ∧ (¬ (I 7 4) = 45 → (((I 7 4) = 46 → Q (-1)) ∧ (¬ (I 7 4) = 46 → (((I 7 4) = 47 → Q 6) ∧ (¬ (I 7 4) = 47 → Q (-1)))))))))))))) ∧ (¬ (I 7 3) = 3 → Q (-1)))) : K 0 [(0, .ref 7)] [] I J R := by
  refine k_ld hK 0 dX6_operator_0 rfl rfl rfl rfl ?_
  refine k_gI hK dX6_operator_1 lf_X6_31 rfl (sc_7 hs) rfl ?_
  refine k_ic hK dX6_operator_4 ci_3 ?_
  refine k_ceq hK dX6_operator_5 (tgt := 10) rfl (fun h1 => ?_) (fun h1 => ?_)
  · have hF := hF.1 h1
    refine k_ld hK 0 dX6_operator_10 rfl rfl rfl rfl ?_
    refine k_gI hK dX6_operator_11 lf_X6_28 rfl (sc_7 hs) rfl ?_
    refine k_tab hK dX6_operator_14 (cs := [(42, 56), (43, 52), (44, 61), (45, 54), (46, 61), (47, 58)]) (td := 61) (by decide) (by decide) ?_
    refine swc (fun h2 => ?_) (fun h2 => ?_)
    · have hF := hF.1 h2
      refine k_ic hK dX6_operator_56 ci_5 ?_
      exact k_iret hK dX6_operator_57 rfl rfl (done_0 rfl rfl) (qP_i hF)
    have hF := hF.2 h2
    refine swc (fun h3 => ?_) (fun h3 => ?_)
    · have hF := hF.1 h3
      refine k_ic hK dX6_operator_52 ci_3 ?_
      exact k_iret hK dX6_operator_53 rfl rfl (done_0 rfl rfl) (qP_i hF)
    have hF := hF.2 h3
    refine swc (fun h4 => ?_) (fun h4 => ?_)
    · have hF := hF.1 h4
      refine k_ic hK dX6_operator_61 ci_m1 ?_
      exact k_iret hK dX6_operator_62 rfl rfl (done_0 rfl rfl) (qP_i hF)
    have hF := hF.2 h4
    refine swc (fun h5 => ?_) (fun h5 => ?_)
    · have hF := hF.1 h5
      refine k_ic hK dX6_operator_54 ci_4 ?_
      exact k_iret hK dX6_operator_55 rfl rfl (done_0 rfl rfl) (qP_i hF)
    have hF := hF.2 h5
    refine swc (fun h6 => ?_) (fun h6 => ?_)
    · have hF := hF.1 h6
      refine k_ic hK dX6_operator_61 ci_m1 ?_
      exact k_iret hK dX6_operator_62 rfl rfl (done_0 rfl rfl) (qP_i hF)
    have hF := hF.2 h6
    refine swc (fun h7 => ?_) (fun h7 => ?_)
    · have hF := hF.1 h7
      refine k_bi hK dX6_operator_58 cb_6 ?_
      exact k_iret hK dX6_operator_60 rfl rfl (done_0 rfl rfl) (qP_i hF)
    have hF := hF.2 h7
    refine swn ?_
    refine k_ic hK dX6_operator_61 ci_m1 ?_
    exact k_iret hK dX6_operator_62 rfl rfl (done_0 rfl rfl) (qP_i hF)
  · have hF := hF.2 h1
    refine k_ic hK dX6_operator_8 ci_m1 ?_
    exact k_iret hK dX6_operator_9 rfl rfl (done_0 rfl rfl) (qP_i hF)
theorem e_X6_operator {d : Nat} {Q : Int32 → Prop} {I : HI} {J : HJ} {R : HR}  (hs : Stat R)  (hF : (((I 7 3) = 3 → (((I 7 4) = 42 → Q 5) ∧ (¬ (I 7 4) = 42 → (((I 7 4) = 43 → Q 3) ∧ (¬ (I 7 4) = 43 → (((I 7 4) = 44 → Q (-1)) ∧ (¬ (I 7 4) = 44 → (((I 7 4) = 45 → Q 4) ∧ (¬ (I 7 4) = 45 → (((I 7 4) = 46 → Q (-1)) ∧ (¬ (I 7 4) = 46 → (((I 7 4) = 47 → Q 6) ∧ (¬ (I 7 4) = 47 → Q (-1)))))))))))))) ∧ (¬ (I 7 3) = 3 → Q (-1)))) : Wp fi (d + 1) M_X6_operator [.ref 7] I J R Q := ⟨Nat.le_of_ble_eq_true rfl, fun K hK => g_X6_operator_0 hK hs hF⟩
