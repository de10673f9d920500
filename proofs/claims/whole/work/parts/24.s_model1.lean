set_option maxHeartbeats 4000000 in
theorem g_X12_thrown_0 {d : Nat} {K : KT} {Q : Int32 → Prop} {I : HI} {J : HJ} {R : HR}  (hK : am_R M_X12_thrown (am_W d) none R (qP fi I J R Q) K) (hs : Stat R)  (hF : Q (I 80 0)) : K 0 [(0, .ref 80)] [] I J R := by
  refine k_ld hK 0 dX12_thrown_0 rfl rfl rfl rfl ?_
  refine k_gI hK dX12_thrown_1 lf_X12_142 rfl (sc_80 hs) rfl ?_
  exact k_iret hK dX12_thrown_4 rfl rfl (done_0 rfl rfl) (qP_i hF)
theorem e_X12_thrown {d : Nat} {Q : Int32 → Prop} {I : HI} {J : HJ} {R : HR}  (hs : Stat R)  (hF : Q (I 80 0)) : Wp fi (d + 1) M_X12_thrown [.ref 80] I J R Q := ⟨Nat.le_of_ble_eq_true rfl, fun K hK => g_X12_thrown_0 hK hs hF⟩
set_option maxHeartbeats 4000000 in
theorem g_X12_feed_0 {d : Nat} {K : KT} {Q : Int32 → HI → Prop} {I : HI} {J : HJ} {R : HR} {x1 : Int32} {x2 : Int32} {x3 : Int32} {x4 : Int32} {x5 : Int32} (hK : am_R M_X12_feed (am_W d) none R (qC fi J R Q) K) (hs : Stat R)  (hF : (((I 80 2) ≤ 880 → K 20 [(0, .ref 80), (1, .int x1), (2, .int x2), (3, .int x3), (4, .int x4), (5, .int x5), (6, .int 0)] [] (up I 80 0 0) J R) ∧ (¬ (I 80 2) ≤ 880 → Q (-1) (up I 80 0 0)))) : K 0 [(0, .ref 80), (1, .int x1), (2, .int x2), (3, .int x3), (4, .int x4), (5, .int x5)] [] I J R := by
  refine k_ld hK 0 dX12_feed_0 rfl rfl rfl rfl ?_
  refine k_ic hK dX12_feed_1 ci_0 ?_
  refine k_pI hK dX12_feed_2 lf_X12_142 rfl rfl rfl (sc_80 hs) ?_
  refine k_ld hK 0 dX12_feed_5 rfl rfl rfl rfl ?_
  refine k_gI hK dX12_feed_6 lf_X12_145 rfl (sc_80 hs) ((up_nk (by decide)).trans rfl) ?_
  refine k_si hK dX12_feed_9 cs_880 ?_
  refine k_cle hK dX12_feed_12 (tgt := 17) rfl (fun h1 => ?_) (fun h1 => ?_)
  · have hF := hF.1 h1
    refine k_ic hK dX12_feed_17 ci_0 ?_
    refine k_st hK dX12_feed_18 rfl rfl rfl (Nat.le_of_ble_eq_true rfl) rfl ?_
    exact k_sub hK [1, 2, 3, 4, 5, 6, 0] rfl hF
  · have hF := hF.2 h1
    refine k_ic hK dX12_feed_15 ci_m1 ?_
    exact k_iret hK dX12_feed_16 rfl rfl (done_0 rfl rfl) (qC_i hF)
set_option maxHeartbeats 4000000 in
theorem g_X12_feed_20 {d : Nat} {K : KT} {Q : Int32 → HI → Prop} {I : HI} {J : HJ} {R : HR} {x1 : Int32} {x2 : Int32} {x3 : Int32} {x4 : Int32} {x5 : Int32} {x6 : Int32} (hK : am_R M_X12_feed (am_W d) none R (qC fi J R Q) K) (hs : Stat R)  (hF : ((20 ≤ x6 → Q ((I 80 2) + 20) (up I 80 2 ((I 80 2) + 20))) ∧ (¬ 20 ≤ x6 → ((4 ≤ x6 → ((8 ≤ x6 → ((12 ≤ x6 → ((16 ≤ x6 → K 73 [(0, .ref 80), (1, .int x1), (2, .int x2), (3, .int x3), (4, .int x4), (5, .int x5), (6, .int x6)] [.int x5] I J R) ∧ (¬ 16 ≤ x6 → K 73 [(0, .ref 80), (1, .int x1), (2, .int x2), (3, .int x3), (4, .int x4), (5, .int x5), (6, .int x6)] [.int x4] I J R))) ∧ (¬ 12 ≤ x6 → K 73 [(0, .ref 80), (1, .int x1), (2, .int x2), (3, .int x3), (4, .int x4), (5, .int x5), (6, .int x6)] [.int x3] I J R))) ∧ (¬ 8 ≤ x6 → K 73 [(0, .ref 80), (1, .int x1), (2, .int x2), (3, .int x3), (4, .int x4), (5, .int x5), (6, .int x6)] [.int x2] I J R))) ∧ (¬ 4 ≤ x6 → K 73 [(0, .ref 80), (1, .int x1), (2, .int x2), (3, .int x3), (4, .int x4), (5, .int x5), (6, .int x6)] [.int x1] I J R))))) : K 20 [(0, .ref 80), (1, .int x1), (2, .int x2), (3, .int x3), (4, .int x4), (5, .int x5), (6, .int x6)] [] I J R := by
  refine k_ld hK 6 dX12_feed_20 rfl rfl rfl rfl ?_
  refine k_bi hK dX12_feed_22 cb_20 ?_
  refine k_cge hK dX12_feed_24 (tgt := 110) rfl (fun h1 => ?_) (fun h1 => ?_)
  · have hF := hF.1 h1
    refine k_ld hK 0 dX12_feed_110 rfl rfl rfl rfl ?_
    refine k_op hK dX12_feed_111 rfl rfl ?_
    refine k_gI hK dX12_feed_112 lf_X12_145 rfl (sc_80 hs) rfl ?_
    refine k_bi hK dX12_feed_115 cb_20 ?_
    refine k_op hK dX12_feed_117 rfl rfl ?_
    refine k_pI hK dX12_feed_118 lf_X12_145 rfl rfl rfl (sc_80 hs) ?_
    refine k_ld hK 0 dX12_feed_121 rfl rfl rfl rfl ?_
    refine k_gI hK dX12_feed_122 lf_X12_145 rfl (sc_80 hs) up_s ?_
    exact k_iret hK dX12_feed_125 rfl rfl (done_0 rfl rfl) (qC_i hF)
  · have hF := hF.2 h1
    refine k_ld hK 6 dX12_feed_27 rfl rfl rfl rfl ?_
    refine k_ic hK dX12_feed_29 ci_4 ?_
    refine k_cge hK dX12_feed_30 (tgt := 37) rfl (fun h2 => ?_) (fun h2 => ?_)
    · have hF := hF.1 h2
      refine k_ld hK 6 dX12_feed_37 rfl rfl rfl rfl ?_
      refine k_bi hK dX12_feed_39 cb_8 ?_
      refine k_cge hK dX12_feed_41 (tgt := 48) rfl (fun h3 => ?_) (fun h3 => ?_)
      · have hF := hF.1 h3
        refine k_ld hK 6 dX12_feed_48 rfl rfl rfl rfl ?_
        refine k_bi hK dX12_feed_50 cb_12 ?_
        refine k_cge hK dX12_feed_52 (tgt := 59) rfl (fun h4 => ?_) (fun h4 => ?_)
        · have hF := hF.1 h4
          refine k_ld hK 6 dX12_feed_59 rfl rfl rfl rfl ?_
          refine k_bi hK dX12_feed_61 cb_16 ?_
          refine k_cge hK dX12_feed_63 (tgt := 71) rfl (fun h5 => ?_) (fun h5 => ?_)
          · have hF := hF.1 h5
            refine k_ld hK 5 dX12_feed_71 rfl rfl rfl rfl ?_
            exact k_sub hK [0, 1, 2, 3, 4, 5, 6] rfl hF
          · have hF := hF.2 h5
            refine k_ld hK 4 dX12_feed_66 rfl rfl rfl rfl ?_
            refine k_goto hK dX12_feed_68 (tgt := 73) rfl ?_
            exact k_sub hK [0, 1, 2, 3, 4, 5, 6] rfl hF
        · have hF := hF.2 h4
          refine k_ld hK 3 dX12_feed_55 rfl rfl rfl rfl ?_
          refine k_goto hK dX12_feed_56 (tgt := 73) rfl ?_
          exact k_sub hK [0, 1, 2, 3, 4, 5, 6] rfl hF
      · have hF := hF.2 h3
        refine k_ld hK 2 dX12_feed_44 rfl rfl rfl rfl ?_
        refine k_goto hK dX12_feed_45 (tgt := 73) rfl ?_
        exact k_sub hK [0, 1, 2, 3, 4, 5, 6] rfl hF
    · have hF := hF.2 h2
      refine k_ld hK 1 dX12_feed_33 rfl rfl rfl rfl ?_
      refine k_goto hK dX12_feed_34 (tgt := 73) rfl ?_
      exact k_sub hK [0, 1, 2, 3, 4, 5, 6] rfl hF
set_option maxHeartbeats 4000000 in
theorem g_X12_feed_73 {d : Nat} {K : KT} {Q : Int32 → HI → Prop} {I : HI} {J : HJ} {R : HR} {x1 : Int32} {x2 : Int32} {x3 : Int32} {x4 : Int32} {x5 : Int32} {x6 : Int32} {u0 : Int32} (hK : am_R M_X12_feed (am_W d) none R (qC fi J R Q) K) (hs : Stat R)  (hF : (∃ n1 : Nat, ((I 80 2) + x6) = nI n1 ∧ n1 < 900 ∧ K 20 [(0, .ref 80), (1, .int x1), (2, .int x2), (3, .int x3), (4, .int x4), (5, .int x5), (6, .int (x6 + 1))] [] (up I 81 n1 ((u0 >>> (((24 - (8 * (x6 - x6 / 4 * 4))) : Int32) &&& 31) : Int32) &&& 255)) J R)) : K 73 [(0, .ref 80), (1, .int x1), (2, .int x2), (3, .int x3), (4, .int x4), (5, .int x5), (6, .int x6)] [.int u0] I J R := by
  refine k_st hK dX12_feed_73 rfl rfl rfl (Nat.le_of_ble_eq_true rfl) rfl ?_
  refine k_ld hK 1 dX12_feed_75 rfl rfl rfl rfl ?_
  refine k_gR hK dX12_feed_76 lf_X12_7 rfl (sc_80 hs) (sf_80_1 hs) ?_
  refine k_ld hK 1 dX12_feed_79 rfl rfl rfl rfl ?_
  refine k_gI hK dX12_feed_80 lf_X12_145 rfl (sc_80 hs) rfl ?_
  refine k_ld hK 7 dX12_feed_83 rfl rfl rfl rfl ?_
  refine k_op hK dX12_feed_85 rfl rfl ?_
  refine k_ld hK 0 dX12_feed_86 rfl rfl rfl rfl ?_
  refine k_bi hK dX12_feed_88 cb_24 ?_
  refine k_bi hK dX12_feed_90 cb_8 ?_
  refine k_ld hK 7 dX12_feed_92 rfl rfl rfl rfl ?_
  refine k_ic hK dX12_feed_94 ci_4 ?_
  refine k_irem hK dX12_feed_95 (by decide) ?_
  refine k_op hK dX12_feed_96 rfl rfl ?_
  refine k_op hK dX12_feed_97 rfl rfl ?_
  refine k_op hK dX12_feed_98 rfl rfl ?_
  refine k_si hK dX12_feed_99 cs_255 ?_
  refine k_op hK dX12_feed_102 rfl rfl ?_
  obtain ⟨n1, i2, j3, hF⟩ := hF
  refine k_iast hK dX12_feed_103 (sc_81 hs) sn_81 (by decide) i2 j3 ?_
  refine k_iinc hK 7 dX12_feed_104 (v := (x6 + 1)) rfl (Nat.le_of_ble_eq_true rfl) (congrArg (fun q => x6 + q) ci_1) rfl ?_
  refine k_goto hK dX12_feed_107 (tgt := 20) rfl ?_
  exact k_sub hK [2, 3, 4, 5, 6, 7, 0] rfl hF
set_option maxHeartbeats 4000000 in
theorem g_X12_here_0 {d : Nat} {K : KT} {Q : Int32 → Prop} {I : HI} {J : HJ} {R : HR}  (hK : am_R M_X12_here (am_W d) none R (qP fi I J R Q) K) (hs : Stat R)  (hF : (((I 80 4) ≤ (I 80 5) → Q (-1)) ∧ (¬ (I 80 4) ≤ (I 80 5) → (∃ n2 : Nat, (I 80 5) = nI n2 ∧ n2 < 900 ∧ Q (I 81 n2))))) : K 0 [(0, .ref 80)] [] I J R := by
  refine k_ld hK 0 dX12_here_0 rfl rfl rfl rfl ?_
  refine k_gI hK dX12_here_1 lf_X12_148 rfl (sc_80 hs) rfl ?_
  refine k_ld hK 0 dX12_here_4 rfl rfl rfl rfl ?_
  refine k_gI hK dX12_here_5 lf_X12_151 rfl (sc_80 hs) rfl ?_
  refine k_cge hK dX12_here_8 (tgt := 23) rfl (fun h1 => ?_) (fun h1 => ?_)
  · have hF := hF.1 h1
    refine k_ic hK dX12_here_23 ci_m1 ?_
    exact k_iret hK dX12_here_24 rfl rfl (done_0 rfl rfl) (qP_i hF)
  · have hF := hF.2 h1
    refine k_ld hK 0 dX12_here_11 rfl rfl rfl rfl ?_
    refine k_gR hK dX12_here_12 lf_X12_7 rfl (sc_80 hs) (sf_80_1 hs) ?_
    refine k_ld hK 0 dX12_here_15 rfl rfl rfl rfl ?_
    refine k_gI hK dX12_here_16 lf_X12_148 rfl (sc_80 hs) rfl ?_
    obtain ⟨n2, i3, j4, hF⟩ := hF
    refine k_iald hK dX12_here_19 (sc_81 hs) sn_81 (by decide) i3 j4 rfl ?_
    refine k_goto hK dX12_here_20 (tgt := 24) rfl ?_
    exact k_iret hK dX12_here_24 rfl rfl (done_0 rfl rfl) (qP_i hF)
theorem e_X12_here {d : Nat} {Q : Int32 → Prop} {I : HI} {J : HJ} {R : HR}  (hs : Stat R)  (hF : (((I 80 4) ≤ (I 80 5) → Q (-1)) ∧ (¬ (I 80 4) ≤ (I 80 5) → (∃ n2 : Nat, (I 80 5) = nI n2 ∧ n2 < 900 ∧ Q (I 81 n2))))) : Wp fi (d + 1) M_X12_here [.ref 80] I J R Q := ⟨Nat.le_of_ble_eq_true rfl, fun K hK => g_X12_here_0 hK hs hF⟩
set_option maxHeartbeats 4000000 in
theorem g_X12_isSmall_0 {d : Nat} {K : KT} {Q : Bool → Prop} {I : HI} {J : HJ} {R : HR} {x0 : Int32} (hK : am_R M_X12_isSmall (am_W d) none R (qP fb I J R Q) K) (hs : Stat R)  (hF : ((x0 < 97 → Q false) ∧ (¬ x0 < 97 → ((122 < x0 → Q false) ∧ (¬ 122 < x0 → Q true))))) : K 0 [(0, .int x0)] [] I J R := by
  refine k_ld hK 0 dX12_isSmall_0 rfl rfl rfl rfl ?_
  refine k_bi hK dX12_isSmall_1 cb_97 ?_
  refine k_clt hK dX12_isSmall_3 (tgt := 16) rfl (fun h1 => ?_) (fun h1 => ?_)
  · have hF := hF.1 h1
    refine k_ic hK dX12_isSmall_16 ci_0 ?_
    exact k_iret (x := b2i false) hK dX12_isSmall_17 rfl (b2i_nar _) (done_0 rfl rfl) (qP_i hF)
  · have hF := hF.2 h1
    refine k_ld hK 0 dX12_isSmall_6 rfl rfl rfl rfl ?_
    refine k_bi hK dX12_isSmall_7 cb_122 ?_
    refine k_cgt hK dX12_isSmall_9 (tgt := 16) rfl (fun h2 => ?_) (fun h2 => ?_)
    · have hF := hF.1 h2
      refine k_ic hK dX12_isSmall_16 ci_0 ?_
      exact k_iret (x := b2i false) hK dX12_isSmall_17 rfl (b2i_nar _) (done_0 rfl rfl) (qP_i hF)
    · have hF := hF.2 h2
      refine k_ic hK dX12_isSmall_12 ci_1 ?_
      refine k_goto hK dX12_isSmall_13 (tgt := 17) rfl ?_
      exact k_iret (x := b2i true) hK dX12_isSmall_17 rfl (b2i_nar _) (done_0 rfl rfl) (qP_i hF)
theorem e_X12_isSmall {d : Nat} {Q : Bool → Prop} {I : HI} {J : HJ} {R : HR} {x0 : Int32} (hs : Stat R)  (hF : ((x0 < 97 → Q false) ∧ (¬ x0 < 97 → ((122 < x0 → Q false) ∧ (¬ 122 < x0 → Q true))))) : Wp fb (d + 1) M_X12_isSmall [.int x0] I J R Q := ⟨Nat.le_of_ble_eq_true rfl, fun K hK => g_X12_isSmall_0 hK hs hF⟩
set_option maxHeartbeats 4000000 in
theorem g_X12_isDigit_0 {d : Nat} {K : KT} {Q : Bool → Prop} {I : HI} {J : HJ} {R : HR} {x0 : Int32} (hK : am_R M_X12_isDigit (am_W d) none R (qP fb I J R Q) K) (hs : Stat R)  (hF : ((x0 < 48 → Q false) ∧ (¬ x0 < 48 → ((57 < x0 → Q false) ∧ (¬ 57 < x0 → Q true))))) : K 0 [(0, .int x0)] [] I J R := by
  refine k_ld hK 0 dX12_isDigit_0 rfl rfl rfl rfl ?_
  refine k_bi hK dX12_isDigit_1 cb_48 ?_
  refine k_clt hK dX12_isDigit_3 (tgt := 16) rfl (fun h1 => ?_) (fun h1 => ?_)
  · have hF := hF.1 h1
    refine k_ic hK dX12_isDigit_16 ci_0 ?_
    exact k_iret (x := b2i false) hK dX12_isDigit_17 rfl (b2i_nar _) (done_0 rfl rfl) (qP_i hF)
  · have hF := hF.2 h1
    refine k_ld hK 0 dX12_isDigit_6 rfl rfl rfl rfl ?_
    refine k_bi hK dX12_isDigit_7 cb_57 ?_
    refine k_cgt hK dX12_isDigit_9 (tgt := 16) rfl (fun h2 => ?_) (fun h2 => ?_)
    · have hF := hF.1 h2
      refine k_ic hK dX12_isDigit_16 ci_0 ?_
      exact k_iret (x := b2i false) hK dX12_isDigit_17 rfl (b2i_nar _) (done_0 rfl rfl) (qP_i hF)
    · have hF := hF.2 h2
      refine k_ic hK dX12_isDigit_12 ci_1 ?_
      refine k_goto hK dX12_isDigit_13 (tgt := 17) rfl ?_
      exact k_iret (x := b2i true) hK dX12_isDigit_17 rfl (b2i_nar _) (done_0 rfl rfl) (qP_i hF)
theorem e_X12_isDigit {d : Nat} {Q : Bool → Prop} {I : HI} {J : HJ} {R : HR} {x0 : Int32} (hs : Stat R)  (hF : ((x0 < 48 → Q false) ∧ (¬ x0 < 48 → ((57 < x0 → Q false) ∧ (¬ 57 < x0 → Q true))))) : Wp fb (d + 1) M_X12_isDigit [.int x0] I J R Q := ⟨Nat.le_of_ble_eq_true rfl, fun K hK => g_X12_isDigit_0 hK hs hF⟩
set_option maxHeartbeats 4000000 in
theorem g_X12_isMark_0 {d : Nat} {K : KT} {Q : Bool → Prop} {I : HI} {J : HJ} {R : HR} {x0 : Int32} (hK : am_R M_X12_isMark (am_W d) none R (qP fb I J R Q) K) (hs : Stat R)  (hF : ((x0 = 59 → K 66 [] [] I J R) ∧ (¬ x0 = 59 → ((x0 = 61 → K 66 [] [] I J R) ∧ (¬ x0 = 61 → ((x0 = 60 → K 66 [] [] I J R) ∧ (¬ x0 = 60 → ((x0 = 91 → K 66 [] [] I J R) ∧ (¬ x0 = 91 → ((x0 = 93 → K 66 [] [] I J R) ∧ (¬ x0 = 93 → ((x0 = 40 → K 66 [] [] I J R) ∧ (¬ x0 = 40 → ((x0 = 41 → K 66 [] [] I J R) ∧ (¬ x0 = 41 → ((x0 = 43 → K 66 [] [] I J R) ∧ (¬ x0 = 43 → ((x0 = 45 → K 66 [] [] I J R) ∧ (¬ x0 = 45 → ((x0 = 42 → K 66 [] [] I J R) ∧ (¬ x0 = 42 → ((¬ x0 = 47 → Q false) ∧ (x0 = 47 → K 66 [] [] I J R))))))))))))))))))))))) : K 0 [(0, .int x0)] [] I J R := by
  refine k_ld hK 0 dX12_isMark_0 rfl rfl rfl rfl ?_
  refine k_bi hK dX12_isMark_1 cb_59 ?_
  refine k_ceq hK dX12_isMark_3 (tgt := 66) rfl (fun h1 => ?_) (fun h1 => ?_)
  · have hF := hF.1 h1
    exact k_sub hK [] rfl hF
  · have hF := hF.2 h1
    refine k_ld hK 0 dX12_isMark_6 rfl rfl rfl rfl ?_
    refine k_bi hK dX12_isMark_7 cb_61 ?_
    refine k_ceq hK dX12_isMark_9 (tgt := 66) rfl (fun h2 => ?_) (fun h2 => ?_)
    · have hF := hF.1 h2
      exact k_sub hK [] rfl hF
    · have hF := hF.2 h2
      refine k_ld hK 0 dX12_isMark_12 rfl rfl rfl rfl ?_
      refine k_bi hK dX12_isMark_13 cb_60 ?_
      refine k_ceq hK dX12_isMark_15 (tgt := 66) rfl (fun h3 => ?_) (fun h3 => ?_)
      · have hF := hF.1 h3
        exact k_sub hK [] rfl hF
      · have hF := hF.2 h3
        refine k_ld hK 0 dX12_isMark_18 rfl rfl rfl rfl ?_
        refine k_bi hK dX12_isMark_19 cb_91 ?_
        refine k_ceq hK dX12_isMark_21 (tgt := 66) rfl (fun h4 => ?_) (fun h4 => ?_)
        · have hF := hF.1 h4
          exact k_sub hK [] rfl hF
        · have hF := hF.2 h4
          refine k_ld hK 0 dX12_isMark_24 rfl rfl rfl rfl ?_
          refine k_bi hK dX12_isMark_25 cb_93 ?_
          refine k_ceq hK dX12_isMark_27 (tgt := 66) rfl (fun h5 => ?_) (fun h5 => ?_)
          · have hF := hF.1 h5
            exact k_sub hK [] rfl hF
          · have hF := hF.2 h5
            refine k_ld hK 0 dX12_isMark_30 rfl rfl rfl rfl ?_
            refine k_bi hK dX12_isMark_31 cb_40 ?_
            refine k_ceq hK dX12_isMark_33 (tgt := 66) rfl (fun h6 => ?_) (fun h6 => ?_)
            · have hF := hF.1 h6
              exact k_sub hK [] rfl hF
            · have hF := hF.2 h6
              refine k_ld hK 0 dX12_isMark_36 rfl rfl rfl rfl ?_
              refine k_bi hK dX12_isMark_37 cb_41 ?_
              refine k_ceq hK dX12_isMark_39 (tgt := 66) rfl (fun h7 => ?_) (fun h7 => ?_)
              · have hF := hF.1 h7
                exact k_sub hK [] rfl hF
              · have hF := hF.2 h7
                refine k_ld hK 0 dX12_isMark_42 rfl rfl rfl rfl ?_
                refine k_bi hK dX12_isMark_43 cb_43 ?_
                refine k_ceq hK dX12_isMark_45 (tgt := 66) rfl (fun h8 => ?_) (fun h8 => ?_)
                · have hF := hF.1 h8
                  exact k_sub hK [] rfl hF
                · have hF := hF.2 h8
                  refine k_ld hK 0 dX12_isMark_48 rfl rfl rfl rfl ?_
                  refine k_bi hK dX12_isMark_49 cb_45 ?_
                  refine k_ceq hK dX12_isMark_51 (tgt := 66) rfl (fun h9 => ?_) (fun h9 => ?_)
                  · have hF := hF.1 h9
                    exact k_sub hK [] rfl hF
                  · have hF := hF.2 h9
                    refine k_ld hK 0 dX12_isMark_54 rfl rfl rfl rfl ?_
                    refine k_bi hK dX12_isMark_55 cb_42 ?_
                    refine k_ceq hK dX12_isMark_57 (tgt := 66) rfl (fun h10 => ?_) (fun h10 => ?_)
                    · have hF := hF.1 h10
                      exact k_sub hK [] rfl hF
                    · have hF := hF.2 h10
                      refine k_ld hK 0 dX12_isMark_60 rfl rfl rfl rfl ?_
                      refine k_bi hK dX12_isMark_61 cb_47 ?_
                      refine k_cne hK dX12_isMark_63 (tgt := 70) rfl (fun h11 => ?_) (fun h11 => ?_)
                      · have hF := hF.1 h11
                        refine k_ic hK dX12_isMark_70 ci_0 ?_
                        exact k_iret (x := b2i false) hK dX12_isMark_71 rfl (b2i_nar _) (done_0 rfl rfl) (qP_i hF)
                      · have hF := hF.2 h11
                        exact k_sub hK [] rfl hF
set_option maxHeartbeats 4000000 in
theorem g_X12_isMark_66 {d : Nat} {K : KT} {Q : Bool → Prop} {I : HI} {J : HJ} {R : HR}  (hK : am_R M_X12_isMark (am_W d) none R (qP fb I J R Q) K) (hs : Stat R)  (hF : Q true) : K 66 [] [] I J R := by
  refine k_ic hK dX12_isMark_66 ci_1 ?_
  refine k_goto hK dX12_isMark_67 (tgt := 71) rfl ?_
  exact k_iret (x := b2i true) hK dX12_isMark_71 rfl (b2i_nar _) (done_0 rfl rfl) (qP_i hF)
set_option maxHeartbeats 4000000 in
theorem g_X12_token_0 {d : Nat} {K : KT} {Q : Unit → HI → Prop} {I : HI} {J : HJ} {R : HR}  (hK : am_R M_X12_token (am_W d) none R (qC fv J R Q) K) (hs : Stat R)  (hF : Wp fi d M_X12_here [.ref 80] I J R (fun r1 => ((r1 = 10 → K 0 [(0, .ref 80)] [] (up I 80 5 ((I 80 5) + 1)) J R) ∧ (¬ r1 = 10 → Wp fi d M_X12_here [.ref 80] I J R (fun r3 => ((¬ r3 = 32 → Wp fi d M_X12_here [.ref 80] (up I 80 6 (I 80 5)) J R (fun r5 => ((¬ r5 = (-1) → Wp fb d M_X12_isSmall [.int r5] (up I 80 6 (I 80 5)) J R (fun b7 => ((b7 = false → Wp fb d M_X12_isDigit [.int r5] (up I 80 6 (I 80 5)) J R (fun b9 => ((b9 = false → Wp fb d M_X12_isMark [.int r5] (up I 80 6 (I 80 5)) J R (fun b11 => ((b11 = false → Q () (up (up (up (up I 80 6 (I 80 5)) 80 7 4) 80 8 r5) 80 5 ((I 80 5) + 1))) ∧ (b11 = true → Q () (up (up (up (up I 80 6 (I 80 5)) 80 7 2) 80 8 r5) 80 5 ((I 80 5) + 1)))))) ∧ (b9 = true → K 88 [(0, .ref 80)] [] (up (up (up I 80 6 (I 80 5)) 80 7 1) 80 8 0) J R)))) ∧ (b7 = true → Wc fv d M_X12_wordHere [.ref 80] (up I 80 6 (I 80 5)) J R (fun u13 I14 => Q () I14))))) ∧ (r5 = (-1) → Q () (up (up I 80 6 (I 80 5)) 80 7 3))))) ∧ (r3 = 32 → K 0 [(0, .ref 80)] [] (up I 80 5 ((I 80 5) + 1)) J R))))))) : K 0 [(0, .ref 80)] [] I J R := by
  refine k_ld hK 0 dX12_token_0 rfl rfl rfl rfl ?_
  refine k_cVp hK dX12_token_1 (Or.inl lm_X12_154) (As := []) (S := []) rfl (sc_80 hs) (Nat.le_of_ble_eq_true rfl) (fit_0 rfl rfl) rfl hF (fun r1 hF => ?_)
  show K _ _ [.int r1] _ _ _
  refine k_bi hK dX12_token_4 cb_10 ?_
  refine k_ceq hK dX12_token_6 (tgt := 18) rfl (fun h2 => ?_) (fun h2 => ?_)
  · have hF := hF.1 h2
    refine k_ld hK 0 dX12_token_18 rfl rfl rfl rfl ?_
    refine k_op hK dX12_token_19 rfl rfl ?_
    refine k_gI hK dX12_token_20 lf_X12_148 rfl (sc_80 hs) rfl ?_
    refine k_ic hK dX12_token_23 ci_1 ?_
    refine k_op hK dX12_token_24 rfl rfl ?_
    refine k_pI hK dX12_token_25 lf_X12_148 rfl rfl rfl (sc_80 hs) ?_
    refine k_goto hK dX12_token_28 (tgt := 0) rfl ?_
    exact k_sub hK [0] rfl hF
  · have hF := hF.2 h2
    refine k_ld hK 0 dX12_token_9 rfl rfl rfl rfl ?_
    refine k_cVp hK dX12_token_10 (Or.inl lm_X12_154) (As := []) (S := []) rfl (sc_80 hs) (Nat.le_of_ble_eq_true rfl) (fit_0 rfl rfl) rfl hF (fun r3 hF => ?_)
    show K _ _ [.int r3] _ _ _
    refine k_bi hK dX12_token_13 cb_32 ?_
    refine k_cne hK dX12_token_15 (tgt := 31) rfl (fun h4 => ?_) (fun h4 => ?_)
    · have hF := hF.1 h4
      refine k_ld hK 0 dX12_token_31 rfl rfl rfl rfl ?_
      refine k_ld hK 0 dX12_token_32 rfl rfl rfl rfl ?_
      refine k_gI hK dX12_token_33 lf_X12_148 rfl (sc_80 hs) rfl ?_
      refine k_pI hK dX12_token_36 lf_X12_158 rfl rfl rfl (sc_80 hs) ?_
      refine k_ld hK 0 dX12_token_39 rfl rfl rfl rfl ?_
      refine k_cVp hK dX12_token_40 (Or.inl lm_X12_154) (As := []) (S := []) rfl (sc_80 hs) (Nat.le_of_ble_eq_true rfl) (fit_0 rfl rfl) rfl hF (fun r5 hF => ?_)
      show K _ _ [.int r5] _ _ _
      refine k_st hK dX12_token_43 rfl rfl rfl (Nat.le_of_ble_eq_true rfl) rfl ?_
      refine k_ld hK 0 dX12_token_44 rfl rfl rfl rfl ?_
      refine k_ic hK dX12_token_45 ci_m1 ?_
      refine k_cne hK dX12_token_46 (tgt := 57) rfl (fun h6 => ?_) (fun h6 => ?_)
      · have hF := hF.1 h6
        refine k_ld hK 0 dX12_token_57 rfl rfl rfl rfl ?_
        refine k_cSp hK dX12_token_58 lm_X12_164 (As := [.int r5]) (S := []) rfl (Nat.le_of_ble_eq_true rfl) (fit_0 rfl rfl) rfl hF (fun b7 hF => ?_)
        show K _ _ [.int (b2i b7)] _ _ _
        refine k_beq hK dX12_token_61 (tgt := 71) rfl (fun h8 => ?_) (fun h8 => ?_)
        · have hF := hF.1 h8
          refine k_ld hK 0 dX12_token_71 rfl rfl rfl rfl ?_
          refine k_cSp hK dX12_token_72 lm_X12_171 (As := [.int r5]) (S := []) rfl (Nat.le_of_ble_eq_true rfl) (fit_0 rfl rfl) rfl hF (fun b9 hF => ?_)
          show K _ _ [.int (b2i b9)] _ _ _
          refine k_beq hK dX12_token_75 (tgt := 147) rfl (fun h10 => ?_) (fun h10 => ?_)
          · have hF := hF.1 h10
            refine k_ld hK 1 dX12_token_147 rfl rfl rfl rfl ?_
            refine k_ld hK 0 dX12_token_148 rfl rfl rfl rfl ?_
            refine k_cSp hK dX12_token_149 lm_X12_177 (As := [.int r5]) (S := [.ref 80]) rfl (Nat.le_of_ble_eq_true rfl) (fit_0 rfl rfl) rfl hF (fun b11 hF => ?_)
            show K _ _ [.int (b2i b11), .ref 80] _ _ _
            refine k_beq hK dX12_token_152 (tgt := 159) rfl (fun h12 => ?_) (fun h12 => ?_)
            · have hF := hF.1 h12
              refine k_ic hK dX12_token_159 ci_4 ?_
              refine k_pI hK dX12_token_160 lf_X12_161 rfl rfl rfl (sc_80 hs) ?_
              refine k_ld hK 1 dX12_token_163 rfl rfl rfl rfl ?_
              refine k_ld hK 0 dX12_token_164 rfl rfl rfl rfl ?_
              refine k_pI hK dX12_token_165 lf_X12_174 rfl rfl rfl (sc_80 hs) ?_
              refine k_ld hK 1 dX12_token_168 rfl rfl rfl rfl ?_
              refine k_op hK dX12_token_169 rfl rfl ?_
              refine k_gI hK dX12_token_170 lf_X12_148 rfl (sc_80 hs) ((up_nk (by decide)).trans ((up_nk (by decide)).trans ((up_nk (by decide)).trans rfl))) ?_
              refine k_ic hK dX12_token_173 ci_1 ?_
              refine k_op hK dX12_token_174 rfl rfl ?_
              refine k_pI hK dX12_token_175 lf_X12_148 rfl rfl rfl (sc_80 hs) ?_
              exact k_vret hK dX12_token_178 rfl (done_0 rfl rfl) (qC_i hF)
            · have hF := hF.2 h12
              refine k_ic hK dX12_token_155 ci_2 ?_
              refine k_goto hK dX12_token_156 (tgt := 160) rfl ?_
              refine k_pI hK dX12_token_160 lf_X12_161 rfl rfl rfl (sc_80 hs) ?_
              refine k_ld hK 1 dX12_token_163 rfl rfl rfl rfl ?_
              refine k_ld hK 0 dX12_token_164 rfl rfl rfl rfl ?_
              refine k_pI hK dX12_token_165 lf_X12_174 rfl rfl rfl (sc_80 hs) ?_
              refine k_ld hK 1 dX12_token_168 rfl rfl rfl rfl ?_
              refine k_op hK dX12_token_169 rfl rfl ?_
              refine k_gI hK dX12_token_170 lf_X12_148 rfl (sc_80 hs) ((up_nk (by decide)).trans ((up_nk (by decide)).trans ((up_nk (by decide)).trans rfl))) ?_
              refine k_ic hK dX12_token_173 ci_1 ?_
              refine k_op hK dX12_token_174 rfl rfl ?_
              refine k_pI hK dX12_token_175 lf_X12_148 rfl rfl rfl (sc_80 hs) ?_
              exact k_vret hK dX12_token_178 rfl (done_0 rfl rfl) (qC_i hF)
          · have hF := hF.2 h10
            refine k_ld hK 1 dX12_token_78 rfl rfl rfl rfl ?_
            refine k_ic hK dX12_token_79 ci_1 ?_
            refine k_pI hK dX12_token_80 lf_X12_161 rfl rfl rfl (sc_80 hs) ?_
            refine k_ld hK 1 dX12_token_83 rfl rfl rfl rfl ?_
            refine k_ic hK dX12_token_84 ci_0 ?_
            refine k_pI hK dX12_token_85 lf_X12_174 rfl rfl rfl (sc_80 hs) ?_
            exact k_sub hK [1] rfl hF
        · have hF := hF.2 h8
          refine k_ld hK 1 dX12_token_64 rfl rfl rfl rfl ?_
          refine k_cVc hK dX12_token_65 (Or.inl lm_X12_168) (As := []) (S := []) rfl (sc_80 hs) (Nat.le_of_ble_eq_true rfl) (fit_0 rfl rfl) rfl hF (fun u13 I14 hF => ?_)
          show K _ _ [] _ _ _
          refine k_goto hK dX12_token_68 (tgt := 178) rfl ?_
          exact k_vret hK dX12_token_178 rfl (done_0 rfl rfl) (qC_i hF)
      · have hF := hF.2 h6
        refine k_ld hK 1 dX12_token_49 rfl rfl rfl rfl ?_
        refine k_ic hK dX12_token_50 ci_3 ?_
        refine k_pI hK dX12_token_51 lf_X12_161 rfl rfl rfl (sc_80 hs) ?_
        refine k_goto hK dX12_token_54 (tgt := 178) rfl ?_
        exact k_vret hK dX12_token_178 rfl (done_0 rfl rfl) (qC_i hF)
    · have hF := hF.2 h4
      refine k_ld hK 0 dX12_token_18 rfl rfl rfl rfl ?_
      refine k_op hK dX12_token_19 rfl rfl ?_
      refine k_gI hK dX12_token_20 lf_X12_148 rfl (sc_80 hs) rfl ?_
      refine k_ic hK dX12_token_23 ci_1 ?_
      refine k_op hK dX12_token_24 rfl rfl ?_
      refine k_pI hK dX12_token_25 lf_X12_148 rfl rfl rfl (sc_80 hs) ?_
      refine k_goto hK dX12_token_28 (tgt := 0) rfl ?_
      exact k_sub hK [0] rfl hF
set_option maxHeartbeats 4000000 in
theorem g_X12_token_88 {d : Nat} {K : KT} {Q : Unit → HI → Prop} {I : HI} {J : HJ} {R : HR}  (hK : am_R M_X12_token (am_W d) none R (qC fv J R Q) K) (hs : Stat R)  (hF : Wp fi d M_X12_here [.ref 80] I J R (fun r1 => Wp fb d M_X12_isDigit [.int r1] I J R (fun b2 => ((b2 = false → Q () I) ∧ (b2 = true → (((I 80 8) ≤ 9999 → Wp fi d M_X12_here [.ref 80] I J R (fun r5 => K 88 [(0, .ref 80)] [] (up (up I 80 8 (((10 * (I 80 8)) + r5) - 48)) 80 5 ((I 80 5) + 1)) J R)) ∧ (¬ (I 80 8) ≤ 9999 → K 88 [(0, .ref 80)] [] (up (up I 80 8 (I 80 8)) 80 5 ((I 80 5) + 1)) J R))))))) : K 88 [(0, .ref 80)] [] I J R := by
  refine k_ld hK 0 dX12_token_88 rfl rfl rfl rfl ?_
  refine k_cVp hK dX12_token_89 (Or.inl lm_X12_154) (As := []) (S := []) rfl (sc_80 hs) (Nat.le_of_ble_eq_true rfl) (fit_0 rfl rfl) rfl hF (fun r1 hF => ?_)
  show K _ _ [.int r1] _ _ _
  refine k_cSp hK dX12_token_92 lm_X12_171 (As := [.int r1]) (S := []) rfl (Nat.le_of_ble_eq_true rfl) (fit_0 rfl rfl) rfl hF (fun b2 hF => ?_)
  show K _ _ [.int (b2i b2)] _ _ _
  refine k_beq hK dX12_token_95 (tgt := 178) rfl (fun h3 => ?_) (fun h3 => ?_)
  · have hF := hF.1 h3
    exact k_vret hK dX12_token_178 rfl (done_0 rfl rfl) (qC_i hF)
  · have hF := hF.2 h3
    refine k_ld hK 0 dX12_token_98 rfl rfl rfl rfl ?_
    refine k_ld hK 0 dX12_token_99 rfl rfl rfl rfl ?_
    refine k_gI hK dX12_token_100 lf_X12_174 rfl (sc_80 hs) rfl ?_
    refine k_si hK dX12_token_103 cs_9999 ?_
    refine k_cle hK dX12_token_106 (tgt := 116) rfl (fun h4 => ?_) (fun h4 => ?_)
    · have hF := hF.1 h4
      refine k_bi hK dX12_token_116 cb_10 ?_
      refine k_ld hK 0 dX12_token_118 rfl rfl rfl rfl ?_
      refine k_gI hK dX12_token_119 lf_X12_174 rfl (sc_80 hs) rfl ?_
      refine k_op hK dX12_token_122 rfl rfl ?_
      refine k_ld hK 0 dX12_token_123 rfl rfl rfl rfl ?_
      refine k_cVp hK dX12_token_124 (Or.inl lm_X12_154) (As := []) (S := [.int (10 * (I 80 8)), .ref 80]) rfl (sc_80 hs) (Nat.le_of_ble_eq_true rfl) (fit_0 rfl rfl) rfl hF (fun r5 hF => ?_)
      show K _ _ [.int r5, .int (10 * (I 80 8)), .ref 80] _ _ _
      refine k_op hK dX12_token_127 rfl rfl ?_
      refine k_bi hK dX12_token_128 cb_48 ?_
      refine k_op hK dX12_token_130 rfl rfl ?_
      refine k_pI hK dX12_token_131 lf_X12_174 rfl rfl rfl (sc_80 hs) ?_
      refine k_ld hK 0 dX12_token_134 rfl rfl rfl rfl ?_
      refine k_op hK dX12_token_135 rfl rfl ?_
      refine k_gI hK dX12_token_136 lf_X12_148 rfl (sc_80 hs) ((up_nk (by decide)).trans rfl) ?_
      refine k_ic hK dX12_token_139 ci_1 ?_
      refine k_op hK dX12_token_140 rfl rfl ?_
      refine k_pI hK dX12_token_141 lf_X12_148 rfl rfl rfl (sc_80 hs) ?_
      refine k_goto hK dX12_token_144 (tgt := 88) rfl ?_
      exact k_sub hK [0] rfl hF
    · have hF := hF.2 h4
      refine k_ld hK 0 dX12_token_109 rfl rfl rfl rfl ?_
      refine k_gI hK dX12_token_110 lf_X12_174 rfl (sc_80 hs) rfl ?_
      refine k_goto hK dX12_token_113 (tgt := 131) rfl ?_
      refine k_pI hK dX12_token_131 lf_X12_174 rfl rfl rfl (sc_80 hs) ?_
      refine k_ld hK 0 dX12_token_134 rfl rfl rfl rfl ?_
      refine k_op hK dX12_token_135 rfl rfl ?_
      refine k_gI hK dX12_token_136 lf_X12_148 rfl (sc_80 hs) ((up_nk (by decide)).trans rfl) ?_
      refine k_ic hK dX12_token_139 ci_1 ?_
      refine k_op hK dX12_token_140 rfl rfl ?_
      refine k_pI hK dX12_token_141 lf_X12_148 rfl rfl rfl (sc_80 hs) ?_
      refine k_goto hK dX12_token_144 (tgt := 88) rfl ?_
      exact k_sub hK [0] rfl hF
set_option maxHeartbeats 4000000 in
theorem g_X12_wordHere_0 {d : Nat} {K : KT} {Q : Unit → HI → Prop} {I : HI} {J : HJ} {R : HR}  (hK : am_R M_X12_wordHere (am_W d) none R (qC fv J R Q) K) (hs : Stat R)  (hF : K 5 [(0, .ref 80)] [] (up I 80 8 0) J R) : K 0 [(0, .ref 80)] [] I J R := by
  refine k_ld hK 0 dX12_wordHere_0 rfl rfl rfl rfl ?_
  refine k_ic hK dX12_wordHere_1 ci_0 ?_
  refine k_pI hK dX12_wordHere_2 lf_X12_174 rfl rfl rfl (sc_80 hs) ?_
  exact k_sub hK [0] rfl hF
set_option maxHeartbeats 4000000 in
theorem g_X12_wordHere_5 {d : Nat} {K : KT} {Q : Unit → HI → Prop} {I : HI} {J : HJ} {R : HR}  (hK : am_R M_X12_wordHere (am_W d) none R (qC fv J R Q) K) (hs : Stat R)  (hF : Wp fi d M_X12_here [.ref 80] I J R (fun r1 => Wp fb d M_X12_isSmall [.int r1] I J R (fun b2 => ((b2 = false → ((4 < ((I 80 5) - (I 80 6)) → K 83 [(0, .ref 80), (1, .int ((I 80 5) - (I 80 6)))] [.int 4, .ref 80] I J R) ∧ (¬ 4 < ((I 80 5) - (I 80 6)) → K 83 [(0, .ref 80), (1, .int ((I 80 5) - (I 80 6)))] [.int 0, .ref 80] I J R))) ∧ (b2 = true → ((4 ≤ ((I 80 5) - (I 80 6)) → K 5 [(0, .ref 80)] [] (up I 80 5 ((I 80 5) + 1)) J R) ∧ (¬ 4 ≤ ((I 80 5) - (I 80 6)) → Wp fi d M_X12_here [.ref 80] I J R (fun r6 => K 5 [(0, .ref 80)] [] (up (up I 80 8 ((((27 * (I 80 8)) + r6) - 97) + 1)) 80 5 ((I 80 5) + 1)) J R)))))))) : K 5 [(0, .ref 80)] [] I J R := by
  refine k_ld hK 0 dX12_wordHere_5 rfl rfl rfl rfl ?_
  refine k_cVp hK dX12_wordHere_6 (Or.inl lm_X12_154) (As := []) (S := []) rfl (sc_80 hs) (Nat.le_of_ble_eq_true rfl) (fit_0 rfl rfl) rfl hF (fun r1 hF => ?_)
  show K _ _ [.int r1] _ _ _
  refine k_cSp hK dX12_wordHere_9 lm_X12_164 (As := [.int r1]) (S := []) rfl (Nat.le_of_ble_eq_true rfl) (fit_0 rfl rfl) rfl hF (fun b2 hF => ?_)
  show K _ _ [.int (b2i b2)] _ _ _
  refine k_beq hK dX12_wordHere_12 (tgt := 62) rfl (fun h3 => ?_) (fun h3 => ?_)
  · have hF := hF.1 h3
    refine k_ld hK 0 dX12_wordHere_62 rfl rfl rfl rfl ?_
    refine k_gI hK dX12_wordHere_63 lf_X12_148 rfl (sc_80 hs) rfl ?_
    refine k_ld hK 0 dX12_wordHere_66 rfl rfl rfl rfl ?_
    refine k_gI hK dX12_wordHere_67 lf_X12_158 rfl (sc_80 hs) rfl ?_
    refine k_op hK dX12_wordHere_70 rfl rfl ?_
    refine k_st hK dX12_wordHere_71 rfl rfl rfl (Nat.le_of_ble_eq_true rfl) rfl ?_
    refine k_ld hK 1 dX12_wordHere_72 rfl rfl rfl rfl ?_
    refine k_ld hK 0 dX12_wordHere_73 rfl rfl rfl rfl ?_
    refine k_ic hK dX12_wordHere_74 ci_4 ?_
    refine k_cgt hK dX12_wordHere_75 (tgt := 82) rfl (fun h4 => ?_) (fun h4 => ?_)
    · have hF := hF.1 h4
      refine k_ic hK dX12_wordHere_82 ci_4 ?_
      exact k_sub hK [1, 0] rfl hF
    · have hF := hF.2 h4
      refine k_ic hK dX12_wordHere_78 ci_0 ?_
      refine k_goto hK dX12_wordHere_79 (tgt := 83) rfl ?_
      exact k_sub hK [1, 0] rfl hF
  · have hF := hF.2 h3
    refine k_ld hK 0 dX12_wordHere_15 rfl rfl rfl rfl ?_
    refine k_gI hK dX12_wordHere_16 lf_X12_148 rfl (sc_80 hs) rfl ?_
    refine k_ld hK 0 dX12_wordHere_19 rfl rfl rfl rfl ?_
    refine k_gI hK dX12_wordHere_20 lf_X12_158 rfl (sc_80 hs) rfl ?_
    refine k_op hK dX12_wordHere_23 rfl rfl ?_
    refine k_ic hK dX12_wordHere_24 ci_4 ?_
    refine k_cge hK dX12_wordHere_25 (tgt := 49) rfl (fun h5 => ?_) (fun h5 => ?_)
    · have hF := hF.1 h5
      refine k_ld hK 0 dX12_wordHere_49 rfl rfl rfl rfl ?_
      refine k_op hK dX12_wordHere_50 rfl rfl ?_
      refine k_gI hK dX12_wordHere_51 lf_X12_148 rfl (sc_80 hs) rfl ?_
      refine k_ic hK dX12_wordHere_54 ci_1 ?_
      refine k_op hK dX12_wordHere_55 rfl rfl ?_
      refine k_pI hK dX12_wordHere_56 lf_X12_148 rfl rfl rfl (sc_80 hs) ?_
      refine k_goto hK dX12_wordHere_59 (tgt := 5) rfl ?_
      exact k_sub hK [0] rfl hF
    · have hF := hF.2 h5
      refine k_ld hK 0 dX12_wordHere_28 rfl rfl rfl rfl ?_
      refine k_bi hK dX12_wordHere_29 cb_27 ?_
      refine k_ld hK 0 dX12_wordHere_31 rfl rfl rfl rfl ?_
      refine k_gI hK dX12_wordHere_32 lf_X12_174 rfl (sc_80 hs) rfl ?_
      refine k_op hK dX12_wordHere_35 rfl rfl ?_
      refine k_ld hK 0 dX12_wordHere_36 rfl rfl rfl rfl ?_
      refine k_cVp hK dX12_wordHere_37 (Or.inl lm_X12_154) (As := []) (S := [.int (27 * (I 80 8)), .ref 80]) rfl (sc_80 hs) (Nat.le_of_ble_eq_true rfl) (fit_0 rfl rfl) rfl hF (fun r6 hF => ?_)
      show K _ _ [.int r6, .int (27 * (I 80 8)), .ref 80] _ _ _
      refine k_op hK dX12_wordHere_40 rfl rfl ?_
      refine k_bi hK dX12_wordHere_41 cb_97 ?_
      refine k_op hK dX12_wordHere_43 rfl rfl ?_
      refine k_ic hK dX12_wordHere_44 ci_1 ?_
      refine k_op hK dX12_wordHere_45 rfl rfl ?_
      refine k_pI hK dX12_wordHere_46 lf_X12_174 rfl rfl rfl (sc_80 hs) ?_
      refine k_ld hK 0 dX12_wordHere_49 rfl rfl rfl rfl ?_
      refine k_op hK dX12_wordHere_50 rfl rfl ?_
      refine k_gI hK dX12_wordHere_51 lf_X12_148 rfl (sc_80 hs) ((up_nk (by decide)).trans rfl) ?_
      refine k_ic hK dX12_wordHere_54 ci_1 ?_
      refine k_op hK dX12_wordHere_55 rfl rfl ?_
      refine k_pI hK dX12_wordHere_56 lf_X12_148 rfl rfl rfl (sc_80 hs) ?_
      refine k_goto hK dX12_wordHere_59 (tgt := 5) rfl ?_
      exact k_sub hK [0] rfl hF
set_option maxHeartbeats 4000000 in
theorem g_X12_wordHere_83 {d : Nat} {K : KT} {Q : Unit → HI → Prop} {I : HI} {J : HJ} {R : HR} {x1 : Int32} {u0 : Int32} (hK : am_R M_X12_wordHere (am_W d) none R (qC fv J R Q) K) (hs : Stat R)  (hF : ((¬ x1 = 5 → K 173 [(0, .ref 80)] [] (up I 80 7 u0) J R) ∧ (x1 = 5 → (∃ n2 : Nat, (I 80 6) = nI n2 ∧ n2 < 900 ∧ ((¬ (I 81 n2) = 97 → K 173 [(0, .ref 80)] [] (up I 80 7 u0) J R) ∧ ((I 81 n2) = 97 → (∃ n6 : Nat, ((I 80 6) + 1) = nI n6 ∧ n6 < 900 ∧ ((¬ (I 81 n6) = 108 → K 173 [(0, .ref 80)] [] (up I 80 7 u0) J R) ∧ ((I 81 n6) = 108 → (∃ n10 : Nat, ((I 80 6) + 2) = nI n10 ∧ n10 < 900 ∧ ((¬ (I 81 n10) = 105 → K 173 [(0, .ref 80)] [] (up I 80 7 u0) J R) ∧ ((I 81 n10) = 105 → (∃ n14 : Nat, ((I 80 6) + 3) = nI n14 ∧ n14 < 900 ∧ ((¬ (I 81 n14) = 97 → K 173 [(0, .ref 80)] [] (up I 80 7 u0) J R) ∧ ((I 81 n14) = 97 → (∃ n18 : Nat, ((I 80 6) + 4) = nI n18 ∧ n18 < 900 ∧ ((¬ (I 81 n18) = 115 → K 173 [(0, .ref 80)] [] (up I 80 7 u0) J R) ∧ ((I 81 n18) = 115 → Q () (up (up (up I 80 7 u0) 80 7 0) 80 8 900000))))))))))))))))))) : K 83 [(0, .ref 80), (1, .int x1)] [.int u0, .ref 80] I J R := by
  refine k_pI hK dX12_wordHere_83 lf_X12_161 rfl rfl rfl (sc_80 hs) ?_
  refine k_ld hK 1 dX12_wordHere_86 rfl rfl rfl rfl ?_
  refine k_ic hK dX12_wordHere_87 ci_5 ?_
  refine k_cne hK dX12_wordHere_88 (tgt := 173) rfl (fun h1 => ?_) (fun h1 => ?_)
  · have hF := hF.1 h1
    exact k_sub hK [0] rfl hF
  · have hF := hF.2 h1
    refine k_ld hK 0 dX12_wordHere_91 rfl rfl rfl rfl ?_
    refine k_gR hK dX12_wordHere_92 lf_X12_7 rfl (sc_80 hs) (sf_80_1 hs) ?_
    refine k_ld hK 0 dX12_wordHere_95 rfl rfl rfl rfl ?_
    refine k_gI hK dX12_wordHere_96 lf_X12_158 rfl (sc_80 hs) ((up_nk (by decide)).trans rfl) ?_
    obtain ⟨n2, i3, j4, hF⟩ := hF
    refine k_iald hK dX12_wordHere_99 (sc_81 hs) sn_81 (by decide) i3 j4 ((up_na (by decide)).trans rfl) ?_
    refine k_bi hK dX12_wordHere_100 cb_97 ?_
    refine k_cne hK dX12_wordHere_102 (tgt := 173) rfl (fun h5 => ?_) (fun h5 => ?_)
    · have hF := hF.1 h5
      exact k_sub hK [0] rfl hF
    · have hF := hF.2 h5
      refine k_ld hK 0 dX12_wordHere_105 rfl rfl rfl rfl ?_
      refine k_gR hK dX12_wordHere_106 lf_X12_7 rfl (sc_80 hs) (sf_80_1 hs) ?_
      refine k_ld hK 0 dX12_wordHere_109 rfl rfl rfl rfl ?_
      refine k_gI hK dX12_wordHere_110 lf_X12_158 rfl (sc_80 hs) ((up_nk (by decide)).trans rfl) ?_
      refine k_ic hK dX12_wordHere_113 ci_1 ?_
      refine k_op hK dX12_wordHere_114 rfl rfl ?_
      obtain ⟨n6, i7, j8, hF⟩ := hF
      refine k_iald hK dX12_wordHere_115 (sc_81 hs) sn_81 (by decide) i7 j8 ((up_na (by decide)).trans rfl) ?_
      refine k_bi hK dX12_wordHere_116 cb_108 ?_
      refine k_cne hK dX12_wordHere_118 (tgt := 173) rfl (fun h9 => ?_) (fun h9 => ?_)
      · have hF := hF.1 h9
        exact k_sub hK [0] rfl hF
      · have hF := hF.2 h9
        refine k_ld hK 0 dX12_wordHere_121 rfl rfl rfl rfl ?_
        refine k_gR hK dX12_wordHere_122 lf_X12_7 rfl (sc_80 hs) (sf_80_1 hs) ?_
        refine k_ld hK 0 dX12_wordHere_125 rfl rfl rfl rfl ?_
        refine k_gI hK dX12_wordHere_126 lf_X12_158 rfl (sc_80 hs) ((up_nk (by decide)).trans rfl) ?_
        refine k_ic hK dX12_wordHere_129 ci_2 ?_
        refine k_op hK dX12_wordHere_130 rfl rfl ?_
        obtain ⟨n10, i11, j12, hF⟩ := hF
        refine k_iald hK dX12_wordHere_131 (sc_81 hs) sn_81 (by decide) i11 j12 ((up_na (by decide)).trans rfl) ?_
        refine k_bi hK dX12_wordHere_132 cb_105 ?_
        refine k_cne hK dX12_wordHere_134 (tgt := 173) rfl (fun h13 => ?_) (fun h13 => ?_)
        · have hF := hF.1 h13
          exact k_sub hK [0] rfl hF
        · have hF := hF.2 h13
          refine k_ld hK 0 dX12_wordHere_137 rfl rfl rfl rfl ?_
          refine k_gR hK dX12_wordHere_138 lf_X12_7 rfl (sc_80 hs) (sf_80_1 hs) ?_
          refine k_ld hK 0 dX12_wordHere_141 rfl rfl rfl rfl ?_
          refine k_gI hK dX12_wordHere_142 lf_X12_158 rfl (sc_80 hs) ((up_nk (by decide)).trans rfl) ?_
          refine k_ic hK dX12_wordHere_145 ci_3 ?_
          refine k_op hK dX12_wordHere_146 rfl rfl ?_
          obtain ⟨n14, i15, j16, hF⟩ := hF
          refine k_iald hK dX12_wordHere_147 (sc_81 hs) sn_81 (by decide) i15 j16 ((up_na (by decide)).trans rfl) ?_
          refine k_bi hK dX12_wordHere_148 cb_97 ?_
          refine k_cne hK dX12_wordHere_150 (tgt := 173) rfl (fun h17 => ?_) (fun h17 => ?_)
          · have hF := hF.1 h17
            exact k_sub hK [0] rfl hF
          · have hF := hF.2 h17
            refine k_ld hK 0 dX12_wordHere_153 rfl rfl rfl rfl ?_
            refine k_gR hK dX12_wordHere_154 lf_X12_7 rfl (sc_80 hs) (sf_80_1 hs) ?_
            refine k_ld hK 0 dX12_wordHere_157 rfl rfl rfl rfl ?_
            refine k_gI hK dX12_wordHere_158 lf_X12_158 rfl (sc_80 hs) ((up_nk (by decide)).trans rfl) ?_
            refine k_ic hK dX12_wordHere_161 ci_4 ?_
            refine k_op hK dX12_wordHere_162 rfl rfl ?_
            obtain ⟨n18, i19, j20, hF⟩ := hF
            refine k_iald hK dX12_wordHere_163 (sc_81 hs) sn_81 (by decide) i19 j20 ((up_na (by decide)).trans rfl) ?_
            refine k_bi hK dX12_wordHere_164 cb_115 ?_
            refine k_cne hK dX12_wordHere_166 (tgt := 173) rfl (fun h21 => ?_) (fun h21 => ?_)
            · have hF := hF.1 h21
              exact k_sub hK [0] rfl hF
            · have hF := hF.2 h21
              refine k_ic hK dX12_wordHere_169 ci_1 ?_
              refine k_goto hK dX12_wordHere_170 (tgt := 174) rfl ?_
              refine k_st hK dX12_wordHere_174 rfl rfl rfl (Nat.le_of_ble_eq_true rfl) rfl ?_
              refine k_ld hK 0 dX12_wordHere_175 rfl rfl rfl rfl ?_
              refine k_ne hK dX12_wordHere_176 (tgt := 180) rfl (fun _ => ?_) (fun h => absurd h (by decide))
              refine k_ld hK 1 dX12_wordHere_180 rfl rfl rfl rfl ?_
              refine k_ic hK dX12_wordHere_181 ci_0 ?_
              refine k_pI hK dX12_wordHere_182 lf_X12_161 rfl rfl rfl (sc_80 hs) ?_
              refine k_ld hK 1 dX12_wordHere_185 rfl rfl rfl rfl ?_
              refine k_ldc hK dX12_wordHere_186 lc_X12_180 ?_
              refine k_pI hK dX12_wordHere_188 lf_X12_174 rfl rfl rfl (sc_80 hs) ?_
              exact k_vret hK dX12_wordHere_191 rfl (done_0 rfl rfl) (qC_i hF)
set_option maxHeartbeats 4000000 in
theorem g_X12_wordHere_173 {d : Nat} {K : KT} {Q : Unit → HI → Prop} {I : HI} {J : HJ} {R : HR}  (hK : am_R M_X12_wordHere (am_W d) none R (qC fv J R Q) K) (hs : Stat R)  (hF : Q () I) : K 173 [(0, .ref 80)] [] I J R := by
  refine k_ic hK dX12_wordHere_173 ci_0 ?_
  refine k_st hK dX12_wordHere_174 rfl rfl rfl (Nat.le_of_ble_eq_true rfl) rfl ?_
  refine k_ld hK 0 dX12_wordHere_175 rfl rfl rfl rfl ?_
  refine k_ne hK dX12_wordHere_176 (tgt := 180) rfl (fun h => absurd h (by decide)) (fun _ => ?_)
  exact k_vret hK dX12_wordHere_179 rfl (done_0 rfl rfl) (qC_i hF)
set_option maxHeartbeats 4000000 in
theorem g_X12_isOwn_0 {d : Nat} {K : KT} {Q : Bool → Prop} {I : HI} {J : HJ} {R : HR} {x0 : Int32} (hK : am_R M_X12_isOwn (am_W d) none R (qP fb I J R Q) K) (hs : Stat R)  (hF : ((x0 = 257 → Q true) ∧ (¬ x0 = 257 → ((x0 = 13550 → Q true) ∧ (¬ x0 = 13550 → ((x0 = 247552 → Q true) ∧ (¬ x0 = 247552 → ((x0 = 249 → Q true) ∧ (¬ x0 = 249 → ((x0 = 107681 → Q true) ∧ (¬ x0 = 107681 → ((x0 = 4027 → Q true) ∧ (¬ x0 = 4027 → ((x0 = 11522 → Q true) ∧ (¬ x0 = 11522 → ((¬ x0 = 900000 → Q false) ∧ (x0 = 900000 → Q true))))))))))))))))) : K 0 [(0, .int x0)] [] I J R := by
  refine k_ld hK 0 dX12_isOwn_0 rfl rfl rfl rfl ?_
  refine k_si hK dX12_isOwn_1 cs_257 ?_
  refine k_ceq hK dX12_isOwn_4 (tgt := 53) rfl (fun h1 => ?_) (fun h1 => ?_)
  · have hF := hF.1 h1
    refine k_ic hK dX12_isOwn_53 ci_1 ?_
    refine k_goto hK dX12_isOwn_54 (tgt := 58) rfl ?_
    exact k_iret (x := b2i true) hK dX12_isOwn_58 rfl (b2i_nar _) (done_0 rfl rfl) (qP_i hF)
  · have hF := hF.2 h1
    refine k_ld hK 0 dX12_isOwn_7 rfl rfl rfl rfl ?_
    refine k_si hK dX12_isOwn_8 cs_13550 ?_
    refine k_ceq hK dX12_isOwn_11 (tgt := 53) rfl (fun h2 => ?_) (fun h2 => ?_)
    · have hF := hF.1 h2
      refine k_ic hK dX12_isOwn_53 ci_1 ?_
      refine k_goto hK dX12_isOwn_54 (tgt := 58) rfl ?_
      exact k_iret (x := b2i true) hK dX12_isOwn_58 rfl (b2i_nar _) (done_0 rfl rfl) (qP_i hF)
    · have hF := hF.2 h2
      refine k_ld hK 0 dX12_isOwn_14 rfl rfl rfl rfl ?_
      refine k_ldc hK dX12_isOwn_15 lc_X12_181 ?_
      refine k_ceq hK dX12_isOwn_17 (tgt := 53) rfl (fun h3 => ?_) (fun h3 => ?_)
      · have hF := hF.1 h3
        refine k_ic hK dX12_isOwn_53 ci_1 ?_
        refine k_goto hK dX12_isOwn_54 (tgt := 58) rfl ?_
        exact k_iret (x := b2i true) hK dX12_isOwn_58 rfl (b2i_nar _) (done_0 rfl rfl) (qP_i hF)
      · have hF := hF.2 h3
        refine k_ld hK 0 dX12_isOwn_20 rfl rfl rfl rfl ?_
        refine k_si hK dX12_isOwn_21 cs_249 ?_
        refine k_ceq hK dX12_isOwn_24 (tgt := 53) rfl (fun h4 => ?_) (fun h4 => ?_)
        · have hF := hF.1 h4
          refine k_ic hK dX12_isOwn_53 ci_1 ?_
          refine k_goto hK dX12_isOwn_54 (tgt := 58) rfl ?_
          exact k_iret (x := b2i true) hK dX12_isOwn_58 rfl (b2i_nar _) (done_0 rfl rfl) (qP_i hF)
        · have hF := hF.2 h4
          refine k_ld hK 0 dX12_isOwn_27 rfl rfl rfl rfl ?_
          refine k_ldc hK dX12_isOwn_28 lc_X12_182 ?_
          refine k_ceq hK dX12_isOwn_30 (tgt := 53) rfl (fun h5 => ?_) (fun h5 => ?_)
          · have hF := hF.1 h5
            refine k_ic hK dX12_isOwn_53 ci_1 ?_
            refine k_goto hK dX12_isOwn_54 (tgt := 58) rfl ?_
            exact k_iret (x := b2i true) hK dX12_isOwn_58 rfl (b2i_nar _) (done_0 rfl rfl) (qP_i hF)
          · have hF := hF.2 h5
            refine k_ld hK 0 dX12_isOwn_33 rfl rfl rfl rfl ?_
            refine k_si hK dX12_isOwn_34 cs_4027 ?_
            refine k_ceq hK dX12_isOwn_37 (tgt := 53) rfl (fun h6 => ?_) (fun h6 => ?_)
            · have hF := hF.1 h6
              refine k_ic hK dX12_isOwn_53 ci_1 ?_
              refine k_goto hK dX12_isOwn_54 (tgt := 58) rfl ?_
              exact k_iret (x := b2i true) hK dX12_isOwn_58 rfl (b2i_nar _) (done_0 rfl rfl) (qP_i hF)
            · have hF := hF.2 h6
              refine k_ld hK 0 dX12_isOwn_40 rfl rfl rfl rfl ?_
              refine k_si hK dX12_isOwn_41 cs_11522 ?_
              refine k_ceq hK dX12_isOwn_44 (tgt := 53) rfl (fun h7 => ?_) (fun h7 => ?_)
              · have hF := hF.1 h7
                refine k_ic hK dX12_isOwn_53 ci_1 ?_
                refine k_goto hK dX12_isOwn_54 (tgt := 58) rfl ?_
                exact k_iret (x := b2i true) hK dX12_isOwn_58 rfl (b2i_nar _) (done_0 rfl rfl) (qP_i hF)
              · have hF := hF.2 h7
                refine k_ld hK 0 dX12_isOwn_47 rfl rfl rfl rfl ?_
                refine k_ldc hK dX12_isOwn_48 lc_X12_180 ?_
                refine k_cne hK dX12_isOwn_50 (tgt := 57) rfl (fun h8 => ?_) (fun h8 => ?_)
                · have hF := hF.1 h8
                  refine k_ic hK dX12_isOwn_57 ci_0 ?_
                  exact k_iret (x := b2i false) hK dX12_isOwn_58 rfl (b2i_nar _) (done_0 rfl rfl) (qP_i hF)
                · have hF := hF.2 h8
                  refine k_ic hK dX12_isOwn_53 ci_1 ?_
                  refine k_goto hK dX12_isOwn_54 (tgt := 58) rfl ?_
                  exact k_iret (x := b2i true) hK dX12_isOwn_58 rfl (b2i_nar _) (done_0 rfl rfl) (qP_i hF)
theorem e_X12_isOwn {d : Nat} {Q : Bool → Prop} {I : HI} {J : HJ} {R : HR} {x0 : Int32} (hs : Stat R)  (hF : ((x0 = 257 → Q true) ∧ (¬ x0 = 257 → ((x0 = 13550 → Q true) ∧ (¬ x0 = 13550 → ((x0 = 247552 → Q true) ∧ (¬ x0 = 247552 → ((x0 = 249 → Q true) ∧ (¬ x0 = 249 → ((x0 = 107681 → Q true) ∧ (¬ x0 = 107681 → ((x0 = 4027 → Q true) ∧ (¬ x0 = 4027 → ((x0 = 11522 → Q true) ∧ (¬ x0 = 11522 → ((¬ x0 = 900000 → Q false) ∧ (x0 = 900000 → Q true))))))))))))))))) : Wp fb (d + 1) M_X12_isOwn [.int x0] I J R Q := ⟨Nat.le_of_ble_eq_true rfl, fun K hK => g_X12_isOwn_0 hK hs hF⟩
set_option maxHeartbeats 4000000 in
theorem g_X12_wrong_0 {d : Nat} {K : KT} {Q : Unit → HI → Prop} {I : HI} {J : HJ} {R : HR} {x1 : Int32} (hK : am_R M_X12_wrong (am_W d) none R (qC fv J R Q) K) (hs : Stat R)  (hF : (((I 80 9) = 0 → Q () (up (up I 80 9 x1) 80 10 (I 80 6))) ∧ (¬ (I 80 9) = 0 → Q () I))) : K 0 [(0, .ref 80), (1, .int x1)] [] I J R := by
  refine k_ld hK 0 dX12_wrong_0 rfl rfl rfl rfl ?_
  refine k_gI hK dX12_wrong_1 lf_X12_183 rfl (sc_80 hs) rfl ?_
  refine k_eq hK dX12_wrong_4 (tgt := 8) rfl (fun h1 => ?_) (fun h1 => ?_)
  · have hF := hF.1 h1
    refine k_ld hK 0 dX12_wrong_8 rfl rfl rfl rfl ?_
    refine k_ld hK 1 dX12_wrong_9 rfl rfl rfl rfl ?_
    refine k_pI hK dX12_wrong_10 lf_X12_183 rfl rfl rfl (sc_80 hs) ?_
    refine k_ld hK 0 dX12_wrong_13 rfl rfl rfl rfl ?_
    refine k_ld hK 0 dX12_wrong_14 rfl rfl rfl rfl ?_
    refine k_gI hK dX12_wrong_15 lf_X12_158 rfl (sc_80 hs) ((up_nk (by decide)).trans rfl) ?_
    refine k_pI hK dX12_wrong_18 lf_X12_186 rfl rfl rfl (sc_80 hs) ?_
    exact k_vret hK dX12_wrong_21 rfl (done_0 rfl rfl) (qC_i hF)
  · have hF := hF.2 h1
    exact k_vret hK dX12_wrong_7 rfl (done_0 rfl rfl) (qC_i hF)
theorem e_X12_wrong {d : Nat} {Q : Unit → HI → Prop} {I : HI} {J : HJ} {R : HR} {x1 : Int32} (hs : Stat R)  (hF : (((I 80 9) = 0 → Q () (up (up I 80 9 x1) 80 10 (I 80 6))) ∧ (¬ (I 80 9) = 0 → Q () I))) : Wc fv (d + 1) M_X12_wrong [.ref 80, .int x1] I J R Q := ⟨Nat.le_of_ble_eq_true rfl, fun K hK => g_X12_wrong_0 hK hs hF⟩
set_option maxHeartbeats 4000000 in
theorem g_X12_goOn_0 {d : Nat} {K : KT} {Q : Unit → HI → Prop} {I : HI} {J : HJ} {R : HR}  (hK : am_R M_X12_goOn (am_W d) none R (qC fv J R Q) K) (hs : Stat R)  (hF : ((¬ (I 80 9) = 0 → Q () I) ∧ ((I 80 9) = 0 → Wc fv d M_X12_token [.ref 80] I J R (fun u2 I3 => Q () I3)))) : K 0 [(0, .ref 80)] [] I J R := by
  refine k_ld hK 0 dX12_goOn_0 rfl rfl rfl rfl ?_
  refine k_gI hK dX12_goOn_1 lf_X12_183 rfl (sc_80 hs) rfl ?_
  refine k_ne hK dX12_goOn_4 (tgt := 11) rfl (fun h1 => ?_) (fun h1 => ?_)
  · have hF := hF.1 h1
    exact k_vret hK dX12_goOn_11 rfl (done_0 rfl rfl) (qC_i hF)
  · have hF := hF.2 h1
    refine k_ld hK 0 dX12_goOn_7 rfl rfl rfl rfl ?_
    refine k_cVc hK dX12_goOn_8 (Or.inl lm_X12_189) (As := []) (S := []) rfl (sc_80 hs) (Nat.le_of_ble_eq_true rfl) (fit_0 rfl rfl) rfl hF (fun u2 I3 hF => ?_)
    show K _ _ [] _ _ _
    exact k_vret hK dX12_goOn_11 rfl (done_0 rfl rfl) (qC_i hF)
theorem e_X12_goOn {d : Nat} {Q : Unit → HI → Prop} {I : HI} {J : HJ} {R : HR}  (hs : Stat R)  (hF : ((¬ (I 80 9) = 0 → Q () I) ∧ ((I 80 9) = 0 → Wc fv d M_X12_token [.ref 80] I J R (fun u2 I3 => Q () I3)))) : Wc fv (d + 1) M_X12_goOn [.ref 80] I J R Q := ⟨Nat.le_of_ble_eq_true rfl, fun K hK => g_X12_goOn_0 hK hs hF⟩
set_option maxHeartbeats 4000000 in
theorem g_X12_numeral_0 {d : Nat} {K : KT} {Q : Int32 → HI → Prop} {I : HI} {J : HJ} {R : HR} {x1 : Int32} {x2 : Int32} (hK : am_R M_X12_numeral (am_W d) none R (qC fi J R Q) K) (hs : Stat R)  (hF : (((I 80 9) = 0 → (((I 80 7) = 1 → (((I 80 8) < x1 → Wc fv d M_X12_wrong [.ref 80, .int 2] I J R (fun u4 I5 => K 46 [(0, .ref 80), (1, .int x1)] [] I5 J R)) ∧ (¬ (I 80 8) < x1 → (((I 80 8) ≤ x2 → K 46 [(0, .ref 80), (1, .int x1)] [] I J R) ∧ (¬ (I 80 8) ≤ x2 → Wc fv d M_X12_wrong [.ref 80, .int 2] I J R (fun u7 I8 => K 46 [(0, .ref 80), (1, .int x1)] [] I8 J R)))))) ∧ (¬ (I 80 7) = 1 → Wc fv d M_X12_wrong [.ref 80, .int 1] I J R (fun u9 I10 => K 46 [(0, .ref 80), (1, .int x1)] [] I10 J R)))) ∧ (¬ (I 80 9) = 0 → Q x1 I))) : K 0 [(0, .ref 80), (1, .int x1), (2, .int x2)] [] I J R := by
  refine k_ld hK 0 dX12_numeral_0 rfl rfl rfl rfl ?_
  refine k_gI hK dX12_numeral_1 lf_X12_183 rfl (sc_80 hs) rfl ?_
  refine k_eq hK dX12_numeral_4 (tgt := 9) rfl (fun h1 => ?_) (fun h1 => ?_)
  · have hF := hF.1 h1
    refine k_ld hK 0 dX12_numeral_9 rfl rfl rfl rfl ?_
    refine k_gI hK dX12_numeral_10 lf_X12_161 rfl (sc_80 hs) rfl ?_
    refine k_ic hK dX12_numeral_13 ci_1 ?_
    refine k_ceq hK dX12_numeral_14 (tgt := 25) rfl (fun h2 => ?_) (fun h2 => ?_)
    · have hF := hF.1 h2
      refine k_ld hK 0 dX12_numeral_25 rfl rfl rfl rfl ?_
      refine k_gI hK dX12_numeral_26 lf_X12_174 rfl (sc_80 hs) rfl ?_
      refine k_ld hK 1 dX12_numeral_29 rfl rfl rfl rfl ?_
      refine k_clt hK dX12_numeral_30 (tgt := 41) rfl (fun h3 => ?_) (fun h3 => ?_)
      · have hF := hF.1 h3
        refine k_ld hK 0 dX12_numeral_41 rfl rfl rfl rfl ?_
        refine k_ic hK dX12_numeral_42 ci_2 ?_
        refine k_cVc hK dX12_numeral_43 (Or.inl lm_X12_192) (As := [.int 2]) (S := []) rfl (sc_80 hs) (Nat.le_of_ble_eq_true rfl) (fit_0 rfl rfl) rfl hF (fun u4 I5 hF => ?_)
        show K _ _ [] _ _ _
        exact k_sub hK [0, 1] rfl hF
      · have hF := hF.2 h3
        refine k_ld hK 0 dX12_numeral_33 rfl rfl rfl rfl ?_
        refine k_gI hK dX12_numeral_34 lf_X12_174 rfl (sc_80 hs) rfl ?_
        refine k_ld hK 2 dX12_numeral_37 rfl rfl rfl rfl ?_
        refine k_cle hK dX12_numeral_38 (tgt := 46) rfl (fun h6 => ?_) (fun h6 => ?_)
        · have hF := hF.1 h6
          exact k_sub hK [0, 1] rfl hF
        · have hF := hF.2 h6
          refine k_ld hK 0 dX12_numeral_41 rfl rfl rfl rfl ?_
          refine k_ic hK dX12_numeral_42 ci_2 ?_
          refine k_cVc hK dX12_numeral_43 (Or.inl lm_X12_192) (As := [.int 2]) (S := []) rfl (sc_80 hs) (Nat.le_of_ble_eq_true rfl) (fit_0 rfl rfl) rfl hF (fun u7 I8 hF => ?_)
          show K _ _ [] _ _ _
          exact k_sub hK [0, 1] rfl hF
    · have hF := hF.2 h2
      refine k_ld hK 0 dX12_numeral_17 rfl rfl rfl rfl ?_
      refine k_ic hK dX12_numeral_18 ci_1 ?_
      refine k_cVc hK dX12_numeral_19 (Or.inl lm_X12_192) (As := [.int 1]) (S := []) rfl (sc_80 hs) (Nat.le_of_ble_eq_true rfl) (fit_0 rfl rfl) rfl hF (fun u9 I10 hF => ?_)
      show K _ _ [] _ _ _
      refine k_goto hK dX12_numeral_22 (tgt := 46) rfl ?_
      exact k_sub hK [0, 1] rfl hF
  · have hF := hF.2 h1
    refine k_ld hK 1 dX12_numeral_7 rfl rfl rfl rfl ?_
    exact k_iret hK dX12_numeral_8 rfl rfl (done_0 rfl rfl) (qC_i hF)
set_option maxHeartbeats 4000000 in
theorem g_X12_numeral_46 {d : Nat} {K : KT} {Q : Int32 → HI → Prop} {I : HI} {J : HJ} {R : HR} {x1 : Int32} (hK : am_R M_X12_numeral (am_W d) none R (qC fi J R Q) K) (hs : Stat R)  (hF : ((¬ (I 80 9) = 0 → Wc fv d M_X12_goOn [.ref 80] I J R (fun u2 I3 => Q x1 I3)) ∧ ((I 80 9) = 0 → Wc fv d M_X12_goOn [.ref 80] I J R (fun u4 I5 => Q (I 80 8) I5)))) : K 46 [(0, .ref 80), (1, .int x1)] [] I J R := by
  refine k_ld hK 0 dX12_numeral_46 rfl rfl rfl rfl ?_
  refine k_gI hK dX12_numeral_47 lf_X12_183 rfl (sc_80 hs) rfl ?_
  refine k_ne hK dX12_numeral_50 (tgt := 60) rfl (fun h1 => ?_) (fun h1 => ?_)
  · have hF := hF.1 h1
    refine k_ld hK 1 dX12_numeral_60 rfl rfl rfl rfl ?_
    refine k_st hK dX12_numeral_61 rfl rfl rfl (Nat.le_of_ble_eq_true rfl) rfl ?_
    refine k_ld hK 1 dX12_numeral_62 rfl rfl rfl rfl ?_
    refine k_cVc hK dX12_numeral_63 (Or.inl lm_X12_196) (As := []) (S := []) rfl (sc_80 hs) (Nat.le_of_ble_eq_true rfl) (fit_0 rfl rfl) rfl hF (fun u2 I3 hF => ?_)
    show K _ _ [] _ _ _
    refine k_ld hK 0 dX12_numeral_66 rfl rfl rfl rfl ?_
    exact k_iret hK dX12_numeral_67 rfl rfl (done_0 rfl rfl) (qC_i hF)
  · have hF := hF.2 h1
    refine k_ld hK 0 dX12_numeral_53 rfl rfl rfl rfl ?_
    refine k_gI hK dX12_numeral_54 lf_X12_174 rfl (sc_80 hs) rfl ?_
    refine k_goto hK dX12_numeral_57 (tgt := 61) rfl ?_
    refine k_st hK dX12_numeral_61 rfl rfl rfl (Nat.le_of_ble_eq_true rfl) rfl ?_
    refine k_ld hK 1 dX12_numeral_62 rfl rfl rfl rfl ?_
    refine k_cVc hK dX12_numeral_63 (Or.inl lm_X12_196) (As := []) (S := []) rfl (sc_80 hs) (Nat.le_of_ble_eq_true rfl) (fit_0 rfl rfl) rfl hF (fun u4 I5 hF => ?_)
    show K _ _ [] _ _ _
    refine k_ld hK 0 dX12_numeral_66 rfl rfl rfl rfl ?_
    exact k_iret hK dX12_numeral_67 rfl rfl (done_0 rfl rfl) (qC_i hF)
set_option maxHeartbeats 4000000 in
theorem g_X12_isSign_0 {d : Nat} {K : KT} {Q : Bool → Prop} {I : HI} {J : HJ} {R : HR} {x1 : Int32} (hK : am_R M_X12_isSign (am_W d) none R (qP fb I J R Q) K) (hs : Stat R)  (hF : ((¬ (I 80 9) = 0 → Q false) ∧ ((I 80 9) = 0 → ((¬ (I 80 7) = 2 → Q false) ∧ ((I 80 7) = 2 → ((¬ (I 80 8) = x1 → Q false) ∧ ((I 80 8) = x1 → Q true))))))) : K 0 [(0, .ref 80), (1, .int x1)] [] I J R := by
  refine k_ld hK 0 dX12_isSign_0 rfl rfl rfl rfl ?_
  refine k_gI hK dX12_isSign_1 lf_X12_183 rfl (sc_80 hs) rfl ?_
  refine k_ne hK dX12_isSign_4 (tgt := 27) rfl (fun h1 => ?_) (fun h1 => ?_)
  · have hF := hF.1 h1
    refine k_ic hK dX12_isSign_27 ci_0 ?_
    exact k_iret (x := b2i false) hK dX12_isSign_28 rfl (b2i_nar _) (done_0 rfl rfl) (qP_i hF)
  · have hF := hF.2 h1
    refine k_ld hK 0 dX12_isSign_7 rfl rfl rfl rfl ?_
    refine k_gI hK dX12_isSign_8 lf_X12_161 rfl (sc_80 hs) rfl ?_
    refine k_ic hK dX12_isSign_11 ci_2 ?_
    refine k_cne hK dX12_isSign_12 (tgt := 27) rfl (fun h2 => ?_) (fun h2 => ?_)
    · have hF := hF.1 h2
      refine k_ic hK dX12_isSign_27 ci_0 ?_
      exact k_iret (x := b2i false) hK dX12_isSign_28 rfl (b2i_nar _) (done_0 rfl rfl) (qP_i hF)
    · have hF := hF.2 h2
      refine k_ld hK 0 dX12_isSign_15 rfl rfl rfl rfl ?_
      refine k_gI hK dX12_isSign_16 lf_X12_174 rfl (sc_80 hs) rfl ?_
      refine k_ld hK 1 dX12_isSign_19 rfl rfl rfl rfl ?_
      refine k_cne hK dX12_isSign_20 (tgt := 27) rfl (fun h3 => ?_) (fun h3 => ?_)
      · have hF := hF.1 h3
        refine k_ic hK dX12_isSign_27 ci_0 ?_
        exact k_iret (x := b2i false) hK dX12_isSign_28 rfl (b2i_nar _) (done_0 rfl rfl) (qP_i hF)
      · have hF := hF.2 h3
        refine k_ic hK dX12_isSign_23 ci_1 ?_
        refine k_goto hK dX12_isSign_24 (tgt := 28) rfl ?_
        exact k_iret (x := b2i true) hK dX12_isSign_28 rfl (b2i_nar _) (done_0 rfl rfl) (qP_i hF)
theorem e_X12_isSign {d : Nat} {Q : Bool → Prop} {I : HI} {J : HJ} {R : HR} {x1 : Int32} (hs : Stat R)  (hF : ((¬ (I 80 9) = 0 → Q false) ∧ ((I 80 9) = 0 → ((¬ (I 80 7) = 2 → Q false) ∧ ((I 80 7) = 2 → ((¬ (I 80 8) = x1 → Q false) ∧ ((I 80 8) = x1 → Q true))))))) : Wp fb (d + 1) M_X12_isSign [.ref 80, .int x1] I J R Q := ⟨Nat.le_of_ble_eq_true rfl, fun K hK => g_X12_isSign_0 hK hs hF⟩
set_option maxHeartbeats 4000000 in
theorem g_X12_needs_0 {d : Nat} {K : KT} {Q : Unit → HI → Prop} {I : HI} {J : HJ} {R : HR} {x1 : Int32} (hK : am_R M_X12_needs (am_W d) none R (qC fv J R Q) K) (hs : Stat R)  (hF : ((¬ (I 80 9) = 0 → Wc fv d M_X12_goOn [.ref 80] I J R (fun u2 I3 => Q () I3)) ∧ ((I 80 9) = 0 → Wp fb d M_X12_isSign [.ref 80, .int x1] I J R (fun b4 => ((b4 = true → Wc fv d M_X12_goOn [.ref 80] I J R (fun u6 I7 => Q () I7)) ∧ (b4 = false → Wc fv d M_X12_wrong [.ref 80, .int 1] I J R (fun u8 I9 => Wc fv d M_X12_goOn [.ref 80] I9 J R (fun u10 I11 => Q () I11)))))))) : K 0 [(0, .ref 80), (1, .int x1)] [] I J R := by
  refine k_ld hK 0 dX12_needs_0 rfl rfl rfl rfl ?_
  refine k_gI hK dX12_needs_1 lf_X12_183 rfl (sc_80 hs) rfl ?_
  refine k_ne hK dX12_needs_4 (tgt := 20) rfl (fun h1 => ?_) (fun h1 => ?_)
  · have hF := hF.1 h1
    refine k_ld hK 0 dX12_needs_20 rfl rfl rfl rfl ?_
    refine k_cVc hK dX12_needs_21 (Or.inl lm_X12_196) (As := []) (S := []) rfl (sc_80 hs) (Nat.le_of_ble_eq_true rfl) (fit_0 rfl rfl) rfl hF (fun u2 I3 hF => ?_)
    show K _ _ [] _ _ _
    exact k_vret hK dX12_needs_24 rfl (done_0 rfl rfl) (qC_i hF)
  · have hF := hF.2 h1
    refine k_ld hK 0 dX12_needs_7 rfl rfl rfl rfl ?_
    refine k_ld hK 1 dX12_needs_8 rfl rfl rfl rfl ?_
    refine k_cVp hK dX12_needs_9 (Or.inl lm_X12_199) (As := [.int x1]) (S := []) rfl (sc_80 hs) (Nat.le_of_ble_eq_true rfl) (fit_0 rfl rfl) rfl hF (fun b4 hF => ?_)
    show K _ _ [.int (b2i b4)] _ _ _
    refine k_bne hK dX12_needs_12 (tgt := 20) rfl (fun h5 => ?_) (fun h5 => ?_)
    · have hF := hF.1 h5
      refine k_ld hK 0 dX12_needs_20 rfl rfl rfl rfl ?_
      refine k_cVc hK dX12_needs_21 (Or.inl lm_X12_196) (As := []) (S := []) rfl (sc_80 hs) (Nat.le_of_ble_eq_true rfl) (fit_0 rfl rfl) rfl hF (fun u6 I7 hF => ?_)
      show K _ _ [] _ _ _
      exact k_vret hK dX12_needs_24 rfl (done_0 rfl rfl) (qC_i hF)
    · have hF := hF.2 h5
      refine k_ld hK 0 dX12_needs_15 rfl rfl rfl rfl ?_
      refine k_ic hK dX12_needs_16 ci_1 ?_
      refine k_cVc hK dX12_needs_17 (Or.inl lm_X12_192) (As := [.int 1]) (S := []) rfl (sc_80 hs) (Nat.le_of_ble_eq_true rfl) (fit_0 rfl rfl) rfl hF (fun u8 I9 hF => ?_)
      show K _ _ [] _ _ _
      refine k_ld hK 0 dX12_needs_20 rfl rfl rfl rfl ?_
      refine k_cVc hK dX12_needs_21 (Or.inl lm_X12_196) (As := []) (S := []) rfl (sc_80 hs) (Nat.le_of_ble_eq_true rfl) (fit_0 rfl rfl) rfl hF (fun u10 I11 hF => ?_)
      show K _ _ [] _ _ _
      exact k_vret hK dX12_needs_24 rfl (done_0 rfl rfl) (qC_i hF)
theorem e_X12_needs {d : Nat} {Q : Unit → HI → Prop} {I : HI} {J : HJ} {R : HR} {x1 : Int32} (hs : Stat R)  (hF : ((¬ (I 80 9) = 0 → Wc fv d M_X12_goOn [.ref 80] I J R (fun u2 I3 => Q () I3)) ∧ ((I 80 9) = 0 → Wp fb d M_X12_isSign [.ref 80, .int x1] I J R (fun b4 => ((b4 = true → Wc fv d M_X12_goOn [.ref 80] I J R (fun u6 I7 => Q () I7)) ∧ (b4 = false → Wc fv d M_X12_wrong [.ref 80, .int 1] I J R (fun u8 I9 => Wc fv d M_X12_goOn [.ref 80] I9 J R (fun u10 I11 => Q () I11)))))))) : Wc fv (d + 1) M_X12_needs [.ref 80, .int x1] I J R Q := ⟨Nat.le_of_ble_eq_true rfl, fun K hK => g_X12_needs_0 hK hs hF⟩
set_option maxHeartbeats 4000000 in
theorem g_X12_writes_0 {d : Nat} {K : KT} {Q : Unit → HI → Prop} {I : HI} {J : HJ} {R : HR} {x1 : Int32} {x2 : Int32} {x3 : Int32} (hK : am_R M_X12_writes (am_W d) none R (qC fv J R Q) K) (hs : Stat R)  (hF : (((I 80 9) = 0 → (∃ n2 : Nat, (1000 + (I 80 24)) = nI n2 ∧ n2 < 2000 ∧ Q () (up (up (up (up I 86 n2 x1) 87 n2 x2) 88 n2 x3) 80 24 ((I 80 24) + 1)))) ∧ (¬ (I 80 9) = 0 → Q () I))) : K 0 [(0, .ref 80), (1, .int x1), (2, .int x2), (3, .int x3)] [] I J R := by
  refine k_ld hK 0 dX12_writes_0 rfl rfl rfl rfl ?_
  refine k_gI hK dX12_writes_1 lf_X12_183 rfl (sc_80 hs) rfl ?_
  refine k_eq hK dX12_writes_4 (tgt := 8) rfl (fun h1 => ?_) (fun h1 => ?_)
  · have hF := hF.1 h1
    refine k_ld hK 0 dX12_writes_8 rfl rfl rfl rfl ?_
    refine k_gR hK dX12_writes_9 lf_X12_29 rfl (sc_80 hs) (sf_80_21 hs) ?_
    refine k_si hK dX12_writes_12 cs_1000 ?_
    refine k_ld hK 0 dX12_writes_15 rfl rfl rfl rfl ?_
    refine k_gI hK dX12_writes_16 lf_X12_202 rfl (sc_80 hs) rfl ?_
    refine k_op hK dX12_writes_19 rfl rfl ?_
    refine k_ld hK 1 dX12_writes_20 rfl rfl rfl rfl ?_
    obtain ⟨n2, i3, j4, hF⟩ := hF
    refine k_iast hK dX12_writes_21 (sc_86 hs) sn_86 (by decide) i3 j4 ?_
    refine k_ld hK 0 dX12_writes_22 rfl rfl rfl rfl ?_
    refine k_gR hK dX12_writes_23 lf_X12_32 rfl (sc_80 hs) (sf_80_22 hs) ?_
    refine k_si hK dX12_writes_26 cs_1000 ?_
    refine k_ld hK 0 dX12_writes_29 rfl rfl rfl rfl ?_
    refine k_gI hK dX12_writes_30 lf_X12_202 rfl (sc_80 hs) ((up_na (by decide)).trans rfl) ?_
    refine k_op hK dX12_writes_33 rfl rfl ?_
    refine k_ld hK 2 dX12_writes_34 rfl rfl rfl rfl ?_
    refine k_iast hK dX12_writes_35 (sc_87 hs) sn_87 (by decide) i3 j4 ?_
    refine k_ld hK 0 dX12_writes_36 rfl rfl rfl rfl ?_
    refine k_gR hK dX12_writes_37 lf_X12_35 rfl (sc_80 hs) (sf_80_23 hs) ?_
    refine k_si hK dX12_writes_40 cs_1000 ?_
    refine k_ld hK 0 dX12_writes_43 rfl rfl rfl rfl ?_
    refine k_gI hK dX12_writes_44 lf_X12_202 rfl (sc_80 hs) ((up_na (by decide)).trans ((up_na (by decide)).trans rfl)) ?_
    refine k_op hK dX12_writes_47 rfl rfl ?_
    refine k_ld hK 3 dX12_writes_48 rfl rfl rfl rfl ?_
    refine k_iast hK dX12_writes_49 (sc_88 hs) sn_88 (by decide) i3 j4 ?_
    refine k_ld hK 0 dX12_writes_50 rfl rfl rfl rfl ?_
    refine k_op hK dX12_writes_51 rfl rfl ?_
    refine k_gI hK dX12_writes_52 lf_X12_202 rfl (sc_80 hs) ((up_na (by decide)).trans ((up_na (by decide)).trans ((up_na (by decide)).trans rfl))) ?_
    refine k_ic hK dX12_writes_55 ci_1 ?_
    refine k_op hK dX12_writes_56 rfl rfl ?_
    refine k_pI hK dX12_writes_57 lf_X12_202 rfl rfl rfl (sc_80 hs) ?_
    exact k_vret hK dX12_writes_60 rfl (done_0 rfl rfl) (qC_i hF)
  · have hF := hF.2 h1
    exact k_vret hK dX12_writes_7 rfl (done_0 rfl rfl) (qC_i hF)
theorem e_X12_writes {d : Nat} {Q : Unit → HI → Prop} {I : HI} {J : HJ} {R : HR} {x1 : Int32} {x2 : Int32} {x3 : Int32} (hs : Stat R)  (hF : (((I 80 9) = 0 → (∃ n2 : Nat, (1000 + (I 80 24)) = nI n2 ∧ n2 < 2000 ∧ Q () (up (up (up (up I 86 n2 x1) 87 n2 x2) 88 n2 x3) 80 24 ((I 80 24) + 1)))) ∧ (¬ (I 80 9) = 0 → Q () I))) : Wc fv (d + 1) M_X12_writes [.ref 80, .int x1, .int x2, .int x3] I J R Q := ⟨Nat.le_of_ble_eq_true rfl, fun K hK => g_X12_writes_0 hK hs hF⟩
set_option maxHeartbeats 4000000 in
theorem g_X12_variableOf_0 {d : Nat} {K : KT} {Q : Int32 → Prop} {I : HI} {J : HJ} {R : HR} {x1 : Int32} (hK : am_R M_X12_variableOf (am_W d) none R (qP fi I J R Q) K) (hs : Stat R)  (hF : K 2 [(0, .ref 80), (1, .int x1), (2, .int 0)] [] I J R) : K 0 [(0, .ref 80), (1, .int x1)] [] I J R := by
  refine k_ic hK dX12_variableOf_0 ci_0 ?_
  refine k_st hK dX12_variableOf_1 rfl rfl rfl (Nat.le_of_ble_eq_true rfl) rfl ?_
  exact k_sub hK [1, 2, 0] rfl hF
set_option maxHeartbeats 4000000 in
theorem g_X12_variableOf_2 {d : Nat} {K : KT} {Q : Int32 → Prop} {I : HI} {J : HJ} {R : HR} {x1 : Int32} {x2 : Int32} (hK : am_R M_X12_variableOf (am_W d) none R (qP fi I J R Q) K) (hs : Stat R)  (hF : (((I 80 14) ≤ x2 → Q (-1)) ∧ (¬ (I 80 14) ≤ x2 → (∃ n2 : Nat, x2 = nI n2 ∧ n2 < 8 ∧ ((¬ (I 82 n2) = x1 → K 2 [(0, .ref 80), (1, .int x1), (2, .int (x2 + 1))] [] I J R) ∧ ((I 82 n2) = x1 → Q x2)))))) : K 2 [(0, .ref 80), (1, .int x1), (2, .int x2)] [] I J R := by
  refine k_ld hK 2 dX12_variableOf_2 rfl rfl rfl rfl ?_
  refine k_ld hK 0 dX12_variableOf_3 rfl rfl rfl rfl ?_
  refine k_gI hK dX12_variableOf_4 lf_X12_205 rfl (sc_80 hs) rfl ?_
  refine k_cge hK dX12_variableOf_7 (tgt := 28) rfl (fun h1 => ?_) (fun h1 => ?_)
  · have hF := hF.1 h1
    refine k_ic hK dX12_variableOf_28 ci_m1 ?_
    exact k_iret hK dX12_variableOf_29 rfl rfl (done_0 rfl rfl) (qP_i hF)
  · have hF := hF.2 h1
    refine k_ld hK 0 dX12_variableOf_10 rfl rfl rfl rfl ?_
    refine k_gR hK dX12_variableOf_11 lf_X12_17 rfl (sc_80 hs) (sf_80_13 hs) ?_
    refine k_ld hK 2 dX12_variableOf_14 rfl rfl rfl rfl ?_
    obtain ⟨n2, i3, j4, hF⟩ := hF
    refine k_iald hK dX12_variableOf_15 (sc_82 hs) sn_82 (by decide) i3 j4 rfl ?_
    refine k_ld hK 1 dX12_variableOf_16 rfl rfl rfl rfl ?_
    refine k_cne hK dX12_variableOf_17 (tgt := 22) rfl (fun h5 => ?_) (fun h5 => ?_)
    · have hF := hF.1 h5
      refine k_iinc hK 2 dX12_variableOf_22 (v := (x2 + 1)) rfl (Nat.le_of_ble_eq_true rfl) (congrArg (fun q => x2 + q) ci_1) rfl ?_
      refine k_goto hK dX12_variableOf_25 (tgt := 2) rfl ?_
      exact k_sub hK [1, 2, 0] rfl hF
    · have hF := hF.2 h5
      refine k_ld hK 2 dX12_variableOf_20 rfl rfl rfl rfl ?_
      exact k_iret hK dX12_variableOf_21 rfl rfl (done_0 rfl rfl) (qP_i hF)
set_option maxHeartbeats 4000000 in
theorem g_X12_rowOf_0 {d : Nat} {K : KT} {Q : Int32 → Prop} {I : HI} {J : HJ} {R : HR} {x1 : Int32} (hK : am_R M_X12_rowOf (am_W d) none R (qP fi I J R Q) K) (hs : Stat R)  (hF : K 2 [(0, .ref 80), (1, .int x1), (2, .int 0)] [] I J R) : K 0 [(0, .ref 80), (1, .int x1)] [] I J R := by
  refine k_ic hK dX12_rowOf_0 ci_0 ?_
  refine k_st hK dX12_rowOf_1 rfl rfl rfl (Nat.le_of_ble_eq_true rfl) rfl ?_
  exact k_sub hK [1, 2, 0] rfl hF
set_option maxHeartbeats 4000000 in
theorem g_X12_rowOf_2 {d : Nat} {K : KT} {Q : Int32 → Prop} {I : HI} {J : HJ} {R : HR} {x1 : Int32} {x2 : Int32} (hK : am_R M_X12_rowOf (am_W d) none R (qP fi I J R Q) K) (hs : Stat R)  (hF : (((I 80 19) ≤ x2 → Q (-1)) ∧ (¬ (I 80 19) ≤ x2 → (∃ n2 : Nat, x2 = nI n2 ∧ n2 < 6 ∧ ((¬ (I 83 n2) = x1 → K 2 [(0, .ref 80), (1, .int x1), (2, .int (x2 + 1))] [] I J R) ∧ ((I 83 n2) = x1 → Q x2)))))) : K 2 [(0, .ref 80), (1, .int x1), (2, .int x2)] [] I J R := by
  refine k_ld hK 2 dX12_rowOf_2 rfl rfl rfl rfl ?_
  refine k_ld hK 0 dX12_rowOf_3 rfl rfl rfl rfl ?_
  refine k_gI hK dX12_rowOf_4 lf_X12_208 rfl (sc_80 hs) rfl ?_
  refine k_cge hK dX12_rowOf_7 (tgt := 28) rfl (fun h1 => ?_) (fun h1 => ?_)
  · have hF := hF.1 h1
    refine k_ic hK dX12_rowOf_28 ci_m1 ?_
    exact k_iret hK dX12_rowOf_29 rfl rfl (done_0 rfl rfl) (qP_i hF)
  · have hF := hF.2 h1
    refine k_ld hK 0 dX12_rowOf_10 rfl rfl rfl rfl ?_
    refine k_gR hK dX12_rowOf_11 lf_X12_20 rfl (sc_80 hs) (sf_80_16 hs) ?_
    refine k_ld hK 2 dX12_rowOf_14 rfl rfl rfl rfl ?_
    obtain ⟨n2, i3, j4, hF⟩ := hF
    refine k_iald hK dX12_rowOf_15 (sc_83 hs) sn_83 (by decide) i3 j4 rfl ?_
    refine k_ld hK 1 dX12_rowOf_16 rfl rfl rfl rfl ?_
    refine k_cne hK dX12_rowOf_17 (tgt := 22) rfl (fun h5 => ?_) (fun h5 => ?_)
    · have hF := hF.1 h5
      refine k_iinc hK 2 dX12_rowOf_22 (v := (x2 + 1)) rfl (Nat.le_of_ble_eq_true rfl) (congrArg (fun q => x2 + q) ci_1) rfl ?_
      refine k_goto hK dX12_rowOf_25 (tgt := 2) rfl ?_
      exact k_sub hK [1, 2, 0] rfl hF
    · have hF := hF.2 h5
      refine k_ld hK 2 dX12_rowOf_20 rfl rfl rfl rfl ?_
      exact k_iret hK dX12_rowOf_21 rfl rfl (done_0 rfl rfl) (qP_i hF)
set_option maxHeartbeats 4000000 in
theorem g_X12_isName_0 {d : Nat} {K : KT} {Q : Bool → Prop} {I : HI} {J : HJ} {R : HR}  (hK : am_R M_X12_isName (am_W d) none R (qP fb I J R Q) K) (hs : Stat R)  (hF : ((¬ (I 80 9) = 0 → Q false) ∧ ((I 80 9) = 0 → ((¬ (I 80 7) = 0 → Q false) ∧ ((I 80 7) = 0 → Wp fb d M_X12_isOwn [.int (I 80 8)] I J R (fun b3 => ((b3 = true → Q false) ∧ (b3 = false → Q true)))))))) : K 0 [(0, .ref 80)] [] I J R := by
  refine k_ld hK 0 dX12_isName_0 rfl rfl rfl rfl ?_
  refine k_gI hK dX12_isName_1 lf_X12_183 rfl (sc_80 hs) rfl ?_
  refine k_ne hK dX12_isName_4 (tgt := 28) rfl (fun h1 => ?_) (fun h1 => ?_)
  · have hF := hF.1 h1
    refine k_ic hK dX12_isName_28 ci_0 ?_
    exact k_iret (x := b2i false) hK dX12_isName_29 rfl (b2i_nar _) (done_0 rfl rfl) (qP_i hF)
  · have hF := hF.2 h1
    refine k_ld hK 0 dX12_isName_7 rfl rfl rfl rfl ?_
    refine k_gI hK dX12_isName_8 lf_X12_161 rfl (sc_80 hs) rfl ?_
    refine k_ne hK dX12_isName_11 (tgt := 28) rfl (fun h2 => ?_) (fun h2 => ?_)
    · have hF := hF.1 h2
      refine k_ic hK dX12_isName_28 ci_0 ?_
      exact k_iret (x := b2i false) hK dX12_isName_29 rfl (b2i_nar _) (done_0 rfl rfl) (qP_i hF)
    · have hF := hF.2 h2
      refine k_ld hK 0 dX12_isName_14 rfl rfl rfl rfl ?_
      refine k_gI hK dX12_isName_15 lf_X12_174 rfl (sc_80 hs) rfl ?_
      refine k_cSp hK dX12_isName_18 lm_X12_211 (As := [.int (I 80 8)]) (S := []) rfl (Nat.le_of_ble_eq_true rfl) (fit_0 rfl rfl) rfl hF (fun b3 hF => ?_)
      show K _ _ [.int (b2i b3)] _ _ _
      refine k_bne hK dX12_isName_21 (tgt := 28) rfl (fun h4 => ?_) (fun h4 => ?_)
      · have hF := hF.1 h4
        refine k_ic hK dX12_isName_28 ci_0 ?_
        exact k_iret (x := b2i false) hK dX12_isName_29 rfl (b2i_nar _) (done_0 rfl rfl) (qP_i hF)
      · have hF := hF.2 h4
        refine k_ic hK dX12_isName_24 ci_1 ?_
        refine k_goto hK dX12_isName_25 (tgt := 29) rfl ?_
        exact k_iret (x := b2i true) hK dX12_isName_29 rfl (b2i_nar _) (done_0 rfl rfl) (qP_i hF)
theorem e_X12_isName {d : Nat} {Q : Bool → Prop} {I : HI} {J : HJ} {R : HR}  (hs : Stat R)  (hF : ((¬ (I 80 9) = 0 → Q false) ∧ ((I 80 9) = 0 → ((¬ (I 80 7) = 0 → Q false) ∧ ((I 80 7) = 0 → Wp fb d M_X12_isOwn [.int (I 80 8)] I J R (fun b3 => ((b3 = true → Q false) ∧ (b3 = false → Q true)))))))) : Wp fb (d + 1) M_X12_isName [.ref 80] I J R Q := ⟨Nat.le_of_ble_eq_true rfl, fun K hK => g_X12_isName_0 hK hs hF⟩
set_option maxHeartbeats 4000000 in
theorem g_X12_newName_0 {d : Nat} {K : KT} {Q : Int32 → HI → Prop} {I : HI} {J : HJ} {R : HR}  (hK : am_R M_X12_newName (am_W d) none R (qC fi J R Q) K) (hs : Stat R)  (hF : Wp fb d M_X12_isName [.ref 80] I J R (fun b1 => ((b1 = true → Wp fi d M_X12_variableOf [.ref 80, .int (I 80 8)] I J R (fun r3 => ((¬ r3 = (-1) → Wc fv d M_X12_wrong [.ref 80, .int 3] I J R (fun u5 I6 => Wc fv d M_X12_goOn [.ref 80] I6 J R (fun u7 I8 => Q (I 80 8) I8))) ∧ (r3 = (-1) → Wp fi d M_X12_rowOf [.ref 80, .int (I 80 8)] I J R (fun r9 => ((r9 = (-1) → Wc fv d M_X12_goOn [.ref 80] I J R (fun u11 I12 => Q (I 80 8) I12)) ∧ (¬ r9 = (-1) → Wc fv d M_X12_wrong [.ref 80, .int 3] I J R (fun u13 I14 => Wc fv d M_X12_goOn [.ref 80] I14 J R (fun u15 I16 => Q (I 80 8) I16))))))))) ∧ (b1 = false → Wc fv d M_X12_wrong [.ref 80, .int 1] I J R (fun u17 I18 => Wc fv d M_X12_goOn [.ref 80] I18 J R (fun u19 I20 => Q (I 80 8) I20)))))) : K 0 [(0, .ref 80)] [] I J R := by
  refine k_ld hK 0 dX12_newName_0 rfl rfl rfl rfl ?_
  refine k_gI hK dX12_newName_1 lf_X12_174 rfl (sc_80 hs) rfl ?_
  refine k_st hK dX12_newName_4 rfl rfl rfl (Nat.le_of_ble_eq_true rfl) rfl ?_
  refine k_ld hK 1 dX12_newName_5 rfl rfl rfl rfl ?_
  refine k_cVp hK dX12_newName_6 (Or.inl lm_X12_214) (As := []) (S := []) rfl (sc_80 hs) (Nat.le_of_ble_eq_true rfl) (fit_0 rfl rfl) rfl hF (fun b1 hF => ?_)
  show K _ _ [.int (b2i b1)] _ _ _
  refine k_bne hK dX12_newName_9 (tgt := 20) rfl (fun h2 => ?_) (fun h2 => ?_)
  · have hF := hF.1 h2
    refine k_ld hK 1 dX12_newName_20 rfl rfl rfl rfl ?_
    refine k_ld hK 0 dX12_newName_21 rfl rfl rfl rfl ?_
    refine k_cVp hK dX12_newName_22 (Or.inl lm_X12_218) (As := [.int (I 80 8)]) (S := []) rfl (sc_80 hs) (Nat.le_of_ble_eq_true rfl) (fit_0 rfl rfl) rfl hF (fun r3 hF => ?_)
    show K _ _ [.int r3] _ _ _
    refine k_ic hK dX12_newName_25 ci_m1 ?_
    refine k_cne hK dX12_newName_26 (tgt := 38) rfl (fun h4 => ?_) (fun h4 => ?_)
    · have hF := hF.1 h4
      refine k_ld hK 1 dX12_newName_38 rfl rfl rfl rfl ?_
      refine k_ic hK dX12_newName_39 ci_3 ?_
      refine k_cVc hK dX12_newName_40 (Or.inl lm_X12_192) (As := [.int 3]) (S := []) rfl (sc_80 hs) (Nat.le_of_ble_eq_true rfl) (fit_0 rfl rfl) rfl hF (fun u5 I6 hF => ?_)
      show K _ _ [] _ _ _
      refine k_ld hK 1 dX12_newName_43 rfl rfl rfl rfl ?_
      refine k_cVc hK dX12_newName_44 (Or.inl lm_X12_196) (As := []) (S := []) rfl (sc_80 hs) (Nat.le_of_ble_eq_true rfl) (fit_0 rfl rfl) rfl hF (fun u7 I8 hF => ?_)
      show K _ _ [] _ _ _
      refine k_ld hK 0 dX12_newName_47 rfl rfl rfl rfl ?_
      exact k_iret hK dX12_newName_48 rfl rfl (done_0 rfl rfl) (qC_i hF)
    · have hF := hF.2 h4
      refine k_ld hK 1 dX12_newName_29 rfl rfl rfl rfl ?_
      refine k_ld hK 0 dX12_newName_30 rfl rfl rfl rfl ?_
      refine k_cVp hK dX12_newName_31 (Or.inl lm_X12_222) (As := [.int (I 80 8)]) (S := []) rfl (sc_80 hs) (Nat.le_of_ble_eq_true rfl) (fit_0 rfl rfl) rfl hF (fun r9 hF => ?_)
      show K _ _ [.int r9] _ _ _
      refine k_ic hK dX12_newName_34 ci_m1 ?_
      refine k_ceq hK dX12_newName_35 (tgt := 43) rfl (fun h10 => ?_) (fun h10 => ?_)
      · have hF := hF.1 h10
        refine k_ld hK 1 dX12_newName_43 rfl rfl rfl rfl ?_
        refine k_cVc hK dX12_newName_44 (Or.inl lm_X12_196) (As := []) (S := []) rfl (sc_80 hs) (Nat.le_of_ble_eq_true rfl) (fit_0 rfl rfl) rfl hF (fun u11 I12 hF => ?_)
        show K _ _ [] _ _ _
        refine k_ld hK 0 dX12_newName_47 rfl rfl rfl rfl ?_
        exact k_iret hK dX12_newName_48 rfl rfl (done_0 rfl rfl) (qC_i hF)
      · have hF := hF.2 h10
        refine k_ld hK 1 dX12_newName_38 rfl rfl rfl rfl ?_
        refine k_ic hK dX12_newName_39 ci_3 ?_
        refine k_cVc hK dX12_newName_40 (Or.inl lm_X12_192) (As := [.int 3]) (S := []) rfl (sc_80 hs) (Nat.le_of_ble_eq_true rfl) (fit_0 rfl rfl) rfl hF (fun u13 I14 hF => ?_)
        show K _ _ [] _ _ _
        refine k_ld hK 1 dX12_newName_43 rfl rfl rfl rfl ?_
        refine k_cVc hK dX12_newName_44 (Or.inl lm_X12_196) (As := []) (S := []) rfl (sc_80 hs) (Nat.le_of_ble_eq_true rfl) (fit_0 rfl rfl) rfl hF (fun u15 I16 hF => ?_)
        show K _ _ [] _ _ _
        refine k_ld hK 0 dX12_newName_47 rfl rfl rfl rfl ?_
        exact k_iret hK dX12_newName_48 rfl rfl (done_0 rfl rfl) (qC_i hF)
  · have hF := hF.2 h2
    refine k_ld hK 1 dX12_newName_12 rfl rfl rfl rfl ?_
    refine k_ic hK dX12_newName_13 ci_1 ?_
    refine k_cVc hK dX12_newName_14 (Or.inl lm_X12_192) (As := [.int 1]) (S := []) rfl (sc_80 hs) (Nat.le_of_ble_eq_true rfl) (fit_0 rfl rfl) rfl hF (fun u17 I18 hF => ?_)
    show K _ _ [] _ _ _
    refine k_goto hK dX12_newName_17 (tgt := 43) rfl ?_
    refine k_ld hK 1 dX12_newName_43 rfl rfl rfl rfl ?_
    refine k_cVc hK dX12_newName_44 (Or.inl lm_X12_196) (As := []) (S := []) rfl (sc_80 hs) (Nat.le_of_ble_eq_true rfl) (fit_0 rfl rfl) rfl hF (fun u19 I20 hF => ?_)
    show K _ _ [] _ _ _
    refine k_ld hK 0 dX12_newName_47 rfl rfl rfl rfl ?_
    exact k_iret hK dX12_newName_48 rfl rfl (done_0 rfl rfl) (qC_i hF)
theorem e_X12_newName {d : Nat} {Q : Int32 → HI → Prop} {I : HI} {J : HJ} {R : HR}  (hs : Stat R)  (hF : Wp fb d M_X12_isName [.ref 80] I J R (fun b1 => ((b1 = true → Wp fi d M_X12_variableOf [.ref 80, .int (I 80 8)] I J R (fun r3 => ((¬ r3 = (-1) → Wc fv d M_X12_wrong [.ref 80, .int 3] I J R (fun u5 I6 => Wc fv d M_X12_goOn [.ref 80] I6 J R (fun u7 I8 => Q (I 80 8) I8))) ∧ (r3 = (-1) → Wp fi d M_X12_rowOf [.ref 80, .int (I 80 8)] I J R (fun r9 => ((r9 = (-1) → Wc fv d M_X12_goOn [.ref 80] I J R (fun u11 I12 => Q (I 80 8) I12)) ∧ (¬ r9 = (-1) → Wc fv d M_X12_wrong [.ref 80, .int 3] I J R (fun u13 I14 => Wc fv d M_X12_goOn [.ref 80] I14 J R (fun u15 I16 => Q (I 80 8) I16))))))))) ∧ (b1 = false → Wc fv d M_X12_wrong [.ref 80, .int 1] I J R (fun u17 I18 => Wc fv d M_X12_goOn [.ref 80] I18 J R (fun u19 I20 => Q (I 80 8) I20)))))) : Wc fi (d + 1) M_X12_newName [.ref 80] I J R Q := ⟨Nat.le_of_ble_eq_true rfl, fun K hK => g_X12_newName_0 hK hs hF⟩
set_option maxHeartbeats 4000000 in
theorem g_X12_readIn_0 {d : Nat} {K : KT} {Q : Unit → HI → Prop} {I : HI} {J : HJ} {R : HR}  (hK : am_R M_X12_readIn (am_W d) none R (qC fv J R Q) K) (hs : Stat R)  (hF : (((I 80 28) = 0 → ((¬ (I 80 15) = 4 → K 28 [(0, .ref 80)] [] I J R) ∧ ((I 80 15) = 4 → Wc fv d M_X12_wrong [.ref 80, .int 2] I J R (fun u3 I4 => K 28 [(0, .ref 80)] [] I4 J R)))) ∧ (¬ (I 80 28) = 0 → Wc fv d M_X12_wrong [.ref 80, .int 1] I J R (fun u5 I6 => K 28 [(0, .ref 80)] [] I6 J R)))) : K 0 [(0, .ref 80)] [] I J R := by
  refine k_ld hK 0 dX12_readIn_0 rfl rfl rfl rfl ?_
  refine k_gI hK dX12_readIn_1 lf_X12_225 rfl (sc_80 hs) rfl ?_
  refine k_eq hK dX12_readIn_4 (tgt := 15) rfl (fun h1 => ?_) (fun h1 => ?_)
  · have hF := hF.1 h1
    refine k_ld hK 0 dX12_readIn_15 rfl rfl rfl rfl ?_
    refine k_gI hK dX12_readIn_16 lf_X12_229 rfl (sc_80 hs) rfl ?_
    refine k_ic hK dX12_readIn_19 ci_4 ?_
    refine k_cne hK dX12_readIn_20 (tgt := 28) rfl (fun h2 => ?_) (fun h2 => ?_)
    · have hF := hF.1 h2
      exact k_sub hK [0] rfl hF
    · have hF := hF.2 h2
      refine k_ld hK 0 dX12_readIn_23 rfl rfl rfl rfl ?_
      refine k_ic hK dX12_readIn_24 ci_2 ?_
      refine k_cVc hK dX12_readIn_25 (Or.inl lm_X12_192) (As := [.int 2]) (S := []) rfl (sc_80 hs) (Nat.le_of_ble_eq_true rfl) (fit_0 rfl rfl) rfl hF (fun u3 I4 hF => ?_)
      show K _ _ [] _ _ _
      exact k_sub hK [0] rfl hF
  · have hF := hF.2 h1
    refine k_ld hK 0 dX12_readIn_7 rfl rfl rfl rfl ?_
    refine k_ic hK dX12_readIn_8 ci_1 ?_
    refine k_cVc hK dX12_readIn_9 (Or.inl lm_X12_192) (As := [.int 1]) (S := []) rfl (sc_80 hs) (Nat.le_of_ble_eq_true rfl) (fit_0 rfl rfl) rfl hF (fun u5 I6 hF => ?_)
    show K _ _ [] _ _ _
    refine k_goto hK dX12_readIn_12 (tgt := 28) rfl ?_
    exact k_sub hK [0] rfl hF
set_option maxHeartbeats 4000000 in
theorem g_X12_readIn_28 {d : Nat} {K : KT} {Q : Unit → HI → Prop} {I : HI} {J : HJ} {R : HR}  (hK : am_R M_X12_readIn (am_W d) none R (qC fv J R Q) K) (hs : Stat R)  (hF : Wc fv d M_X12_goOn [.ref 80] I J R (fun u1 I2 => Wc fi d M_X12_newName [.ref 80] I2 J R (fun r3 I4 => (((I4 80 9) = 0 → (∃ n6 : Nat, (I4 80 14) = nI n6 ∧ n6 < 8 ∧ Q () (up (up (up I4 82 n6 r3) 80 14 ((I4 80 14) + 1)) 80 15 ((I4 80 15) + 1)))) ∧ (¬ (I4 80 9) = 0 → Q () I4))))) : K 28 [(0, .ref 80)] [] I J R := by
  refine k_ld hK 0 dX12_readIn_28 rfl rfl rfl rfl ?_
  refine k_cVc hK dX12_readIn_29 (Or.inl lm_X12_196) (As := []) (S := []) rfl (sc_80 hs) (Nat.le_of_ble_eq_true rfl) (fit_0 rfl rfl) rfl hF (fun u1 I2 hF => ?_)
  show K _ _ [] _ _ _
  refine k_ld hK 0 dX12_readIn_32 rfl rfl rfl rfl ?_
  refine k_cVc hK dX12_readIn_33 (Or.inl lm_X12_232) (As := []) (S := []) rfl (sc_80 hs) (Nat.le_of_ble_eq_true rfl) (fit_0 rfl rfl) rfl hF (fun r3 I4 hF => ?_)
  show K _ _ [.int r3] _ _ _
  refine k_st hK dX12_readIn_36 rfl rfl rfl (Nat.le_of_ble_eq_true rfl) rfl ?_
  refine k_ld hK 1 dX12_readIn_37 rfl rfl rfl rfl ?_
  refine k_gI hK dX12_readIn_38 lf_X12_183 rfl (sc_80 hs) rfl ?_
  refine k_eq hK dX12_readIn_41 (tgt := 45) rfl (fun h5 => ?_) (fun h5 => ?_)
  · have hF := hF.1 h5
    refine k_ld hK 1 dX12_readIn_45 rfl rfl rfl rfl ?_
    refine k_gR hK dX12_readIn_46 lf_X12_17 rfl (sc_80 hs) (sf_80_13 hs) ?_
    refine k_ld hK 1 dX12_readIn_49 rfl rfl rfl rfl ?_
    refine k_gI hK dX12_readIn_50 lf_X12_205 rfl (sc_80 hs) rfl ?_
    refine k_ld hK 0 dX12_readIn_53 rfl rfl rfl rfl ?_
    obtain ⟨n6, i7, j8, hF⟩ := hF
    refine k_iast hK dX12_readIn_54 (sc_82 hs) sn_82 (by decide) i7 j8 ?_
    refine k_ld hK 1 dX12_readIn_55 rfl rfl rfl rfl ?_
    refine k_op hK dX12_readIn_56 rfl rfl ?_
    refine k_gI hK dX12_readIn_57 lf_X12_205 rfl (sc_80 hs) ((up_na (by decide)).trans rfl) ?_
    refine k_ic hK dX12_readIn_60 ci_1 ?_
    refine k_op hK dX12_readIn_61 rfl rfl ?_
    refine k_pI hK dX12_readIn_62 lf_X12_205 rfl rfl rfl (sc_80 hs) ?_
    refine k_ld hK 1 dX12_readIn_65 rfl rfl rfl rfl ?_
    refine k_op hK dX12_readIn_66 rfl rfl ?_
    refine k_gI hK dX12_readIn_67 lf_X12_229 rfl (sc_80 hs) ((up_nk (by decide)).trans ((up_na (by decide)).trans rfl)) ?_
    refine k_ic hK dX12_readIn_70 ci_1 ?_
    refine k_op hK dX12_readIn_71 rfl rfl ?_
    refine k_pI hK dX12_readIn_72 lf_X12_229 rfl rfl rfl (sc_80 hs) ?_
    exact k_vret hK dX12_readIn_75 rfl (done_0 rfl rfl) (qC_i hF)
  · have hF := hF.2 h5
    exact k_vret hK dX12_readIn_44 rfl (done_0 rfl rfl) (qC_i hF)
set_option maxHeartbeats 4000000 in
theorem g_X12_addsRow_0 {d : Nat} {K : KT} {Q : Unit → HI → Prop} {I : HI} {J : HJ} {R : HR} {x1 : Int32} {x2 : Int32} {x3 : Int32} (hK : am_R M_X12_addsRow (am_W d) none R (qC fv J R Q) K) (hs : Stat R)  (hF : (((I 80 9) = 0 → (∃ n2 : Nat, (I 80 19) = nI n2 ∧ n2 < 6 ∧ (∃ n5 : Nat, (6 + (I 80 19)) = nI n5 ∧ n5 < 12 ∧ Q () (up (up (up (up I 83 n2 x1) 84 n5 x2) 85 n5 x3) 80 19 ((I 80 19) + 1))))) ∧ (¬ (I 80 9) = 0 → Q () I))) : K 0 [(0, .ref 80), (1, .int x1), (2, .int x2), (3, .int x3)] [] I J R := by
  refine k_ld hK 0 dX12_addsRow_0 rfl rfl rfl rfl ?_
  refine k_gI hK dX12_addsRow_1 lf_X12_183 rfl (sc_80 hs) rfl ?_
  refine k_eq hK dX12_addsRow_4 (tgt := 8) rfl (fun h1 => ?_) (fun h1 => ?_)
  · have hF := hF.1 h1
    refine k_ld hK 0 dX12_addsRow_8 rfl rfl rfl rfl ?_
    refine k_gR hK dX12_addsRow_9 lf_X12_20 rfl (sc_80 hs) (sf_80_16 hs) ?_
    refine k_ld hK 0 dX12_addsRow_12 rfl rfl rfl rfl ?_
    refine k_gI hK dX12_addsRow_13 lf_X12_208 rfl (sc_80 hs) rfl ?_
    refine k_ld hK 1 dX12_addsRow_16 rfl rfl rfl rfl ?_
    obtain ⟨n2, i3, j4, hF⟩ := hF
    refine k_iast hK dX12_addsRow_17 (sc_83 hs) sn_83 (by decide) i3 j4 ?_
    refine k_ld hK 0 dX12_addsRow_18 rfl rfl rfl rfl ?_
    refine k_gR hK dX12_addsRow_19 lf_X12_23 rfl (sc_80 hs) (sf_80_17 hs) ?_
    refine k_bi hK dX12_addsRow_22 cb_6 ?_
    refine k_ld hK 0 dX12_addsRow_24 rfl rfl rfl rfl ?_
    refine k_gI hK dX12_addsRow_25 lf_X12_208 rfl (sc_80 hs) ((up_na (by decide)).trans rfl) ?_
    refine k_op hK dX12_addsRow_28 rfl rfl ?_
    refine k_ld hK 2 dX12_addsRow_29 rfl rfl rfl rfl ?_
    obtain ⟨n5, i6, j7, hF⟩ := hF
    refine k_iast hK dX12_addsRow_30 (sc_84 hs) sn_84 (by decide) i6 j7 ?_
    refine k_ld hK 0 dX12_addsRow_31 rfl rfl rfl rfl ?_
    refine k_gR hK dX12_addsRow_32 lf_X12_26 rfl (sc_80 hs) (sf_80_18 hs) ?_
    refine k_bi hK dX12_addsRow_35 cb_6 ?_
    refine k_ld hK 0 dX12_addsRow_37 rfl rfl rfl rfl ?_
    refine k_gI hK dX12_addsRow_38 lf_X12_208 rfl (sc_80 hs) ((up_na (by decide)).trans ((up_na (by decide)).trans rfl)) ?_
    refine k_op hK dX12_addsRow_41 rfl rfl ?_
    refine k_ld hK 3 dX12_addsRow_42 rfl rfl rfl rfl ?_
    refine k_iast hK dX12_addsRow_43 (sc_85 hs) sn_85 (by decide) i6 j7 ?_
    refine k_ld hK 0 dX12_addsRow_44 rfl rfl rfl rfl ?_
    refine k_op hK dX12_addsRow_45 rfl rfl ?_
    refine k_gI hK dX12_addsRow_46 lf_X12_208 rfl (sc_80 hs) ((up_na (by decide)).trans ((up_na (by decide)).trans ((up_na (by decide)).trans rfl))) ?_
    refine k_ic hK dX12_addsRow_49 ci_1 ?_
    refine k_op hK dX12_addsRow_50 rfl rfl ?_
    refine k_pI hK dX12_addsRow_51 lf_X12_208 rfl rfl rfl (sc_80 hs) ?_
    exact k_vret hK dX12_addsRow_54 rfl (done_0 rfl rfl) (qC_i hF)
  · have hF := hF.2 h1
    exact k_vret hK dX12_addsRow_7 rfl (done_0 rfl rfl) (qC_i hF)
theorem e_X12_addsRow {d : Nat} {Q : Unit → HI → Prop} {I : HI} {J : HJ} {R : HR} {x1 : Int32} {x2 : Int32} {x3 : Int32} (hs : Stat R)  (hF : (((I 80 9) = 0 → (∃ n2 : Nat, (I 80 19) = nI n2 ∧ n2 < 6 ∧ (∃ n5 : Nat, (6 + (I 80 19)) = nI n5 ∧ n5 < 12 ∧ Q () (up (up (up (up I 83 n2 x1) 84 n5 x2) 85 n5 x3) 80 19 ((I 80 19) + 1))))) ∧ (¬ (I 80 9) = 0 → Q () I))) : Wc fv (d + 1) M_X12_addsRow [.ref 80, .int x1, .int x2, .int x3] I J R Q := ⟨Nat.le_of_ble_eq_true rfl, fun K hK => g_X12_addsRow_0 hK hs hF⟩
set_option maxHeartbeats 4000000 in
theorem g_X12_readRow_0 {d : Nat} {K : KT} {Q : Unit → HI → Prop} {I : HI} {J : HJ} {R : HR} {y1 : Bool} (hK : am_R M_X12_readRow (am_W d) none R (qC fv J R Q) K) (hs : Stat R)  (hF : (((I 80 28) = 0 → ((¬ (I 80 19) = 6 → K 29 [(0, .ref 80), (1, .int (b2i y1))] [] I J R) ∧ ((I 80 19) = 6 → Wc fv d M_X12_wrong [.ref 80, .int 2] I J R (fun u3 I4 => K 29 [(0, .ref 80), (1, .int (b2i y1))] [] I4 J R)))) ∧ (¬ (I 80 28) = 0 → Wc fv d M_X12_wrong [.ref 80, .int 1] I J R (fun u5 I6 => K 29 [(0, .ref 80), (1, .int (b2i y1))] [] I6 J R)))) : K 0 [(0, .ref 80), (1, .int (b2i y1))] [] I J R := by
  refine k_ld hK 0 dX12_readRow_0 rfl rfl rfl rfl ?_
  refine k_gI hK dX12_readRow_1 lf_X12_225 rfl (sc_80 hs) rfl ?_
  refine k_eq hK dX12_readRow_4 (tgt := 15) rfl (fun h1 => ?_) (fun h1 => ?_)
  · have hF := hF.1 h1
    refine k_ld hK 0 dX12_readRow_15 rfl rfl rfl rfl ?_
    refine k_gI hK dX12_readRow_16 lf_X12_208 rfl (sc_80 hs) rfl ?_
    refine k_bi hK dX12_readRow_19 cb_6 ?_
    refine k_cne hK dX12_readRow_21 (tgt := 29) rfl (fun h2 => ?_) (fun h2 => ?_)
    · have hF := hF.1 h2
      exact k_sub hK [0, 1] rfl hF
    · have hF := hF.2 h2
      refine k_ld hK 0 dX12_readRow_24 rfl rfl rfl rfl ?_
      refine k_ic hK dX12_readRow_25 ci_2 ?_
      refine k_cVc hK dX12_readRow_26 (Or.inl lm_X12_192) (As := [.int 2]) (S := []) rfl (sc_80 hs) (Nat.le_of_ble_eq_true rfl) (fit_0 rfl rfl) rfl hF (fun u3 I4 hF => ?_)
      show K _ _ [] _ _ _
      exact k_sub hK [0, 1] rfl hF
  · have hF := hF.2 h1
    refine k_ld hK 0 dX12_readRow_7 rfl rfl rfl rfl ?_
    refine k_ic hK dX12_readRow_8 ci_1 ?_
    refine k_cVc hK dX12_readRow_9 (Or.inl lm_X12_192) (As := [.int 1]) (S := []) rfl (sc_80 hs) (Nat.le_of_ble_eq_true rfl) (fit_0 rfl rfl) rfl hF (fun u5 I6 hF => ?_)
    show K _ _ [] _ _ _
    refine k_goto hK dX12_readRow_12 (tgt := 29) rfl ?_
    exact k_sub hK [0, 1] rfl hF
set_option maxHeartbeats 4000000 in
theorem g_X12_readRow_29 {d : Nat} {K : KT} {Q : Unit → HI → Prop} {I : HI} {J : HJ} {R : HR} {y1 : Bool} (hK : am_R M_X12_readRow (am_W d) none R (qC fv J R Q) K) (hs : Stat R)  (hF : Wc fv d M_X12_goOn [.ref 80] I J R (fun u1 I2 => Wc fi d M_X12_newName [.ref 80] I2 J R (fun r3 I4 => ((y1 = true → Wp fb d M_X12_isName [.ref 80] I4 J R (fun b6 => ((b6 = false → Wc fv d M_X12_wrong [.ref 80, .int 1] I4 J R (fun u8 I9 => K 101 [(0, .ref 80), (2, .int r3), (3, .int (-1))] [] I9 J R)) ∧ (b6 = true → Wp fi d M_X12_rowOf [.ref 80, .int (I4 80 8)] I4 J R (fun r10 => ((¬ r10 = (-1) → K 101 [(0, .ref 80), (2, .int r3), (3, .int r10)] [] I4 J R) ∧ (r10 = (-1) → Wc fv d M_X12_wrong [.ref 80, .int 1] I4 J R (fun u12 I13 => K 101 [(0, .ref 80), (2, .int r3), (3, .int r10)] [] I13 J R)))))))) ∧ (y1 = false → Wc fi d M_X12_numeral [.ref 80, .int 1, .int 8] I4 J R (fun r14 I15 => Wc fv d M_X12_addsRow [.ref 80, .int r3, .int (I15 80 20), .int r14] I15 J R (fun u16 I17 => Q () (up I17 80 20 ((I17 80 20) + r14))))))))) : K 29 [(0, .ref 80), (1, .int (b2i y1))] [] I J R := by
  refine k_ld hK 0 dX12_readRow_29 rfl rfl rfl rfl ?_
  refine k_cVc hK dX12_readRow_30 (Or.inl lm_X12_196) (As := []) (S := []) rfl (sc_80 hs) (Nat.le_of_ble_eq_true rfl) (fit_0 rfl rfl) rfl hF (fun u1 I2 hF => ?_)
  show K _ _ [] _ _ _
  refine k_ld hK 0 dX12_readRow_33 rfl rfl rfl rfl ?_
  refine k_cVc hK dX12_readRow_34 (Or.inl lm_X12_232) (As := []) (S := []) rfl (sc_80 hs) (Nat.le_of_ble_eq_true rfl) (fit_0 rfl rfl) rfl hF (fun r3 I4 hF => ?_)
  show K _ _ [.int r3] _ _ _
  refine k_st hK dX12_readRow_37 rfl rfl rfl (Nat.le_of_ble_eq_true rfl) rfl ?_
  refine k_ld hK 2 dX12_readRow_38 rfl rfl rfl rfl ?_
  refine k_bne hK dX12_readRow_39 (tgt := 71) rfl (fun h5 => ?_) (fun h5 => ?_)
  · have hF := hF.1 h5
    refine k_ld hK 1 dX12_readRow_71 rfl rfl rfl rfl ?_
    refine k_cVp hK dX12_readRow_72 (Or.inl lm_X12_214) (As := []) (S := []) rfl (sc_80 hs) (Nat.le_of_ble_eq_true rfl) (fit_0 rfl rfl) rfl hF (fun b6 hF => ?_)
    show K _ _ [.int (b2i b6)] _ _ _
    refine k_beq hK dX12_readRow_75 (tgt := 89) rfl (fun h7 => ?_) (fun h7 => ?_)
    · have hF := hF.1 h7
      refine k_ic hK dX12_readRow_89 ci_m1 ?_
      refine k_st hK dX12_readRow_90 rfl rfl rfl (Nat.le_of_ble_eq_true rfl) rfl ?_
      refine k_ld hK 0 dX12_readRow_91 rfl rfl rfl rfl ?_
      refine k_ic hK dX12_readRow_92 ci_m1 ?_
      refine k_cne hK dX12_readRow_93 (tgt := 101) rfl (fun h => absurd h (by decide)) (fun _ => ?_)
      refine k_ld hK 2 dX12_readRow_96 rfl rfl rfl rfl ?_
      refine k_ic hK dX12_readRow_97 ci_1 ?_
      refine k_cVc hK dX12_readRow_98 (Or.inl lm_X12_192) (As := [.int 1]) (S := []) rfl (sc_80 hs) (Nat.le_of_ble_eq_true rfl) (fit_0 rfl rfl) rfl hF (fun u8 I9 hF => ?_)
      show K _ _ [] _ _ _
      exact k_sub hK [2, 1, 0] rfl hF
    · have hF := hF.2 h7
      refine k_ld hK 1 dX12_readRow_78 rfl rfl rfl rfl ?_
      refine k_ld hK 1 dX12_readRow_79 rfl rfl rfl rfl ?_
      refine k_gI hK dX12_readRow_80 lf_X12_174 rfl (sc_80 hs) rfl ?_
      refine k_cVp hK dX12_readRow_83 (Or.inl lm_X12_222) (As := [.int (I4 80 8)]) (S := []) rfl (sc_80 hs) (Nat.le_of_ble_eq_true rfl) (fit_0 rfl rfl) rfl hF (fun r10 hF => ?_)
      show K _ _ [.int r10] _ _ _
      refine k_goto hK dX12_readRow_86 (tgt := 90) rfl ?_
      refine k_st hK dX12_readRow_90 rfl rfl rfl (Nat.le_of_ble_eq_true rfl) rfl ?_
      refine k_ld hK 0 dX12_readRow_91 rfl rfl rfl rfl ?_
      refine k_ic hK dX12_readRow_92 ci_m1 ?_
      refine k_cne hK dX12_readRow_93 (tgt := 101) rfl (fun h11 => ?_) (fun h11 => ?_)
      · have hF := hF.1 h11
        exact k_sub hK [2, 1, 0] rfl hF
      · have hF := hF.2 h11
        refine k_ld hK 2 dX12_readRow_96 rfl rfl rfl rfl ?_
        refine k_ic hK dX12_readRow_97 ci_1 ?_
        refine k_cVc hK dX12_readRow_98 (Or.inl lm_X12_192) (As := [.int 1]) (S := []) rfl (sc_80 hs) (Nat.le_of_ble_eq_true rfl) (fit_0 rfl rfl) rfl hF (fun u12 I13 hF => ?_)
        show K _ _ [] _ _ _
        exact k_sub hK [2, 1, 0] rfl hF
  · have hF := hF.2 h5
    refine k_ld hK 1 dX12_readRow_42 rfl rfl rfl rfl ?_
    refine k_ic hK dX12_readRow_43 ci_1 ?_
    refine k_bi hK dX12_readRow_44 cb_8 ?_
    refine k_cVc hK dX12_readRow_46 (Or.inl lm_X12_235) (As := [.int 1, .int 8]) (S := []) rfl (sc_80 hs) (Nat.le_of_ble_eq_true rfl) (fit_0 rfl rfl) rfl hF (fun r14 I15 hF => ?_)
    show K _ _ [.int r14] _ _ _
    refine k_st hK dX12_readRow_49 rfl rfl rfl (Nat.le_of_ble_eq_true rfl) rfl ?_
    refine k_ld hK 2 dX12_readRow_50 rfl rfl rfl rfl ?_
    refine k_ld hK 1 dX12_readRow_51 rfl rfl rfl rfl ?_
    refine k_ld hK 2 dX12_readRow_52 rfl rfl rfl rfl ?_
    refine k_gI hK dX12_readRow_53 lf_X12_239 rfl (sc_80 hs) rfl ?_
    refine k_ld hK 0 dX12_readRow_56 rfl rfl rfl rfl ?_
    refine k_cVc hK dX12_readRow_57 (Or.inl lm_X12_242) (As := [.int r3, .int (I15 80 20), .int r14]) (S := []) rfl (sc_80 hs) (Nat.le_of_ble_eq_true rfl) (fit_0 rfl rfl) rfl hF (fun u16 I17 hF => ?_)
    show K _ _ [] _ _ _
    refine k_ld hK 2 dX12_readRow_60 rfl rfl rfl rfl ?_
    refine k_op hK dX12_readRow_61 rfl rfl ?_
    refine k_gI hK dX12_readRow_62 lf_X12_239 rfl (sc_80 hs) rfl ?_
    refine k_ld hK 0 dX12_readRow_65 rfl rfl rfl rfl ?_
    refine k_op hK dX12_readRow_66 rfl rfl ?_
    refine k_pI hK dX12_readRow_67 lf_X12_239 rfl rfl rfl (sc_80 hs) ?_
    exact k_vret hK dX12_readRow_70 rfl (done_0 rfl rfl) (qC_i hF)
set_option maxHeartbeats 4000000 in
theorem g_X12_readRow_101 {d : Nat} {K : KT} {Q : Unit → HI → Prop} {I : HI} {J : HJ} {R : HR} {x2 : Int32} {x3 : Int32} (hK : am_R M_X12_readRow (am_W d) none R (qC fv J R Q) K) (hs : Stat R)  (hF : Wc fv d M_X12_goOn [.ref 80] I J R (fun u1 I2 => (((I2 80 9) = 0 → (∃ n4 : Nat, (6 + x3) = nI n4 ∧ n4 < 12 ∧ Wc fi d M_X12_numeral [.ref 80, .int 0, .int ((I2 85 n4) - 1)] I2 J R (fun r7 I8 => Wc fv d M_X12_addsRow [.ref 80, .int x2, .int ((I8 84 n4) + r7), .int ((I8 85 n4) - r7)] I8 J R (fun u9 I10 => Q () I10)))) ∧ (¬ (I2 80 9) = 0 → Q () I2)))) : K 101 [(0, .ref 80), (2, .int x2), (3, .int x3)] [] I J R := by
  refine k_ld hK 0 dX12_readRow_101 rfl rfl rfl rfl ?_
  refine k_cVc hK dX12_readRow_102 (Or.inl lm_X12_196) (As := []) (S := []) rfl (sc_80 hs) (Nat.le_of_ble_eq_true rfl) (fit_0 rfl rfl) rfl hF (fun u1 I2 hF => ?_)
  show K _ _ [] _ _ _
  refine k_ld hK 0 dX12_readRow_105 rfl rfl rfl rfl ?_
  refine k_gI hK dX12_readRow_106 lf_X12_183 rfl (sc_80 hs) rfl ?_
  refine k_eq hK dX12_readRow_109 (tgt := 113) rfl (fun h3 => ?_) (fun h3 => ?_)
  · have hF := hF.1 h3
    refine k_ld hK 0 dX12_readRow_113 rfl rfl rfl rfl ?_
    refine k_ic hK dX12_readRow_114 ci_0 ?_
    refine k_ld hK 0 dX12_readRow_115 rfl rfl rfl rfl ?_
    refine k_gR hK dX12_readRow_116 lf_X12_26 rfl (sc_80 hs) (sf_80_18 hs) ?_
    refine k_bi hK dX12_readRow_119 cb_6 ?_
    refine k_ld hK 2 dX12_readRow_121 rfl rfl rfl rfl ?_
    refine k_op hK dX12_readRow_122 rfl rfl ?_
    obtain ⟨n4, i5, j6, hF⟩ := hF
    refine k_iald hK dX12_readRow_123 (sc_85 hs) sn_85 (by decide) i5 j6 rfl ?_
    refine k_ic hK dX12_readRow_124 ci_1 ?_
    refine k_op hK dX12_readRow_125 rfl rfl ?_
    refine k_cVc hK dX12_readRow_126 (Or.inl lm_X12_235) (As := [.int 0, .int ((I2 85 n4) - 1)]) (S := []) rfl (sc_80 hs) (Nat.le_of_ble_eq_true rfl) (fit_0 rfl rfl) rfl hF (fun r7 I8 hF => ?_)
    show K _ _ [.int r7] _ _ _
    refine k_st hK dX12_readRow_129 rfl rfl rfl (Nat.le_of_ble_eq_true rfl) rfl ?_
    refine k_ld hK 1 dX12_readRow_131 rfl rfl rfl rfl ?_
    refine k_ld hK 2 dX12_readRow_132 rfl rfl rfl rfl ?_
    refine k_ld hK 1 dX12_readRow_133 rfl rfl rfl rfl ?_
    refine k_gR hK dX12_readRow_134 lf_X12_23 rfl (sc_80 hs) (sf_80_17 hs) ?_
    refine k_bi hK dX12_readRow_137 cb_6 ?_
    refine k_ld hK 3 dX12_readRow_139 rfl rfl rfl rfl ?_
    refine k_op hK dX12_readRow_140 rfl rfl ?_
    refine k_iald hK dX12_readRow_141 (sc_84 hs) sn_84 (by decide) i5 j6 rfl ?_
    refine k_ld hK 0 dX12_readRow_142 rfl rfl rfl rfl ?_
    refine k_op hK dX12_readRow_144 rfl rfl ?_
    refine k_ld hK 1 dX12_readRow_145 rfl rfl rfl rfl ?_
    refine k_gR hK dX12_readRow_146 lf_X12_26 rfl (sc_80 hs) (sf_80_18 hs) ?_
    refine k_bi hK dX12_readRow_149 cb_6 ?_
    refine k_ld hK 3 dX12_readRow_151 rfl rfl rfl rfl ?_
    refine k_op hK dX12_readRow_152 rfl rfl ?_
    refine k_iald hK dX12_readRow_153 (sc_85 hs) sn_85 (by decide) i5 j6 rfl ?_
    refine k_ld hK 0 dX12_readRow_154 rfl rfl rfl rfl ?_
    refine k_op hK dX12_readRow_156 rfl rfl ?_
    refine k_cVc hK dX12_readRow_157 (Or.inl lm_X12_242) (As := [.int x2, .int ((I8 84 n4) + r7), .int ((I8 85 n4) - r7)]) (S := []) rfl (sc_80 hs) (Nat.le_of_ble_eq_true rfl) (fit_0 rfl rfl) rfl hF (fun u9 I10 hF => ?_)
    show K _ _ [] _ _ _
    exact k_vret hK dX12_readRow_160 rfl (done_0 rfl rfl) (qC_i hF)
  · have hF := hF.2 h3
    exact k_vret hK dX12_readRow_112 rfl (done_0 rfl rfl) (qC_i hF)
set_option maxHeartbeats 4000000 in
theorem g_X12_bracket_0 {d : Nat} {K : KT} {Q : Unit → HI → Prop} {I : HI} {J : HJ} {R : HR}  (hK : am_R M_X12_bracket (am_W d) none R (qC fv J R Q) K) (hs : Stat R)  (hF : ((¬ (I 80 9) = 0 → Wc fv d M_X12_goOn [.ref 80] (up I 80 29 ((I 80 29) + 1)) J R (fun u2 I3 => Q () I3)) ∧ ((I 80 9) = 0 → ((¬ (I 80 29) = 8 → Wc fv d M_X12_goOn [.ref 80] (up I 80 29 ((I 80 29) + 1)) J R (fun u5 I6 => Q () I6)) ∧ ((I 80 29) = 8 → Wc fv d M_X12_wrong [.ref 80, .int 2] I J R (fun u7 I8 => Wc fv d M_X12_goOn [.ref 80] (up I8 80 29 ((I8 80 29) + 1)) J R (fun u9 I10 => Q () I10))))))) : K 0 [(0, .ref 80)] [] I J R := by
  refine k_ld hK 0 dX12_bracket_0 rfl rfl rfl rfl ?_
  refine k_gI hK dX12_bracket_1 lf_X12_183 rfl (sc_80 hs) rfl ?_
  refine k_ne hK dX12_bracket_4 (tgt := 21) rfl (fun h1 => ?_) (fun h1 => ?_)
  · have hF := hF.1 h1
    refine k_ld hK 0 dX12_bracket_21 rfl rfl rfl rfl ?_
    refine k_op hK dX12_bracket_22 rfl rfl ?_
    refine k_gI hK dX12_bracket_23 lf_X12_246 rfl (sc_80 hs) rfl ?_
    refine k_ic hK dX12_bracket_26 ci_1 ?_
    refine k_op hK dX12_bracket_27 rfl rfl ?_
    refine k_pI hK dX12_bracket_28 lf_X12_246 rfl rfl rfl (sc_80 hs) ?_
    refine k_ld hK 0 dX12_bracket_31 rfl rfl rfl rfl ?_
    refine k_cVc hK dX12_bracket_32 (Or.inl lm_X12_196) (As := []) (S := []) rfl (sc_80 hs) (Nat.le_of_ble_eq_true rfl) (fit_0 rfl rfl) rfl hF (fun u2 I3 hF => ?_)
    show K _ _ [] _ _ _
    exact k_vret hK dX12_bracket_35 rfl (done_0 rfl rfl) (qC_i hF)
  · have hF := hF.2 h1
    refine k_ld hK 0 dX12_bracket_7 rfl rfl rfl rfl ?_
    refine k_gI hK dX12_bracket_8 lf_X12_246 rfl (sc_80 hs) rfl ?_
    refine k_bi hK dX12_bracket_11 cb_8 ?_
    refine k_cne hK dX12_bracket_13 (tgt := 21) rfl (fun h4 => ?_) (fun h4 => ?_)
    · have hF := hF.1 h4
      refine k_ld hK 0 dX12_bracket_21 rfl rfl rfl rfl ?_
      refine k_op hK dX12_bracket_22 rfl rfl ?_
      refine k_gI hK dX12_bracket_23 lf_X12_246 rfl (sc_80 hs) rfl ?_
      refine k_ic hK dX12_bracket_26 ci_1 ?_
      refine k_op hK dX12_bracket_27 rfl rfl ?_
      refine k_pI hK dX12_bracket_28 lf_X12_246 rfl rfl rfl (sc_80 hs) ?_
      refine k_ld hK 0 dX12_bracket_31 rfl rfl rfl rfl ?_
      refine k_cVc hK dX12_bracket_32 (Or.inl lm_X12_196) (As := []) (S := []) rfl (sc_80 hs) (Nat.le_of_ble_eq_true rfl) (fit_0 rfl rfl) rfl hF (fun u5 I6 hF => ?_)
      show K _ _ [] _ _ _
      exact k_vret hK dX12_bracket_35 rfl (done_0 rfl rfl) (qC_i hF)
    · have hF := hF.2 h4
      refine k_ld hK 0 dX12_bracket_16 rfl rfl rfl rfl ?_
      refine k_ic hK dX12_bracket_17 ci_2 ?_
      refine k_cVc hK dX12_bracket_18 (Or.inl lm_X12_192) (As := [.int 2]) (S := []) rfl (sc_80 hs) (Nat.le_of_ble_eq_true rfl) (fit_0 rfl rfl) rfl hF (fun u7 I8 hF => ?_)
      show K _ _ [] _ _ _
      refine k_ld hK 0 dX12_bracket_21 rfl rfl rfl rfl ?_
      refine k_op hK dX12_bracket_22 rfl rfl ?_
      refine k_gI hK dX12_bracket_23 lf_X12_246 rfl (sc_80 hs) rfl ?_
      refine k_ic hK dX12_bracket_26 ci_1 ?_
      refine k_op hK dX12_bracket_27 rfl rfl ?_
      refine k_pI hK dX12_bracket_28 lf_X12_246 rfl rfl rfl (sc_80 hs) ?_
      refine k_ld hK 0 dX12_bracket_31 rfl rfl rfl rfl ?_
      refine k_cVc hK dX12_bracket_32 (Or.inl lm_X12_196) (As := []) (S := []) rfl (sc_80 hs) (Nat.le_of_ble_eq_true rfl) (fit_0 rfl rfl) rfl hF (fun u9 I10 hF => ?_)
      show K _ _ [] _ _ _
      exact k_vret hK dX12_bracket_35 rfl (done_0 rfl rfl) (qC_i hF)
theorem e_X12_bracket {d : Nat} {Q : Unit → HI → Prop} {I : HI} {J : HJ} {R : HR}  (hs : Stat R)  (hF : ((¬ (I 80 9) = 0 → Wc fv d M_X12_goOn [.ref 80] (up I 80 29 ((I 80 29) + 1)) J R (fun u2 I3 => Q () I3)) ∧ ((I 80 9) = 0 → ((¬ (I 80 29) = 8 → Wc fv d M_X12_goOn [.ref 80] (up I 80 29 ((I 80 29) + 1)) J R (fun u5 I6 => Q () I6)) ∧ ((I 80 29) = 8 → Wc fv d M_X12_wrong [.ref 80, .int 2] I J R (fun u7 I8 => Wc fv d M_X12_goOn [.ref 80] (up I8 80 29 ((I8 80 29) + 1)) J R (fun u9 I10 => Q () I10))))))) : Wc fv (d + 1) M_X12_bracket [.ref 80] I J R Q := ⟨Nat.le_of_ble_eq_true rfl, fun K hK => g_X12_bracket_0 hK hs hF⟩
set_option maxHeartbeats 4000000 in
theorem g_X12_whole_0 {d : Nat} {K : KT} {Q : Unit → HI → Prop} {I : HI} {J : HJ} {R : HR}  (hK : am_R M_X12_whole (am_W d) none R (qC fv J R Q) K) (hs : Stat R)  (hF : Wc fv d M_X12_sum [.ref 80] (up I 80 29 0) J R (fun u1 I2 => Q () I2)) : K 0 [(0, .ref 80)] [] I J R := by
  refine k_ld hK 0 dX12_whole_0 rfl rfl rfl rfl ?_
  refine k_ic hK dX12_whole_1 ci_0 ?_
  refine k_pI hK dX12_whole_2 lf_X12_246 rfl rfl rfl (sc_80 hs) ?_
  refine k_ld hK 0 dX12_whole_5 rfl rfl rfl rfl ?_
  refine k_cVc hK dX12_whole_6 (Or.inl lm_X12_249) (As := []) (S := []) rfl (sc_80 hs) (Nat.le_of_ble_eq_true rfl) (fit_0 rfl rfl) rfl hF (fun u1 I2 hF => ?_)
  show K _ _ [] _ _ _
  exact k_vret hK dX12_whole_9 rfl (done_0 rfl rfl) (qC_i hF)
theorem e_X12_whole {d : Nat} {Q : Unit → HI → Prop} {I : HI} {J : HJ} {R : HR}  (hs : Stat R)  (hF : Wc fv d M_X12_sum [.ref 80] (up I 80 29 0) J R (fun u1 I2 => Q () I2)) : Wc fv (d + 1) M_X12_whole [.ref 80] I J R Q := ⟨Nat.le_of_ble_eq_true rfl, fun K hK => g_X12_whole_0 hK hs hF⟩
set_option maxHeartbeats 4000000 in
theorem g_X12_sum_0 {d : Nat} {K : KT} {Q : Unit → HI → Prop} {I : HI} {J : HJ} {R : HR}  (hK : am_R M_X12_sum (am_W d) none R (qC fv J R Q) K) (hs : Stat R)  (hF : Wc fv d M_X12_product [.ref 80] I J R (fun u1 I2 => K 4 [(0, .ref 80)] [] I2 J R)) : K 0 [(0, .ref 80)] [] I J R := by
  refine k_ld hK 0 dX12_sum_0 rfl rfl rfl rfl ?_
  refine k_cVc hK dX12_sum_1 (Or.inl lm_X12_252) (As := []) (S := []) rfl (sc_80 hs) (Nat.le_of_ble_eq_true rfl) (fit_0 rfl rfl) rfl hF (fun u1 I2 hF => ?_)
  show K _ _ [] _ _ _
  exact k_sub hK [0] rfl hF
set_option maxHeartbeats 4000000 in
theorem g_X12_sum_4 {d : Nat} {K : KT} {Q : Unit → HI → Prop} {I : HI} {J : HJ} {R : HR}  (hK : am_R M_X12_sum (am_W d) none R (qC fv J R Q) K) (hs : Stat R)  (hF : Wp fb d M_X12_isSign [.ref 80, .int 43] I J R (fun b1 => ((b1 = true → K 22 [(0, .ref 80)] [] I J R) ∧ (b1 = false → Wp fb d M_X12_isSign [.ref 80, .int 45] I J R (fun b3 => ((b3 = false → Q () I) ∧ (b3 = true → K 22 [(0, .ref 80)] [] I J R))))))) : K 4 [(0, .ref 80)] [] I J R := by
  refine k_ld hK 0 dX12_sum_4 rfl rfl rfl rfl ?_
  refine k_bi hK dX12_sum_5 cb_43 ?_
  refine k_cVp hK dX12_sum_7 (Or.inl lm_X12_199) (As := [.int 43]) (S := []) rfl (sc_80 hs) (Nat.le_of_ble_eq_true rfl) (fit_0 rfl rfl) rfl hF (fun b1 hF => ?_)
  show K _ _ [.int (b2i b1)] _ _ _
  refine k_bne hK dX12_sum_10 (tgt := 22) rfl (fun h2 => ?_) (fun h2 => ?_)
  · have hF := hF.1 h2
    exact k_sub hK [0] rfl hF
  · have hF := hF.2 h2
    refine k_ld hK 0 dX12_sum_13 rfl rfl rfl rfl ?_
    refine k_bi hK dX12_sum_14 cb_45 ?_
    refine k_cVp hK dX12_sum_16 (Or.inl lm_X12_199) (As := [.int 45]) (S := []) rfl (sc_80 hs) (Nat.le_of_ble_eq_true rfl) (fit_0 rfl rfl) rfl hF (fun b3 hF => ?_)
    show K _ _ [.int (b2i b3)] _ _ _
    refine k_beq hK dX12_sum_19 (tgt := 55) rfl (fun h4 => ?_) (fun h4 => ?_)
    · have hF := hF.1 h4
      exact k_vret hK dX12_sum_55 rfl (done_0 rfl rfl) (qC_i hF)
    · have hF := hF.2 h4
      exact k_sub hK [0] rfl hF
set_option maxHeartbeats 4000000 in
theorem g_X12_sum_22 {d : Nat} {K : KT} {Q : Unit → HI → Prop} {I : HI} {J : HJ} {R : HR}  (hK : am_R M_X12_sum (am_W d) none R (qC fv J R Q) K) (hs : Stat R)  (hF : ((¬ (I 80 8) = 43 → Wc fv d M_X12_goOn [.ref 80] I J R (fun u2 I3 => Wc fv d M_X12_product [.ref 80] I3 J R (fun u4 I5 => Wc fv d M_X12_writes [.ref 80, .int 4, .int 0, .int 0] I5 J R (fun u6 I7 => K 4 [(0, .ref 80)] [] I7 J R)))) ∧ ((I 80 8) = 43 → Wc fv d M_X12_goOn [.ref 80] I J R (fun u8 I9 => Wc fv d M_X12_product [.ref 80] I9 J R (fun u10 I11 => Wc fv d M_X12_writes [.ref 80, .int 3, .int 0, .int 0] I11 J R (fun u12 I13 => K 4 [(0, .ref 80)] [] I13 J R)))))) : K 22 [(0, .ref 80)] [] I J R := by
  refine k_ld hK 0 dX12_sum_22 rfl rfl rfl rfl ?_
  refine k_gI hK dX12_sum_23 lf_X12_174 rfl (sc_80 hs) rfl ?_
  refine k_bi hK dX12_sum_26 cb_43 ?_
  refine k_cne hK dX12_sum_28 (tgt := 35) rfl (fun h1 => ?_) (fun h1 => ?_)
  · have hF := hF.1 h1
    refine k_ic hK dX12_sum_35 ci_4 ?_
    refine k_st hK dX12_sum_36 rfl rfl rfl (Nat.le_of_ble_eq_true rfl) rfl ?_
    refine k_ld hK 1 dX12_sum_37 rfl rfl rfl rfl ?_
    refine k_cVc hK dX12_sum_38 (Or.inl lm_X12_196) (As := []) (S := []) rfl (sc_80 hs) (Nat.le_of_ble_eq_true rfl) (fit_0 rfl rfl) rfl hF (fun u2 I3 hF => ?_)
    show K _ _ [] _ _ _
    refine k_ld hK 1 dX12_sum_41 rfl rfl rfl rfl ?_
    refine k_cVc hK dX12_sum_42 (Or.inl lm_X12_252) (As := []) (S := []) rfl (sc_80 hs) (Nat.le_of_ble_eq_true rfl) (fit_0 rfl rfl) rfl hF (fun u4 I5 hF => ?_)
    show K _ _ [] _ _ _
    refine k_ld hK 1 dX12_sum_45 rfl rfl rfl rfl ?_
    refine k_ld hK 0 dX12_sum_46 rfl rfl rfl rfl ?_
    refine k_ic hK dX12_sum_47 ci_0 ?_
    refine k_ic hK dX12_sum_48 ci_0 ?_
    refine k_cVc hK dX12_sum_49 (Or.inl lm_X12_255) (As := [.int 4, .int 0, .int 0]) (S := []) rfl (sc_80 hs) (Nat.le_of_ble_eq_true rfl) (fit_0 rfl rfl) rfl hF (fun u6 I7 hF => ?_)
    show K _ _ [] _ _ _
    refine k_goto hK dX12_sum_52 (tgt := 4) rfl ?_
    exact k_sub hK [1] rfl hF
  · have hF := hF.2 h1
    refine k_ic hK dX12_sum_31 ci_3 ?_
    refine k_goto hK dX12_sum_32 (tgt := 36) rfl ?_
    refine k_st hK dX12_sum_36 rfl rfl rfl (Nat.le_of_ble_eq_true rfl) rfl ?_
    refine k_ld hK 1 dX12_sum_37 rfl rfl rfl rfl ?_
    refine k_cVc hK dX12_sum_38 (Or.inl lm_X12_196) (As := []) (S := []) rfl (sc_80 hs) (Nat.le_of_ble_eq_true rfl) (fit_0 rfl rfl) rfl hF (fun u8 I9 hF => ?_)
    show K _ _ [] _ _ _
    refine k_ld hK 1 dX12_sum_41 rfl rfl rfl rfl ?_
    refine k_cVc hK dX12_sum_42 (Or.inl lm_X12_252) (As := []) (S := []) rfl (sc_80 hs) (Nat.le_of_ble_eq_true rfl) (fit_0 rfl rfl) rfl hF (fun u10 I11 hF => ?_)
    show K _ _ [] _ _ _
    refine k_ld hK 1 dX12_sum_45 rfl rfl rfl rfl ?_
    refine k_ld hK 0 dX12_sum_46 rfl rfl rfl rfl ?_
    refine k_ic hK dX12_sum_47 ci_0 ?_
    refine k_ic hK dX12_sum_48 ci_0 ?_
    refine k_cVc hK dX12_sum_49 (Or.inl lm_X12_255) (As := [.int 3, .int 0, .int 0]) (S := []) rfl (sc_80 hs) (Nat.le_of_ble_eq_true rfl) (fit_0 rfl rfl) rfl hF (fun u12 I13 hF => ?_)
    show K _ _ [] _ _ _
    refine k_goto hK dX12_sum_52 (tgt := 4) rfl ?_
    exact k_sub hK [1] rfl hF
set_option maxHeartbeats 4000000 in
theorem g_X12_product_0 {d : Nat} {K : KT} {Q : Unit → HI → Prop} {I : HI} {J : HJ} {R : HR}  (hK : am_R M_X12_product (am_W d) none R (qC fv J R Q) K) (hs : Stat R)  (hF : Wc fv d M_X12_factor [.ref 80] I J R (fun u1 I2 => K 4 [(0, .ref 80)] [] I2 J R)) : K 0 [(0, .ref 80)] [] I J R := by
  refine k_ld hK 0 dX12_product_0 rfl rfl rfl rfl ?_
  refine k_cVc hK dX12_product_1 (Or.inl lm_X12_258) (As := []) (S := []) rfl (sc_80 hs) (Nat.le_of_ble_eq_true rfl) (fit_0 rfl rfl) rfl hF (fun u1 I2 hF => ?_)
  show K _ _ [] _ _ _
  exact k_sub hK [0] rfl hF
set_option maxHeartbeats 4000000 in
theorem g_X12_product_4 {d : Nat} {K : KT} {Q : Unit → HI → Prop} {I : HI} {J : HJ} {R : HR}  (hK : am_R M_X12_product (am_W d) none R (qC fv J R Q) K) (hs : Stat R)  (hF : Wp fb d M_X12_isSign [.ref 80, .int 42] I J R (fun b1 => ((b1 = true → K 22 [(0, .ref 80)] [] I J R) ∧ (b1 = false → Wp fb d M_X12_isSign [.ref 80, .int 47] I J R (fun b3 => ((b3 = false → Q () I) ∧ (b3 = true → K 22 [(0, .ref 80)] [] I J R))))))) : K 4 [(0, .ref 80)] [] I J R := by
  refine k_ld hK 0 dX12_product_4 rfl rfl rfl rfl ?_
  refine k_bi hK dX12_product_5 cb_42 ?_
  refine k_cVp hK dX12_product_7 (Or.inl lm_X12_199) (As := [.int 42]) (S := []) rfl (sc_80 hs) (Nat.le_of_ble_eq_true rfl) (fit_0 rfl rfl) rfl hF (fun b1 hF => ?_)
  show K _ _ [.int (b2i b1)] _ _ _
  refine k_bne hK dX12_product_10 (tgt := 22) rfl (fun h2 => ?_) (fun h2 => ?_)
  · have hF := hF.1 h2
    exact k_sub hK [0] rfl hF
  · have hF := hF.2 h2
    refine k_ld hK 0 dX12_product_13 rfl rfl rfl rfl ?_
    refine k_bi hK dX12_product_14 cb_47 ?_
    refine k_cVp hK dX12_product_16 (Or.inl lm_X12_199) (As := [.int 47]) (S := []) rfl (sc_80 hs) (Nat.le_of_ble_eq_true rfl) (fit_0 rfl rfl) rfl hF (fun b3 hF => ?_)
    show K _ _ [.int (b2i b3)] _ _ _
    refine k_beq hK dX12_product_19 (tgt := 56) rfl (fun h4 => ?_) (fun h4 => ?_)
    · have hF := hF.1 h4
      exact k_vret hK dX12_product_56 rfl (done_0 rfl rfl) (qC_i hF)
    · have hF := hF.2 h4
      exact k_sub hK [0] rfl hF
set_option maxHeartbeats 4000000 in
theorem g_X12_product_22 {d : Nat} {K : KT} {Q : Unit → HI → Prop} {I : HI} {J : HJ} {R : HR}  (hK : am_R M_X12_product (am_W d) none R (qC fv J R Q) K) (hs : Stat R)  (hF : ((¬ (I 80 8) = 42 → Wc fv d M_X12_goOn [.ref 80] I J R (fun u2 I3 => Wc fv d M_X12_factor [.ref 80] I3 J R (fun u4 I5 => Wc fv d M_X12_writes [.ref 80, .int 6, .int 0, .int 0] I5 J R (fun u6 I7 => K 4 [(0, .ref 80)] [] I7 J R)))) ∧ ((I 80 8) = 42 → Wc fv d M_X12_goOn [.ref 80] I J R (fun u8 I9 => Wc fv d M_X12_factor [.ref 80] I9 J R (fun u10 I11 => Wc fv d M_X12_writes [.ref 80, .int 5, .int 0, .int 0] I11 J R (fun u12 I13 => K 4 [(0, .ref 80)] [] I13 J R)))))) : K 22 [(0, .ref 80)] [] I J R := by
  refine k_ld hK 0 dX12_product_22 rfl rfl rfl rfl ?_
  refine k_gI hK dX12_product_23 lf_X12_174 rfl (sc_80 hs) rfl ?_
  refine k_bi hK dX12_product_26 cb_42 ?_
  refine k_cne hK dX12_product_28 (tgt := 35) rfl (fun h1 => ?_) (fun h1 => ?_)
  · have hF := hF.1 h1
    refine k_bi hK dX12_product_35 cb_6 ?_
    refine k_st hK dX12_product_37 rfl rfl rfl (Nat.le_of_ble_eq_true rfl) rfl ?_
    refine k_ld hK 1 dX12_product_38 rfl rfl rfl rfl ?_
    refine k_cVc hK dX12_product_39 (Or.inl lm_X12_196) (As := []) (S := []) rfl (sc_80 hs) (Nat.le_of_ble_eq_true rfl) (fit_0 rfl rfl) rfl hF (fun u2 I3 hF => ?_)
    show K _ _ [] _ _ _
    refine k_ld hK 1 dX12_product_42 rfl rfl rfl rfl ?_
    refine k_cVc hK dX12_product_43 (Or.inl lm_X12_258) (As := []) (S := []) rfl (sc_80 hs) (Nat.le_of_ble_eq_true rfl) (fit_0 rfl rfl) rfl hF (fun u4 I5 hF => ?_)
    show K _ _ [] _ _ _
    refine k_ld hK 1 dX12_product_46 rfl rfl rfl rfl ?_
    refine k_ld hK 0 dX12_product_47 rfl rfl rfl rfl ?_
    refine k_ic hK dX12_product_48 ci_0 ?_
    refine k_ic hK dX12_product_49 ci_0 ?_
    refine k_cVc hK dX12_product_50 (Or.inl lm_X12_255) (As := [.int 6, .int 0, .int 0]) (S := []) rfl (sc_80 hs) (Nat.le_of_ble_eq_true rfl) (fit_0 rfl rfl) rfl hF (fun u6 I7 hF => ?_)
    show K _ _ [] _ _ _
    refine k_goto hK dX12_product_53 (tgt := 4) rfl ?_
    exact k_sub hK [1] rfl hF
  · have hF := hF.2 h1
    refine k_ic hK dX12_product_31 ci_5 ?_
    refine k_goto hK dX12_product_32 (tgt := 37) rfl ?_
    refine k_st hK dX12_product_37 rfl rfl rfl (Nat.le_of_ble_eq_true rfl) rfl ?_
    refine k_ld hK 1 dX12_product_38 rfl rfl rfl rfl ?_
    refine k_cVc hK dX12_product_39 (Or.inl lm_X12_196) (As := []) (S := []) rfl (sc_80 hs) (Nat.le_of_ble_eq_true rfl) (fit_0 rfl rfl) rfl hF (fun u8 I9 hF => ?_)
    show K _ _ [] _ _ _
    refine k_ld hK 1 dX12_product_42 rfl rfl rfl rfl ?_
    refine k_cVc hK dX12_product_43 (Or.inl lm_X12_258) (As := []) (S := []) rfl (sc_80 hs) (Nat.le_of_ble_eq_true rfl) (fit_0 rfl rfl) rfl hF (fun u10 I11 hF => ?_)
    show K _ _ [] _ _ _
    refine k_ld hK 1 dX12_product_46 rfl rfl rfl rfl ?_
    refine k_ld hK 0 dX12_product_47 rfl rfl rfl rfl ?_
    refine k_ic hK dX12_product_48 ci_0 ?_
    refine k_ic hK dX12_product_49 ci_0 ?_
    refine k_cVc hK dX12_product_50 (Or.inl lm_X12_255) (As := [.int 5, .int 0, .int 0]) (S := []) rfl (sc_80 hs) (Nat.le_of_ble_eq_true rfl) (fit_0 rfl rfl) rfl hF (fun u12 I13 hF => ?_)
    show K _ _ [] _ _ _
    refine k_goto hK dX12_product_53 (tgt := 4) rfl ?_
    exact k_sub hK [1] rfl hF
set_option maxHeartbeats 4000000 in
theorem g_X12_factor_0 {d : Nat} {K : KT} {Q : Unit → HI → Prop} {I : HI} {J : HJ} {R : HR}  (hK : am_R M_X12_factor (am_W d) none R (qC fv J R Q) K) (hs : Stat R)  (hF : (((I 80 9) = 0 → ((¬ (I 80 7) = 1 → Wp fb d M_X12_isSign [.ref 80, .int 40] I J R (fun b3 => ((b3 = false → Wp fb d M_X12_isName [.ref 80] I J R (fun b5 => ((b5 = false → Wc fv d M_X12_wrong [.ref 80, .int 1] I J R (fun u7 I8 => Q () I8)) ∧ (b5 = true → Wc fv d M_X12_named [.ref 80] I J R (fun u9 I10 => Q () I10))))) ∧ (b3 = true → Wc fv d M_X12_bracket [.ref 80] I J R (fun u11 I12 => Wc fv d M_X12_sum [.ref 80] I12 J R (fun u13 I14 => Wc fv d M_X12_needs [.ref 80, .int 41] I14 J R (fun u15 I16 => Q () (up I16 80 29 ((I16 80 29) - 1))))))))) ∧ ((I 80 7) = 1 → Wc fi d M_X12_numeral [.ref 80, .int 0, .int 9999] I J R (fun r17 I18 => Wc fv d M_X12_writes [.ref 80, .int 0, .int r17, .int 0] I18 J R (fun u19 I20 => Q () I20))))) ∧ (¬ (I 80 9) = 0 → Q () I))) : K 0 [(0, .ref 80)] [] I J R := by
  refine k_ld hK 0 dX12_factor_0 rfl rfl rfl rfl ?_
  refine k_gI hK dX12_factor_1 lf_X12_183 rfl (sc_80 hs) rfl ?_
  refine k_eq hK dX12_factor_4 (tgt := 8) rfl (fun h1 => ?_) (fun h1 => ?_)
  · have hF := hF.1 h1
    refine k_ld hK 0 dX12_factor_8 rfl rfl rfl rfl ?_
    refine k_gI hK dX12_factor_9 lf_X12_161 rfl (sc_80 hs) rfl ?_
    refine k_ic hK dX12_factor_12 ci_1 ?_
    refine k_cne hK dX12_factor_13 (tgt := 33) rfl (fun h2 => ?_) (fun h2 => ?_)
    · have hF := hF.1 h2
      refine k_ld hK 0 dX12_factor_33 rfl rfl rfl rfl ?_
      refine k_bi hK dX12_factor_34 cb_40 ?_
      refine k_cVp hK dX12_factor_36 (Or.inl lm_X12_199) (As := [.int 40]) (S := []) rfl (sc_80 hs) (Nat.le_of_ble_eq_true rfl) (fit_0 rfl rfl) rfl hF (fun b3 hF => ?_)
      show K _ _ [.int (b2i b3)] _ _ _
      refine k_beq hK dX12_factor_39 (tgt := 69) rfl (fun h4 => ?_) (fun h4 => ?_)
      · have hF := hF.1 h4
        refine k_ld hK 0 dX12_factor_69 rfl rfl rfl rfl ?_
        refine k_cVp hK dX12_factor_70 (Or.inl lm_X12_214) (As := []) (S := []) rfl (sc_80 hs) (Nat.le_of_ble_eq_true rfl) (fit_0 rfl rfl) rfl hF (fun b5 hF => ?_)
        show K _ _ [.int (b2i b5)] _ _ _
        refine k_beq hK dX12_factor_73 (tgt := 83) rfl (fun h6 => ?_) (fun h6 => ?_)
        · have hF := hF.1 h6
          refine k_ld hK 0 dX12_factor_83 rfl rfl rfl rfl ?_
          refine k_ic hK dX12_factor_84 ci_1 ?_
          refine k_cVc hK dX12_factor_85 (Or.inl lm_X12_192) (As := [.int 1]) (S := []) rfl (sc_80 hs) (Nat.le_of_ble_eq_true rfl) (fit_0 rfl rfl) rfl hF (fun u7 I8 hF => ?_)
          show K _ _ [] _ _ _
          exact k_vret hK dX12_factor_88 rfl (done_0 rfl rfl) (qC_i hF)
        · have hF := hF.2 h6
          refine k_ld hK 0 dX12_factor_76 rfl rfl rfl rfl ?_
          refine k_cVc hK dX12_factor_77 (Or.inl lm_X12_267) (As := []) (S := []) rfl (sc_80 hs) (Nat.le_of_ble_eq_true rfl) (fit_0 rfl rfl) rfl hF (fun u9 I10 hF => ?_)
          show K _ _ [] _ _ _
          refine k_goto hK dX12_factor_80 (tgt := 88) rfl ?_
          exact k_vret hK dX12_factor_88 rfl (done_0 rfl rfl) (qC_i hF)
      · have hF := hF.2 h4
        refine k_ld hK 0 dX12_factor_42 rfl rfl rfl rfl ?_
        refine k_cVc hK dX12_factor_43 (Or.inl lm_X12_261) (As := []) (S := []) rfl (sc_80 hs) (Nat.le_of_ble_eq_true rfl) (fit_0 rfl rfl) rfl hF (fun u11 I12 hF => ?_)
        show K _ _ [] _ _ _
        refine k_ld hK 0 dX12_factor_46 rfl rfl rfl rfl ?_
        refine k_cVc hK dX12_factor_47 (Or.inl lm_X12_249) (As := []) (S := []) rfl (sc_80 hs) (Nat.le_of_ble_eq_true rfl) (fit_0 rfl rfl) rfl hF (fun u13 I14 hF => ?_)
        show K _ _ [] _ _ _
        refine k_ld hK 0 dX12_factor_50 rfl rfl rfl rfl ?_
        refine k_bi hK dX12_factor_51 cb_41 ?_
        refine k_cVc hK dX12_factor_53 (Or.inl lm_X12_264) (As := [.int 41]) (S := []) rfl (sc_80 hs) (Nat.le_of_ble_eq_true rfl) (fit_0 rfl rfl) rfl hF (fun u15 I16 hF => ?_)
        show K _ _ [] _ _ _
        refine k_ld hK 0 dX12_factor_56 rfl rfl rfl rfl ?_
        refine k_op hK dX12_factor_57 rfl rfl ?_
        refine k_gI hK dX12_factor_58 lf_X12_246 rfl (sc_80 hs) rfl ?_
        refine k_ic hK dX12_factor_61 ci_1 ?_
        refine k_op hK dX12_factor_62 rfl rfl ?_
        refine k_pI hK dX12_factor_63 lf_X12_246 rfl rfl rfl (sc_80 hs) ?_
        refine k_goto hK dX12_factor_66 (tgt := 88) rfl ?_
        exact k_vret hK dX12_factor_88 rfl (done_0 rfl rfl) (qC_i hF)
    · have hF := hF.2 h2
      refine k_ld hK 0 dX12_factor_16 rfl rfl rfl rfl ?_
      refine k_ic hK dX12_factor_17 ci_0 ?_
      refine k_ld hK 0 dX12_factor_18 rfl rfl rfl rfl ?_
      refine k_ic hK dX12_factor_19 ci_0 ?_
      refine k_si hK dX12_factor_20 cs_9999 ?_
      refine k_cVc hK dX12_factor_23 (Or.inl lm_X12_235) (As := [.int 0, .int 9999]) (S := [.int 0, .ref 80]) rfl (sc_80 hs) (Nat.le_of_ble_eq_true rfl) (fit_0 rfl rfl) rfl hF (fun r17 I18 hF => ?_)
      show K _ _ [.int r17, .int 0, .ref 80] _ _ _
      refine k_ic hK dX12_factor_26 ci_0 ?_
      refine k_cVc hK dX12_factor_27 (Or.inl lm_X12_255) (As := [.int 0, .int r17, .int 0]) (S := []) rfl (sc_80 hs) (Nat.le_of_ble_eq_true rfl) (fit_0 rfl rfl) rfl hF (fun u19 I20 hF => ?_)
      show K _ _ [] _ _ _
      refine k_goto hK dX12_factor_30 (tgt := 88) rfl ?_
      exact k_vret hK dX12_factor_88 rfl (done_0 rfl rfl) (qC_i hF)
  · have hF := hF.2 h1
    exact k_vret hK dX12_factor_7 rfl (done_0 rfl rfl) (qC_i hF)
theorem e_X12_factor {d : Nat} {Q : Unit → HI → Prop} {I : HI} {J : HJ} {R : HR}  (hs : Stat R)  (hF : (((I 80 9) = 0 → ((¬ (I 80 7) = 1 → Wp fb d M_X12_isSign [.ref 80, .int 40] I J R (fun b3 => ((b3 = false → Wp fb d M_X12_isName [.ref 80] I J R (fun b5 => ((b5 = false → Wc fv d M_X12_wrong [.ref 80, .int 1] I J R (fun u7 I8 => Q () I8)) ∧ (b5 = true → Wc fv d M_X12_named [.ref 80] I J R (fun u9 I10 => Q () I10))))) ∧ (b3 = true → Wc fv d M_X12_bracket [.ref 80] I J R (fun u11 I12 => Wc fv d M_X12_sum [.ref 80] I12 J R (fun u13 I14 => Wc fv d M_X12_needs [.ref 80, .int 41] I14 J R (fun u15 I16 => Q () (up I16 80 29 ((I16 80 29) - 1))))))))) ∧ ((I 80 7) = 1 → Wc fi d M_X12_numeral [.ref 80, .int 0, .int 9999] I J R (fun r17 I18 => Wc fv d M_X12_writes [.ref 80, .int 0, .int r17, .int 0] I18 J R (fun u19 I20 => Q () I20))))) ∧ (¬ (I 80 9) = 0 → Q () I))) : Wc fv (d + 1) M_X12_factor [.ref 80] I J R Q := ⟨Nat.le_of_ble_eq_true rfl, fun K hK => g_X12_factor_0 hK hs hF⟩
set_option maxHeartbeats 4000000 in
theorem g_X12_named_0 {d : Nat} {K : KT} {Q : Unit → HI → Prop} {I : HI} {J : HJ} {R : HR}  (hK : am_R M_X12_named (am_W d) none R (qC fv J R Q) K) (hs : Stat R)  (hF : Wp fi d M_X12_rowOf [.ref 80, .int (I 80 8)] I J R (fun r1 => Wp fi d M_X12_variableOf [.ref 80, .int (I 80 8)] I J R (fun r2 => ((¬ r1 = (-1) → K 33 [(0, .ref 80), (1, .int r1), (2, .int r2)] [] I J R) ∧ (r1 = (-1) → ((¬ r2 = (-1) → K 33 [(0, .ref 80), (1, .int r1), (2, .int r2)] [] I J R) ∧ (r2 = (-1) → Wc fv d M_X12_wrong [.ref 80, .int 1] I J R (fun u5 I6 => K 33 [(0, .ref 80), (1, .int r1), (2, .int r2)] [] I6 J R)))))))) : K 0 [(0, .ref 80)] [] I J R := by
  refine k_ld hK 0 dX12_named_0 rfl rfl rfl rfl ?_
  refine k_ld hK 0 dX12_named_1 rfl rfl rfl rfl ?_
  refine k_gI hK dX12_named_2 lf_X12_174 rfl (sc_80 hs) rfl ?_
  refine k_cVp hK dX12_named_5 (Or.inl lm_X12_222) (As := [.int (I 80 8)]) (S := []) rfl (sc_80 hs) (Nat.le_of_ble_eq_true rfl) (fit_0 rfl rfl) rfl hF (fun r1 hF => ?_)
  show K _ _ [.int r1] _ _ _
  refine k_st hK dX12_named_8 rfl rfl rfl (Nat.le_of_ble_eq_true rfl) rfl ?_
  refine k_ld hK 1 dX12_named_9 rfl rfl rfl rfl ?_
  refine k_ld hK 1 dX12_named_10 rfl rfl rfl rfl ?_
  refine k_gI hK dX12_named_11 lf_X12_174 rfl (sc_80 hs) rfl ?_
  refine k_cVp hK dX12_named_14 (Or.inl lm_X12_218) (As := [.int (I 80 8)]) (S := []) rfl (sc_80 hs) (Nat.le_of_ble_eq_true rfl) (fit_0 rfl rfl) rfl hF (fun r2 hF => ?_)
  show K _ _ [.int r2] _ _ _
  refine k_st hK dX12_named_17 rfl rfl rfl (Nat.le_of_ble_eq_true rfl) rfl ?_
  refine k_ld hK 1 dX12_named_18 rfl rfl rfl rfl ?_
  refine k_ic hK dX12_named_19 ci_m1 ?_
  refine k_cne hK dX12_named_20 (tgt := 33) rfl (fun h3 => ?_) (fun h3 => ?_)
  · have hF := hF.1 h3
    exact k_sub hK [2, 1, 0] rfl hF
  · have hF := hF.2 h3
    refine k_ld hK 0 dX12_named_23 rfl rfl rfl rfl ?_
    refine k_ic hK dX12_named_24 ci_m1 ?_
    refine k_cne hK dX12_named_25 (tgt := 33) rfl (fun h4 => ?_) (fun h4 => ?_)
    · have hF := hF.1 h4
      exact k_sub hK [2, 1, 0] rfl hF
    · have hF := hF.2 h4
      refine k_ld hK 2 dX12_named_28 rfl rfl rfl rfl ?_
      refine k_ic hK dX12_named_29 ci_1 ?_
      refine k_cVc hK dX12_named_30 (Or.inl lm_X12_192) (As := [.int 1]) (S := []) rfl (sc_80 hs) (Nat.le_of_ble_eq_true rfl) (fit_0 rfl rfl) rfl hF (fun u5 I6 hF => ?_)
      show K _ _ [] _ _ _
      exact k_sub hK [2, 1, 0] rfl hF
set_option maxHeartbeats 4000000 in
theorem g_X12_named_33 {d : Nat} {K : KT} {Q : Unit → HI → Prop} {I : HI} {J : HJ} {R : HR} {x1 : Int32} {x2 : Int32} (hK : am_R M_X12_named (am_W d) none R (qC fv J R Q) K) (hs : Stat R)  (hF : Wc fv d M_X12_goOn [.ref 80] I J R (fun u1 I2 => ((¬ x1 = (-1) → Wp fb d M_X12_isSign [.ref 80, .int 91] I2 J R (fun b4 => ((b4 = true → Wc fv d M_X12_bracket [.ref 80] I2 J R (fun u6 I7 => Wc fv d M_X12_sum [.ref 80] I7 J R (fun u8 I9 => Wc fv d M_X12_needs [.ref 80, .int 93] I9 J R (fun u10 I11 => Wc fv d M_X12_writes [.ref 80, .int 2, .int x1, .int 0] (up I11 80 29 ((I11 80 29) - 1)) J R (fun u12 I13 => Q () I13))))) ∧ (b4 = false → Wc fv d M_X12_wrong [.ref 80, .int 1] I2 J R (fun u14 I15 => Q () I15))))) ∧ (x1 = (-1) → Wc fv d M_X12_writes [.ref 80, .int 1, .int x2, .int 0] I2 J R (fun u16 I17 => Q () I17))))) : K 33 [(0, .ref 80), (1, .int x1), (2, .int x2)] [] I J R := by
  refine k_ld hK 0 dX12_named_33 rfl rfl rfl rfl ?_
  refine k_cVc hK dX12_named_34 (Or.inl lm_X12_196) (As := []) (S := []) rfl (sc_80 hs) (Nat.le_of_ble_eq_true rfl) (fit_0 rfl rfl) rfl hF (fun u1 I2 hF => ?_)
  show K _ _ [] _ _ _
  refine k_ld hK 1 dX12_named_37 rfl rfl rfl rfl ?_
  refine k_ic hK dX12_named_38 ci_m1 ?_
  refine k_cne hK dX12_named_39 (tgt := 50) rfl (fun h3 => ?_) (fun h3 => ?_)
  · have hF := hF.1 h3
    refine k_ld hK 0 dX12_named_50 rfl rfl rfl rfl ?_
    refine k_bi hK dX12_named_51 cb_91 ?_
    refine k_cVp hK dX12_named_53 (Or.inl lm_X12_199) (As := [.int 91]) (S := []) rfl (sc_80 hs) (Nat.le_of_ble_eq_true rfl) (fit_0 rfl rfl) rfl hF (fun b4 hF => ?_)
    show K _ _ [.int (b2i b4)] _ _ _
    refine k_bne hK dX12_named_56 (tgt := 65) rfl (fun h5 => ?_) (fun h5 => ?_)
    · have hF := hF.1 h5
      refine k_ld hK 0 dX12_named_65 rfl rfl rfl rfl ?_
      refine k_cVc hK dX12_named_66 (Or.inl lm_X12_261) (As := []) (S := []) rfl (sc_80 hs) (Nat.le_of_ble_eq_true rfl) (fit_0 rfl rfl) rfl hF (fun u6 I7 hF => ?_)
      show K _ _ [] _ _ _
      refine k_ld hK 0 dX12_named_69 rfl rfl rfl rfl ?_
      refine k_cVc hK dX12_named_70 (Or.inl lm_X12_249) (As := []) (S := []) rfl (sc_80 hs) (Nat.le_of_ble_eq_true rfl) (fit_0 rfl rfl) rfl hF (fun u8 I9 hF => ?_)
      show K _ _ [] _ _ _
      refine k_ld hK 0 dX12_named_73 rfl rfl rfl rfl ?_
      refine k_bi hK dX12_named_74 cb_93 ?_
      refine k_cVc hK dX12_named_76 (Or.inl lm_X12_264) (As := [.int 93]) (S := []) rfl (sc_80 hs) (Nat.le_of_ble_eq_true rfl) (fit_0 rfl rfl) rfl hF (fun u10 I11 hF => ?_)
      show K _ _ [] _ _ _
      refine k_ld hK 0 dX12_named_79 rfl rfl rfl rfl ?_
      refine k_op hK dX12_named_80 rfl rfl ?_
      refine k_gI hK dX12_named_81 lf_X12_246 rfl (sc_80 hs) rfl ?_
      refine k_ic hK dX12_named_84 ci_1 ?_
      refine k_op hK dX12_named_85 rfl rfl ?_
      refine k_pI hK dX12_named_86 lf_X12_246 rfl rfl rfl (sc_80 hs) ?_
      refine k_ld hK 0 dX12_named_89 rfl rfl rfl rfl ?_
      refine k_ic hK dX12_named_90 ci_2 ?_
      refine k_ld hK 1 dX12_named_91 rfl rfl rfl rfl ?_
      refine k_ic hK dX12_named_92 ci_0 ?_
      refine k_cVc hK dX12_named_93 (Or.inl lm_X12_255) (As := [.int 2, .int x1, .int 0]) (S := []) rfl (sc_80 hs) (Nat.le_of_ble_eq_true rfl) (fit_0 rfl rfl) rfl hF (fun u12 I13 hF => ?_)
      show K _ _ [] _ _ _
      exact k_vret hK dX12_named_96 rfl (done_0 rfl rfl) (qC_i hF)
    · have hF := hF.2 h5
      refine k_ld hK 0 dX12_named_59 rfl rfl rfl rfl ?_
      refine k_ic hK dX12_named_60 ci_1 ?_
      refine k_cVc hK dX12_named_61 (Or.inl lm_X12_192) (As := [.int 1]) (S := []) rfl (sc_80 hs) (Nat.le_of_ble_eq_true rfl) (fit_0 rfl rfl) rfl hF (fun u14 I15 hF => ?_)
      show K _ _ [] _ _ _
      exact k_vret hK dX12_named_64 rfl (done_0 rfl rfl) (qC_i hF)
  · have hF := hF.2 h3
    refine k_ld hK 0 dX12_named_42 rfl rfl rfl rfl ?_
    refine k_ic hK dX12_named_43 ci_1 ?_
    refine k_ld hK 2 dX12_named_44 rfl rfl rfl rfl ?_
    refine k_ic hK dX12_named_45 ci_0 ?_
    refine k_cVc hK dX12_named_46 (Or.inl lm_X12_255) (As := [.int 1, .int x2, .int 0]) (S := []) rfl (sc_80 hs) (Nat.le_of_ble_eq_true rfl) (fit_0 rfl rfl) rfl hF (fun u16 I17 hF => ?_)
    show K _ _ [] _ _ _
    exact k_vret hK dX12_named_49 rfl (done_0 rfl rfl) (qC_i hF)
set_option maxHeartbeats 4000000 in
theorem g_X12_target_0 {d : Nat} {K : KT} {Q : Int32 → HI → Prop} {I : HI} {J : HJ} {R : HR}  (hK : am_R M_X12_target (am_W d) none R (qC fi J R Q) K) (hs : Stat R)  (hF : Wp fb d M_X12_isName [.ref 80] I J R (fun b1 => ((b1 = false → Wc fv d M_X12_wrong [.ref 80, .int 1] I J R (fun u3 I4 => K 24 [(0, .ref 80)] [] I4 J R)) ∧ (b1 = true → Wp fi d M_X12_rowOf [.ref 80, .int (I 80 8)] I J R (fun r5 => ((r5 = (-1) → K 24 [(0, .ref 80)] [] I J R) ∧ (¬ r5 = (-1) → Wc fv d M_X12_wrong [.ref 80, .int 1] I J R (fun u7 I8 => K 24 [(0, .ref 80)] [] I8 J R)))))))) : K 0 [(0, .ref 80)] [] I J R := by
  refine k_ld hK 0 dX12_target_0 rfl rfl rfl rfl ?_
  refine k_cVp hK dX12_target_1 (Or.inl lm_X12_214) (As := []) (S := []) rfl (sc_80 hs) (Nat.le_of_ble_eq_true rfl) (fit_0 rfl rfl) rfl hF (fun b1 hF => ?_)
  show K _ _ [.int (b2i b1)] _ _ _
  refine k_beq hK dX12_target_4 (tgt := 19) rfl (fun h2 => ?_) (fun h2 => ?_)
  · have hF := hF.1 h2
    refine k_ld hK 0 dX12_target_19 rfl rfl rfl rfl ?_
    refine k_ic hK dX12_target_20 ci_1 ?_
    refine k_cVc hK dX12_target_21 (Or.inl lm_X12_192) (As := [.int 1]) (S := []) rfl (sc_80 hs) (Nat.le_of_ble_eq_true rfl) (fit_0 rfl rfl) rfl hF (fun u3 I4 hF => ?_)
    show K _ _ [] _ _ _
    exact k_sub hK [0] rfl hF
  · have hF := hF.2 h2
    refine k_ld hK 0 dX12_target_7 rfl rfl rfl rfl ?_
    refine k_ld hK 0 dX12_target_8 rfl rfl rfl rfl ?_
    refine k_gI hK dX12_target_9 lf_X12_174 rfl (sc_80 hs) rfl ?_
    refine k_cVp hK dX12_target_12 (Or.inl lm_X12_222) (As := [.int (I 80 8)]) (S := []) rfl (sc_80 hs) (Nat.le_of_ble_eq_true rfl) (fit_0 rfl rfl) rfl hF (fun r5 hF => ?_)
    show K _ _ [.int r5] _ _ _
    refine k_ic hK dX12_target_15 ci_m1 ?_
    refine k_ceq hK dX12_target_16 (tgt := 24) rfl (fun h6 => ?_) (fun h6 => ?_)
    · have hF := hF.1 h6
      exact k_sub hK [0] rfl hF
    · have hF := hF.2 h6
      refine k_ld hK 0 dX12_target_19 rfl rfl rfl rfl ?_
      refine k_ic hK dX12_target_20 ci_1 ?_
      refine k_cVc hK dX12_target_21 (Or.inl lm_X12_192) (As := [.int 1]) (S := []) rfl (sc_80 hs) (Nat.le_of_ble_eq_true rfl) (fit_0 rfl rfl) rfl hF (fun u7 I8 hF => ?_)
      show K _ _ [] _ _ _
      exact k_sub hK [0] rfl hF
set_option maxHeartbeats 4000000 in
theorem g_X12_target_24 {d : Nat} {K : KT} {Q : Int32 → HI → Prop} {I : HI} {J : HJ} {R : HR}  (hK : am_R M_X12_target (am_W d) none R (qC fi J R Q) K) (hs : Stat R)  (hF : ((¬ (I 80 9) = 0 → K 63 [(0, .ref 80), (1, .int 0)] [] I J R) ∧ ((I 80 9) = 0 → Wp fi d M_X12_variableOf [.ref 80, .int (I 80 8)] I J R (fun r2 => ((¬ r2 = (-1) → K 63 [(0, .ref 80), (1, .int r2)] [] I J R) ∧ (r2 = (-1) → ((¬ (I 80 14) = 8 → K 63 [(0, .ref 80), (1, .int r2)] [] I J R) ∧ ((I 80 14) = 8 → Wc fv d M_X12_wrong [.ref 80, .int 2] I J R (fun u5 I6 => K 63 [(0, .ref 80), (1, .int r2)] [] I6 J R))))))))) : K 24 [(0, .ref 80)] [] I J R := by
  refine k_ld hK 0 dX12_target_24 rfl rfl rfl rfl ?_
  refine k_gI hK dX12_target_25 lf_X12_183 rfl (sc_80 hs) rfl ?_
  refine k_ne hK dX12_target_28 (tgt := 42) rfl (fun h1 => ?_) (fun h1 => ?_)
  · have hF := hF.1 h1
    refine k_ic hK dX12_target_42 ci_0 ?_
    refine k_st hK dX12_target_43 rfl rfl rfl (Nat.le_of_ble_eq_true rfl) rfl ?_
    refine k_ld hK 0 dX12_target_44 rfl rfl rfl rfl ?_
    refine k_ic hK dX12_target_45 ci_m1 ?_
    refine k_cne hK dX12_target_46 (tgt := 63) rfl (fun _ => ?_) (fun h => absurd h (by decide))
    exact k_sub hK [1, 0] rfl hF
  · have hF := hF.2 h1
    refine k_ld hK 0 dX12_target_31 rfl rfl rfl rfl ?_
    refine k_ld hK 0 dX12_target_32 rfl rfl rfl rfl ?_
    refine k_gI hK dX12_target_33 lf_X12_174 rfl (sc_80 hs) rfl ?_
    refine k_cVp hK dX12_target_36 (Or.inl lm_X12_218) (As := [.int (I 80 8)]) (S := []) rfl (sc_80 hs) (Nat.le_of_ble_eq_true rfl) (fit_0 rfl rfl) rfl hF (fun r2 hF => ?_)
    show K _ _ [.int r2] _ _ _
    refine k_goto hK dX12_target_39 (tgt := 43) rfl ?_
    refine k_st hK dX12_target_43 rfl rfl rfl (Nat.le_of_ble_eq_true rfl) rfl ?_
    refine k_ld hK 0 dX12_target_44 rfl rfl rfl rfl ?_
    refine k_ic hK dX12_target_45 ci_m1 ?_
    refine k_cne hK dX12_target_46 (tgt := 63) rfl (fun h3 => ?_) (fun h3 => ?_)
    · have hF := hF.1 h3
      exact k_sub hK [1, 0] rfl hF
    · have hF := hF.2 h3
      refine k_ld hK 1 dX12_target_49 rfl rfl rfl rfl ?_
      refine k_gI hK dX12_target_50 lf_X12_205 rfl (sc_80 hs) rfl ?_
      refine k_bi hK dX12_target_53 cb_8 ?_
      refine k_cne hK dX12_target_55 (tgt := 63) rfl (fun h4 => ?_) (fun h4 => ?_)
      · have hF := hF.1 h4
        exact k_sub hK [1, 0] rfl hF
      · have hF := hF.2 h4
        refine k_ld hK 1 dX12_target_58 rfl rfl rfl rfl ?_
        refine k_ic hK dX12_target_59 ci_2 ?_
        refine k_cVc hK dX12_target_60 (Or.inl lm_X12_192) (As := [.int 2]) (S := []) rfl (sc_80 hs) (Nat.le_of_ble_eq_true rfl) (fit_0 rfl rfl) rfl hF (fun u5 I6 hF => ?_)
        show K _ _ [] _ _ _
        exact k_sub hK [1, 0] rfl hF
set_option maxHeartbeats 4000000 in
theorem g_X12_target_63 {d : Nat} {K : KT} {Q : Int32 → HI → Prop} {I : HI} {J : HJ} {R : HR} {x1 : Int32} (hK : am_R M_X12_target (am_W d) none R (qC fi J R Q) K) (hs : Stat R)  (hF : ((¬ (I 80 9) = 0 → Wc fv d M_X12_goOn [.ref 80] I J R (fun u2 I3 => Q x1 I3)) ∧ ((I 80 9) = 0 → ((¬ x1 = (-1) → Wc fv d M_X12_goOn [.ref 80] I J R (fun u5 I6 => Q x1 I6)) ∧ (x1 = (-1) → (∃ n7 : Nat, (I 80 14) = nI n7 ∧ n7 < 8 ∧ Wc fv d M_X12_goOn [.ref 80] (up (up I 82 n7 (I 80 8)) 80 14 ((I 80 14) + 1)) J R (fun u10 I11 => Q (I 80 14) I11))))))) : K 63 [(0, .ref 80), (1, .int x1)] [] I J R := by
  refine k_ld hK 0 dX12_target_63 rfl rfl rfl rfl ?_
  refine k_gI hK dX12_target_64 lf_X12_183 rfl (sc_80 hs) rfl ?_
  refine k_ne hK dX12_target_67 (tgt := 103) rfl (fun h1 => ?_) (fun h1 => ?_)
  · have hF := hF.1 h1
    refine k_ld hK 0 dX12_target_103 rfl rfl rfl rfl ?_
    refine k_cVc hK dX12_target_104 (Or.inl lm_X12_196) (As := []) (S := []) rfl (sc_80 hs) (Nat.le_of_ble_eq_true rfl) (fit_0 rfl rfl) rfl hF (fun u2 I3 hF => ?_)
    show K _ _ [] _ _ _
    refine k_ld hK 1 dX12_target_107 rfl rfl rfl rfl ?_
    exact k_iret hK dX12_target_108 rfl rfl (done_0 rfl rfl) (qC_i hF)
  · have hF := hF.2 h1
    refine k_ld hK 1 dX12_target_70 rfl rfl rfl rfl ?_
    refine k_ic hK dX12_target_71 ci_m1 ?_
    refine k_cne hK dX12_target_72 (tgt := 103) rfl (fun h4 => ?_) (fun h4 => ?_)
    · have hF := hF.1 h4
      refine k_ld hK 0 dX12_target_103 rfl rfl rfl rfl ?_
      refine k_cVc hK dX12_target_104 (Or.inl lm_X12_196) (As := []) (S := []) rfl (sc_80 hs) (Nat.le_of_ble_eq_true rfl) (fit_0 rfl rfl) rfl hF (fun u5 I6 hF => ?_)
      show K _ _ [] _ _ _
      refine k_ld hK 1 dX12_target_107 rfl rfl rfl rfl ?_
      exact k_iret hK dX12_target_108 rfl rfl (done_0 rfl rfl) (qC_i hF)
    · have hF := hF.2 h4
      refine k_ld hK 0 dX12_target_75 rfl rfl rfl rfl ?_
      refine k_gI hK dX12_target_76 lf_X12_205 rfl (sc_80 hs) rfl ?_
      refine k_st hK dX12_target_79 rfl rfl rfl (Nat.le_of_ble_eq_true rfl) rfl ?_
      refine k_ld hK 1 dX12_target_80 rfl rfl rfl rfl ?_
      refine k_gR hK dX12_target_81 lf_X12_17 rfl (sc_80 hs) (sf_80_13 hs) ?_
      refine k_ld hK 1 dX12_target_84 rfl rfl rfl rfl ?_
      refine k_gI hK dX12_target_85 lf_X12_205 rfl (sc_80 hs) rfl ?_
      refine k_ld hK 1 dX12_target_88 rfl rfl rfl rfl ?_
      refine k_gI hK dX12_target_89 lf_X12_174 rfl (sc_80 hs) rfl ?_
      obtain ⟨n7, i8, j9, hF⟩ := hF
      refine k_iast hK dX12_target_92 (sc_82 hs) sn_82 (by decide) i8 j9 ?_
      refine k_ld hK 1 dX12_target_93 rfl rfl rfl rfl ?_
      refine k_op hK dX12_target_94 rfl rfl ?_
      refine k_gI hK dX12_target_95 lf_X12_205 rfl (sc_80 hs) ((up_na (by decide)).trans rfl) ?_
      refine k_ic hK dX12_target_98 ci_1 ?_
      refine k_op hK dX12_target_99 rfl rfl ?_
      refine k_pI hK dX12_target_100 lf_X12_205 rfl rfl rfl (sc_80 hs) ?_
      refine k_ld hK 1 dX12_target_103 rfl rfl rfl rfl ?_
      refine k_cVc hK dX12_target_104 (Or.inl lm_X12_196) (As := []) (S := []) rfl (sc_80 hs) (Nat.le_of_ble_eq_true rfl) (fit_0 rfl rfl) rfl hF (fun u10 I11 hF => ?_)
      show K _ _ [] _ _ _
      refine k_ld hK 0 dX12_target_107 rfl rfl rfl rfl ?_
      exact k_iret hK dX12_target_108 rfl rfl (done_0 rfl rfl) (qC_i hF)
set_option maxHeartbeats 4000000 in
theorem g_X12_readAssignment_0 {d : Nat} {K : KT} {Q : Unit → HI → Prop} {I : HI} {J : HJ} {R : HR}  (hK : am_R M_X12_readAssignment (am_W d) none R (qC fv J R Q) K) (hs : Stat R)  (hF : Wp fi d M_X12_rowOf [.ref 80, .int (I 80 8)] I J R (fun r1 => ((¬ r1 = (-1) → Wc fv d M_X12_goOn [.ref 80] I J R (fun u3 I4 => Wc fv d M_X12_needs [.ref 80, .int 91] I4 J R (fun u5 I6 => Wc fv d M_X12_whole [.ref 80] I6 J R (fun u7 I8 => Wc fv d M_X12_needs [.ref 80, .int 93] I8 J R (fun u9 I10 => Wc fv d M_X12_needs [.ref 80, .int 61] I10 J R (fun u11 I12 => Wc fv d M_X12_whole [.ref 80] I12 J R (fun u13 I14 => Wc fv d M_X12_writes [.ref 80, .int 8, .int r1, .int 0] I14 J R (fun u15 I16 => Q () I16)))))))) ∧ (r1 = (-1) → Wc fi d M_X12_target [.ref 80] I J R (fun r17 I18 => Wc fv d M_X12_needs [.ref 80, .int 61] I18 J R (fun u19 I20 => Wc fv d M_X12_whole [.ref 80] I20 J R (fun u21 I22 => Wc fv d M_X12_writes [.ref 80, .int 7, .int r17, .int 0] I22 J R (fun u23 I24 => Q () I24)))))))) : K 0 [(0, .ref 80)] [] I J R := by
  refine k_ld hK 0 dX12_readAssignment_0 rfl rfl rfl rfl ?_
  refine k_ld hK 0 dX12_readAssignment_1 rfl rfl rfl rfl ?_
  refine k_gI hK dX12_readAssignment_2 lf_X12_174 rfl (sc_80 hs) rfl ?_
  refine k_cVp hK dX12_readAssignment_5 (Or.inl lm_X12_222) (As := [.int (I 80 8)]) (S := []) rfl (sc_80 hs) (Nat.le_of_ble_eq_true rfl) (fit_0 rfl rfl) rfl hF (fun r1 hF => ?_)
  show K _ _ [.int r1] _ _ _
  refine k_st hK dX12_readAssignment_8 rfl rfl rfl (Nat.le_of_ble_eq_true rfl) rfl ?_
  refine k_ld hK 0 dX12_readAssignment_9 rfl rfl rfl rfl ?_
  refine k_ic hK dX12_readAssignment_10 ci_m1 ?_
  refine k_cne hK dX12_readAssignment_11 (tgt := 38) rfl (fun h2 => ?_) (fun h2 => ?_)
  · have hF := hF.1 h2
    refine k_ld hK 1 dX12_readAssignment_38 rfl rfl rfl rfl ?_
    refine k_cVc hK dX12_readAssignment_39 (Or.inl lm_X12_196) (As := []) (S := []) rfl (sc_80 hs) (Nat.le_of_ble_eq_true rfl) (fit_0 rfl rfl) rfl hF (fun u3 I4 hF => ?_)
    show K _ _ [] _ _ _
    refine k_ld hK 1 dX12_readAssignment_42 rfl rfl rfl rfl ?_
    refine k_bi hK dX12_readAssignment_43 cb_91 ?_
    refine k_cVc hK dX12_readAssignment_45 (Or.inl lm_X12_264) (As := [.int 91]) (S := []) rfl (sc_80 hs) (Nat.le_of_ble_eq_true rfl) (fit_0 rfl rfl) rfl hF (fun u5 I6 hF => ?_)
    show K _ _ [] _ _ _
    refine k_ld hK 1 dX12_readAssignment_48 rfl rfl rfl rfl ?_
    refine k_cVc hK dX12_readAssignment_49 (Or.inl lm_X12_273) (As := []) (S := []) rfl (sc_80 hs) (Nat.le_of_ble_eq_true rfl) (fit_0 rfl rfl) rfl hF (fun u7 I8 hF => ?_)
    show K _ _ [] _ _ _
    refine k_ld hK 1 dX12_readAssignment_52 rfl rfl rfl rfl ?_
    refine k_bi hK dX12_readAssignment_53 cb_93 ?_
    refine k_cVc hK dX12_readAssignment_55 (Or.inl lm_X12_264) (As := [.int 93]) (S := []) rfl (sc_80 hs) (Nat.le_of_ble_eq_true rfl) (fit_0 rfl rfl) rfl hF (fun u9 I10 hF => ?_)
    show K _ _ [] _ _ _
    refine k_ld hK 1 dX12_readAssignment_58 rfl rfl rfl rfl ?_
    refine k_bi hK dX12_readAssignment_59 cb_61 ?_
    refine k_cVc hK dX12_readAssignment_61 (Or.inl lm_X12_264) (As := [.int 61]) (S := []) rfl (sc_80 hs) (Nat.le_of_ble_eq_true rfl) (fit_0 rfl rfl) rfl hF (fun u11 I12 hF => ?_)
    show K _ _ [] _ _ _
    refine k_ld hK 1 dX12_readAssignment_64 rfl rfl rfl rfl ?_
    refine k_cVc hK dX12_readAssignment_65 (Or.inl lm_X12_273) (As := []) (S := []) rfl (sc_80 hs) (Nat.le_of_ble_eq_true rfl) (fit_0 rfl rfl) rfl hF (fun u13 I14 hF => ?_)
    show K _ _ [] _ _ _
    refine k_ld hK 1 dX12_readAssignment_68 rfl rfl rfl rfl ?_
    refine k_bi hK dX12_readAssignment_69 cb_8 ?_
    refine k_ld hK 0 dX12_readAssignment_71 rfl rfl rfl rfl ?_
    refine k_ic hK dX12_readAssignment_72 ci_0 ?_
    refine k_cVc hK dX12_readAssignment_73 (Or.inl lm_X12_255) (As := [.int 8, .int r1, .int 0]) (S := []) rfl (sc_80 hs) (Nat.le_of_ble_eq_true rfl) (fit_0 rfl rfl) rfl hF (fun u15 I16 hF => ?_)
    show K _ _ [] _ _ _
    exact k_vret hK dX12_readAssignment_76 rfl (done_0 rfl rfl) (qC_i hF)
  · have hF := hF.2 h2
    refine k_ld hK 1 dX12_readAssignment_14 rfl rfl rfl rfl ?_
    refine k_cVc hK dX12_readAssignment_15 (Or.inl lm_X12_270) (As := []) (S := []) rfl (sc_80 hs) (Nat.le_of_ble_eq_true rfl) (fit_0 rfl rfl) rfl hF (fun r17 I18 hF => ?_)
    show K _ _ [.int r17] _ _ _
    refine k_st hK dX12_readAssignment_18 rfl rfl rfl (Nat.le_of_ble_eq_true rfl) rfl ?_
    refine k_ld hK 2 dX12_readAssignment_19 rfl rfl rfl rfl ?_
    refine k_bi hK dX12_readAssignment_20 cb_61 ?_
    refine k_cVc hK dX12_readAssignment_22 (Or.inl lm_X12_264) (As := [.int 61]) (S := []) rfl (sc_80 hs) (Nat.le_of_ble_eq_true rfl) (fit_0 rfl rfl) rfl hF (fun u19 I20 hF => ?_)
    show K _ _ [] _ _ _
    refine k_ld hK 2 dX12_readAssignment_25 rfl rfl rfl rfl ?_
    refine k_cVc hK dX12_readAssignment_26 (Or.inl lm_X12_273) (As := []) (S := []) rfl (sc_80 hs) (Nat.le_of_ble_eq_true rfl) (fit_0 rfl rfl) rfl hF (fun u21 I22 hF => ?_)
    show K _ _ [] _ _ _
    refine k_ld hK 2 dX12_readAssignment_29 rfl rfl rfl rfl ?_
    refine k_bi hK dX12_readAssignment_30 cb_7 ?_
    refine k_ld hK 0 dX12_readAssignment_32 rfl rfl rfl rfl ?_
    refine k_ic hK dX12_readAssignment_33 ci_0 ?_
    refine k_cVc hK dX12_readAssignment_34 (Or.inl lm_X12_255) (As := [.int 7, .int r17, .int 0]) (S := []) rfl (sc_80 hs) (Nat.le_of_ble_eq_true rfl) (fit_0 rfl rfl) rfl hF (fun u23 I24 hF => ?_)
    show K _ _ [] _ _ _
    exact k_vret hK dX12_readAssignment_37 rfl (done_0 rfl rfl) (qC_i hF)
theorem e_X12_readAssignment {d : Nat} {Q : Unit → HI → Prop} {I : HI} {J : HJ} {R : HR}  (hs : Stat R)  (hF : Wp fi d M_X12_rowOf [.ref 80, .int (I 80 8)] I J R (fun r1 => ((¬ r1 = (-1) → Wc fv d M_X12_goOn [.ref 80] I J R (fun u3 I4 => Wc fv d M_X12_needs [.ref 80, .int 91] I4 J R (fun u5 I6 => Wc fv d M_X12_whole [.ref 80] I6 J R (fun u7 I8 => Wc fv d M_X12_needs [.ref 80, .int 93] I8 J R (fun u9 I10 => Wc fv d M_X12_needs [.ref 80, .int 61] I10 J R (fun u11 I12 => Wc fv d M_X12_whole [.ref 80] I12 J R (fun u13 I14 => Wc fv d M_X12_writes [.ref 80, .int 8, .int r1, .int 0] I14 J R (fun u15 I16 => Q () I16)))))))) ∧ (r1 = (-1) → Wc fi d M_X12_target [.ref 80] I J R (fun r17 I18 => Wc fv d M_X12_needs [.ref 80, .int 61] I18 J R (fun u19 I20 => Wc fv d M_X12_whole [.ref 80] I20 J R (fun u21 I22 => Wc fv d M_X12_writes [.ref 80, .int 7, .int r17, .int 0] I22 J R (fun u23 I24 => Q () I24)))))))) : Wc fv (d + 1) M_X12_readAssignment [.ref 80] I J R Q := ⟨Nat.le_of_ble_eq_true rfl, fun K hK => g_X12_readAssignment_0 hK hs hF⟩
set_option maxHeartbeats 4000000 in
theorem g_X12_opens_0 {d : Nat} {K : KT} {Q : Unit → HI → Prop} {I : HI} {J : HJ} {R : HR} {x1 : Int32} {x2 : Int32} (hK : am_R M_X12_opens (am_W d) none R (qC fv J R Q) K) (hs : Stat R)  (hF : (((I 80 9) = 0 → (∃ n2 : Nat, (I 80 27) = nI n2 ∧ n2 < 4 ∧ Q () (up (up (up I 89 n2 x1) 90 n2 x2) 80 27 ((I 80 27) + 1)))) ∧ (¬ (I 80 9) = 0 → Q () I))) : K 0 [(0, .ref 80), (1, .int x1), (2, .int x2)] [] I J R := by
  refine k_ld hK 0 dX12_opens_0 rfl rfl rfl rfl ?_
  refine k_gI hK dX12_opens_1 lf_X12_183 rfl (sc_80 hs) rfl ?_
  refine k_eq hK dX12_opens_4 (tgt := 8) rfl (fun h1 => ?_) (fun h1 => ?_)
  · have hF := hF.1 h1
    refine k_ld hK 0 dX12_opens_8 rfl rfl rfl rfl ?_
    refine k_gR hK dX12_opens_9 lf_X12_38 rfl (sc_80 hs) (sf_80_25 hs) ?_
    refine k_ld hK 0 dX12_opens_12 rfl rfl rfl rfl ?_
    refine k_gI hK dX12_opens_13 lf_X12_276 rfl (sc_80 hs) rfl ?_
    refine k_ld hK 1 dX12_opens_16 rfl rfl rfl rfl ?_
    obtain ⟨n2, i3, j4, hF⟩ := hF
    refine k_iast hK dX12_opens_17 (sc_89 hs) sn_89 (by decide) i3 j4 ?_
    refine k_ld hK 0 dX12_opens_18 rfl rfl rfl rfl ?_
    refine k_gR hK dX12_opens_19 lf_X12_41 rfl (sc_80 hs) (sf_80_26 hs) ?_
    refine k_ld hK 0 dX12_opens_22 rfl rfl rfl rfl ?_
    refine k_gI hK dX12_opens_23 lf_X12_276 rfl (sc_80 hs) ((up_na (by decide)).trans rfl) ?_
    refine k_ld hK 2 dX12_opens_26 rfl rfl rfl rfl ?_
    refine k_iast hK dX12_opens_27 (sc_90 hs) sn_90 (by decide) i3 j4 ?_
    refine k_ld hK 0 dX12_opens_28 rfl rfl rfl rfl ?_
    refine k_op hK dX12_opens_29 rfl rfl ?_
    refine k_gI hK dX12_opens_30 lf_X12_276 rfl (sc_80 hs) ((up_na (by decide)).trans ((up_na (by decide)).trans rfl)) ?_
    refine k_ic hK dX12_opens_33 ci_1 ?_
    refine k_op hK dX12_opens_34 rfl rfl ?_
    refine k_pI hK dX12_opens_35 lf_X12_276 rfl rfl rfl (sc_80 hs) ?_
    exact k_vret hK dX12_opens_38 rfl (done_0 rfl rfl) (qC_i hF)
  · have hF := hF.2 h1
    exact k_vret hK dX12_opens_7 rfl (done_0 rfl rfl) (qC_i hF)
theorem e_X12_opens {d : Nat} {Q : Unit → HI → Prop} {I : HI} {J : HJ} {R : HR} {x1 : Int32} {x2 : Int32} (hs : Stat R)  (hF : (((I 80 9) = 0 → (∃ n2 : Nat, (I 80 27) = nI n2 ∧ n2 < 4 ∧ Q () (up (up (up I 89 n2 x1) 90 n2 x2) 80 27 ((I 80 27) + 1)))) ∧ (¬ (I 80 9) = 0 → Q () I))) : Wc fv (d + 1) M_X12_opens [.ref 80, .int x1, .int x2] I J R Q := ⟨Nat.le_of_ble_eq_true rfl, fun K hK => g_X12_opens_0 hK hs hF⟩
set_option maxHeartbeats 4000000 in
theorem g_X12_readLoop_0 {d : Nat} {K : KT} {Q : Unit → HI → Prop} {I : HI} {J : HJ} {R : HR}  (hK : am_R M_X12_readLoop (am_W d) none R (qC fv J R Q) K) (hs : Stat R)  (hF : ((¬ (I 80 27) = 4 → Wc fv d M_X12_goOn [.ref 80] I J R (fun u2 I3 => Wc fi d M_X12_target [.ref 80] I3 J R (fun r4 I5 => Wc fi d M_X12_numeral [.ref 80, .int 1, .int 20] I5 J R (fun r6 I7 => Wc fv d M_X12_opens [.ref 80, .int 0, .int (I7 80 24)] I7 J R (fun u8 I9 => Wc fv d M_X12_writes [.ref 80, .int 10, .int r4, .int r6] I9 J R (fun u10 I11 => Q () I11)))))) ∧ ((I 80 27) = 4 → Wc fv d M_X12_wrong [.ref 80, .int 2] I J R (fun u12 I13 => Wc fv d M_X12_goOn [.ref 80] I13 J R (fun u14 I15 => Wc fi d M_X12_target [.ref 80] I15 J R (fun r16 I17 => Wc fi d M_X12_numeral [.ref 80, .int 1, .int 20] I17 J R (fun r18 I19 => Wc fv d M_X12_opens [.ref 80, .int 0, .int (I19 80 24)] I19 J R (fun u20 I21 => Wc fv d M_X12_writes [.ref 80, .int 10, .int r16, .int r18] I21 J R (fun u22 I23 => Q () I23))))))))) : K 0 [(0, .ref 80)] [] I J R := by
  refine k_ld hK 0 dX12_readLoop_0 rfl rfl rfl rfl ?_
  refine k_gI hK dX12_readLoop_1 lf_X12_276 rfl (sc_80 hs) rfl ?_
  refine k_ic hK dX12_readLoop_4 ci_4 ?_
  refine k_cne hK dX12_readLoop_5 (tgt := 13) rfl (fun h1 => ?_) (fun h1 => ?_)
  · have hF := hF.1 h1
    refine k_ld hK 0 dX12_readLoop_13 rfl rfl rfl rfl ?_
    refine k_cVc hK dX12_readLoop_14 (Or.inl lm_X12_196) (As := []) (S := []) rfl (sc_80 hs) (Nat.le_of_ble_eq_true rfl) (fit_0 rfl rfl) rfl hF (fun u2 I3 hF => ?_)
    show K _ _ [] _ _ _
    refine k_ld hK 0 dX12_readLoop_17 rfl rfl rfl rfl ?_
    refine k_cVc hK dX12_readLoop_18 (Or.inl lm_X12_270) (As := []) (S := []) rfl (sc_80 hs) (Nat.le_of_ble_eq_true rfl) (fit_0 rfl rfl) rfl hF (fun r4 I5 hF => ?_)
    show K _ _ [.int r4] _ _ _
    refine k_st hK dX12_readLoop_21 rfl rfl rfl (Nat.le_of_ble_eq_true rfl) rfl ?_
    refine k_ld hK 1 dX12_readLoop_22 rfl rfl rfl rfl ?_
    refine k_ic hK dX12_readLoop_23 ci_1 ?_
    refine k_bi hK dX12_readLoop_24 cb_20 ?_
    refine k_cVc hK dX12_readLoop_26 (Or.inl lm_X12_235) (As := [.int 1, .int 20]) (S := []) rfl (sc_80 hs) (Nat.le_of_ble_eq_true rfl) (fit_0 rfl rfl) rfl hF (fun r6 I7 hF => ?_)
    show K _ _ [.int r6] _ _ _
    refine k_st hK dX12_readLoop_29 rfl rfl rfl (Nat.le_of_ble_eq_true rfl) rfl ?_
    refine k_ld hK 2 dX12_readLoop_30 rfl rfl rfl rfl ?_
    refine k_ic hK dX12_readLoop_31 ci_0 ?_
    refine k_ld hK 2 dX12_readLoop_32 rfl rfl rfl rfl ?_
    refine k_gI hK dX12_readLoop_33 lf_X12_202 rfl (sc_80 hs) rfl ?_
    refine k_cVc hK dX12_readLoop_36 (Or.inl lm_X12_279) (As := [.int 0, .int (I7 80 24)]) (S := []) rfl (sc_80 hs) (Nat.le_of_ble_eq_true rfl) (fit_0 rfl rfl) rfl hF (fun u8 I9 hF => ?_)
    show K _ _ [] _ _ _
    refine k_ld hK 2 dX12_readLoop_39 rfl rfl rfl rfl ?_
    refine k_bi hK dX12_readLoop_40 cb_10 ?_
    refine k_ld hK 1 dX12_readLoop_42 rfl rfl rfl rfl ?_
    refine k_ld hK 0 dX12_readLoop_43 rfl rfl rfl rfl ?_
    refine k_cVc hK dX12_readLoop_44 (Or.inl lm_X12_255) (As := [.int 10, .int r4, .int r6]) (S := []) rfl (sc_80 hs) (Nat.le_of_ble_eq_true rfl) (fit_0 rfl rfl) rfl hF (fun u10 I11 hF => ?_)
    show K _ _ [] _ _ _
    exact k_vret hK dX12_readLoop_47 rfl (done_0 rfl rfl) (qC_i hF)
  · have hF := hF.2 h1
    refine k_ld hK 0 dX12_readLoop_8 rfl rfl rfl rfl ?_
    refine k_ic hK dX12_readLoop_9 ci_2 ?_
    refine k_cVc hK dX12_readLoop_10 (Or.inl lm_X12_192) (As := [.int 2]) (S := []) rfl (sc_80 hs) (Nat.le_of_ble_eq_true rfl) (fit_0 rfl rfl) rfl hF (fun u12 I13 hF => ?_)
    show K _ _ [] _ _ _
    refine k_ld hK 0 dX12_readLoop_13 rfl rfl rfl rfl ?_
    refine k_cVc hK dX12_readLoop_14 (Or.inl lm_X12_196) (As := []) (S := []) rfl (sc_80 hs) (Nat.le_of_ble_eq_true rfl) (fit_0 rfl rfl) rfl hF (fun u14 I15 hF => ?_)
    show K _ _ [] _ _ _
    refine k_ld hK 0 dX12_readLoop_17 rfl rfl rfl rfl ?_
    refine k_cVc hK dX12_readLoop_18 (Or.inl lm_X12_270) (As := []) (S := []) rfl (sc_80 hs) (Nat.le_of_ble_eq_true rfl) (fit_0 rfl rfl) rfl hF (fun r16 I17 hF => ?_)
    show K _ _ [.int r16] _ _ _
    refine k_st hK dX12_readLoop_21 rfl rfl rfl (Nat.le_of_ble_eq_true rfl) rfl ?_
    refine k_ld hK 1 dX12_readLoop_22 rfl rfl rfl rfl ?_
    refine k_ic hK dX12_readLoop_23 ci_1 ?_
    refine k_bi hK dX12_readLoop_24 cb_20 ?_
    refine k_cVc hK dX12_readLoop_26 (Or.inl lm_X12_235) (As := [.int 1, .int 20]) (S := []) rfl (sc_80 hs) (Nat.le_of_ble_eq_true rfl) (fit_0 rfl rfl) rfl hF (fun r18 I19 hF => ?_)
    show K _ _ [.int r18] _ _ _
    refine k_st hK dX12_readLoop_29 rfl rfl rfl (Nat.le_of_ble_eq_true rfl) rfl ?_
    refine k_ld hK 2 dX12_readLoop_30 rfl rfl rfl rfl ?_
    refine k_ic hK dX12_readLoop_31 ci_0 ?_
    refine k_ld hK 2 dX12_readLoop_32 rfl rfl rfl rfl ?_
    refine k_gI hK dX12_readLoop_33 lf_X12_202 rfl (sc_80 hs) rfl ?_
    refine k_cVc hK dX12_readLoop_36 (Or.inl lm_X12_279) (As := [.int 0, .int (I19 80 24)]) (S := []) rfl (sc_80 hs) (Nat.le_of_ble_eq_true rfl) (fit_0 rfl rfl) rfl hF (fun u20 I21 hF => ?_)
    show K _ _ [] _ _ _
    refine k_ld hK 2 dX12_readLoop_39 rfl rfl rfl rfl ?_
    refine k_bi hK dX12_readLoop_40 cb_10 ?_
    refine k_ld hK 1 dX12_readLoop_42 rfl rfl rfl rfl ?_
    refine k_ld hK 0 dX12_readLoop_43 rfl rfl rfl rfl ?_
    refine k_cVc hK dX12_readLoop_44 (Or.inl lm_X12_255) (As := [.int 10, .int r16, .int r18]) (S := []) rfl (sc_80 hs) (Nat.le_of_ble_eq_true rfl) (fit_0 rfl rfl) rfl hF (fun u22 I23 hF => ?_)
    show K _ _ [] _ _ _
    exact k_vret hK dX12_readLoop_47 rfl (done_0 rfl rfl) (qC_i hF)
theorem e_X12_readLoop {d : Nat} {Q : Unit → HI → Prop} {I : HI} {J : HJ} {R : HR}  (hs : Stat R)  (hF : ((¬ (I 80 27) = 4 → Wc fv d M_X12_goOn [.ref 80] I J R (fun u2 I3 => Wc fi d M_X12_target [.ref 80] I3 J R (fun r4 I5 => Wc fi d M_X12_numeral [.ref 80, .int 1, .int 20] I5 J R (fun r6 I7 => Wc fv d M_X12_opens [.ref 80, .int 0, .int (I7 80 24)] I7 J R (fun u8 I9 => Wc fv d M_X12_writes [.ref 80, .int 10, .int r4, .int r6] I9 J R (fun u10 I11 => Q () I11)))))) ∧ ((I 80 27) = 4 → Wc fv d M_X12_wrong [.ref 80, .int 2] I J R (fun u12 I13 => Wc fv d M_X12_goOn [.ref 80] I13 J R (fun u14 I15 => Wc fi d M_X12_target [.ref 80] I15 J R (fun r16 I17 => Wc fi d M_X12_numeral [.ref 80, .int 1, .int 20] I17 J R (fun r18 I19 => Wc fv d M_X12_opens [.ref 80, .int 0, .int (I19 80 24)] I19 J R (fun u20 I21 => Wc fv d M_X12_writes [.ref 80, .int 10, .int r16, .int r18] I21 J R (fun u22 I23 => Q () I23))))))))) : Wc fv (d + 1) M_X12_readLoop [.ref 80] I J R Q := ⟨Nat.le_of_ble_eq_true rfl, fun K hK => g_X12_readLoop_0 hK hs hF⟩
set_option maxHeartbeats 4000000 in
theorem g_X12_readIf_0 {d : Nat} {K : KT} {Q : Unit → HI → Prop} {I : HI} {J : HJ} {R : HR}  (hK : am_R M_X12_readIf (am_W d) none R (qC fv J R Q) K) (hs : Stat R)  (hF : ((¬ (I 80 27) = 4 → K 13 [(0, .ref 80)] [] I J R) ∧ ((I 80 27) = 4 → Wc fv d M_X12_wrong [.ref 80, .int 2] I J R (fun u2 I3 => K 13 [(0, .ref 80)] [] I3 J R)))) : K 0 [(0, .ref 80)] [] I J R := by
  refine k_ld hK 0 dX12_readIf_0 rfl rfl rfl rfl ?_
  refine k_gI hK dX12_readIf_1 lf_X12_276 rfl (sc_80 hs) rfl ?_
  refine k_ic hK dX12_readIf_4 ci_4 ?_
  refine k_cne hK dX12_readIf_5 (tgt := 13) rfl (fun h1 => ?_) (fun h1 => ?_)
  · have hF := hF.1 h1
    exact k_sub hK [0] rfl hF
  · have hF := hF.2 h1
    refine k_ld hK 0 dX12_readIf_8 rfl rfl rfl rfl ?_
    refine k_ic hK dX12_readIf_9 ci_2 ?_
    refine k_cVc hK dX12_readIf_10 (Or.inl lm_X12_192) (As := [.int 2]) (S := []) rfl (sc_80 hs) (Nat.le_of_ble_eq_true rfl) (fit_0 rfl rfl) rfl hF (fun u2 I3 hF => ?_)
    show K _ _ [] _ _ _
    exact k_sub hK [0] rfl hF
set_option maxHeartbeats 4000000 in
theorem g_X12_readIf_13 {d : Nat} {K : KT} {Q : Unit → HI → Prop} {I : HI} {J : HJ} {R : HR}  (hK : am_R M_X12_readIf (am_W d) none R (qC fv J R Q) K) (hs : Stat R)  (hF : Wc fv d M_X12_goOn [.ref 80] I J R (fun u1 I2 => Wc fv d M_X12_whole [.ref 80] I2 J R (fun u3 I4 => Wp fb d M_X12_isSign [.ref 80, .int 60] I4 J R (fun b5 => ((b5 = false → Wp fb d M_X12_isSign [.ref 80, .int 61] I4 J R (fun b7 => ((b7 = true → K 58 [(0, .ref 80), (1, .int 13)] [] I4 J R) ∧ (b7 = false → Wc fv d M_X12_wrong [.ref 80, .int 1] I4 J R (fun u9 I10 => K 58 [(0, .ref 80), (1, .int 13)] [] I10 J R))))) ∧ (b5 = true → K 58 [(0, .ref 80), (1, .int 12)] [] I4 J R)))))) : K 13 [(0, .ref 80)] [] I J R := by
  refine k_ld hK 0 dX12_readIf_13 rfl rfl rfl rfl ?_
  refine k_cVc hK dX12_readIf_14 (Or.inl lm_X12_196) (As := []) (S := []) rfl (sc_80 hs) (Nat.le_of_ble_eq_true rfl) (fit_0 rfl rfl) rfl hF (fun u1 I2 hF => ?_)
  show K _ _ [] _ _ _
  refine k_ld hK 0 dX12_readIf_17 rfl rfl rfl rfl ?_
  refine k_cVc hK dX12_readIf_18 (Or.inl lm_X12_273) (As := []) (S := []) rfl (sc_80 hs) (Nat.le_of_ble_eq_true rfl) (fit_0 rfl rfl) rfl hF (fun u3 I4 hF => ?_)
  show K _ _ [] _ _ _
  refine k_ld hK 0 dX12_readIf_21 rfl rfl rfl rfl ?_
  refine k_bi hK dX12_readIf_22 cb_60 ?_
  refine k_cVp hK dX12_readIf_24 (Or.inl lm_X12_199) (As := [.int 60]) (S := []) rfl (sc_80 hs) (Nat.le_of_ble_eq_true rfl) (fit_0 rfl rfl) rfl hF (fun b5 hF => ?_)
  show K _ _ [.int (b2i b5)] _ _ _
  refine k_beq hK dX12_readIf_27 (tgt := 35) rfl (fun h6 => ?_) (fun h6 => ?_)
  · have hF := hF.1 h6
    refine k_bi hK dX12_readIf_35 cb_13 ?_
    refine k_st hK dX12_readIf_37 rfl rfl rfl (Nat.le_of_ble_eq_true rfl) rfl ?_
    refine k_ld hK 0 dX12_readIf_38 rfl rfl rfl rfl ?_
    refine k_bi hK dX12_readIf_39 cb_13 ?_
    refine k_cne hK dX12_readIf_41 (tgt := 58) rfl (fun h => absurd h (by decide)) (fun _ => ?_)
    refine k_ld hK 1 dX12_readIf_44 rfl rfl rfl rfl ?_
    refine k_bi hK dX12_readIf_45 cb_61 ?_
    refine k_cVp hK dX12_readIf_47 (Or.inl lm_X12_199) (As := [.int 61]) (S := []) rfl (sc_80 hs) (Nat.le_of_ble_eq_true rfl) (fit_0 rfl rfl) rfl hF (fun b7 hF => ?_)
    show K _ _ [.int (b2i b7)] _ _ _
    refine k_bne hK dX12_readIf_50 (tgt := 58) rfl (fun h8 => ?_) (fun h8 => ?_)
    · have hF := hF.1 h8
      exact k_sub hK [1, 0] rfl hF
    · have hF := hF.2 h8
      refine k_ld hK 1 dX12_readIf_53 rfl rfl rfl rfl ?_
      refine k_ic hK dX12_readIf_54 ci_1 ?_
      refine k_cVc hK dX12_readIf_55 (Or.inl lm_X12_192) (As := [.int 1]) (S := []) rfl (sc_80 hs) (Nat.le_of_ble_eq_true rfl) (fit_0 rfl rfl) rfl hF (fun u9 I10 hF => ?_)
      show K _ _ [] _ _ _
      exact k_sub hK [1, 0] rfl hF
  · have hF := hF.2 h6
    refine k_bi hK dX12_readIf_30 cb_12 ?_
    refine k_goto hK dX12_readIf_32 (tgt := 37) rfl ?_
    refine k_st hK dX12_readIf_37 rfl rfl rfl (Nat.le_of_ble_eq_true rfl) rfl ?_
    refine k_ld hK 0 dX12_readIf_38 rfl rfl rfl rfl ?_
    refine k_bi hK dX12_readIf_39 cb_13 ?_
    refine k_cne hK dX12_readIf_41 (tgt := 58) rfl (fun _ => ?_) (fun h => absurd h (by decide))
    exact k_sub hK [1, 0] rfl hF
set_option maxHeartbeats 4000000 in
theorem g_X12_readIf_58 {d : Nat} {K : KT} {Q : Unit → HI → Prop} {I : HI} {J : HJ} {R : HR} {x1 : Int32} (hK : am_R M_X12_readIf (am_W d) none R (qC fv J R Q) K) (hs : Stat R)  (hF : Wc fv d M_X12_goOn [.ref 80] I J R (fun u1 I2 => Wc fv d M_X12_whole [.ref 80] I2 J R (fun u3 I4 => Wc fv d M_X12_opens [.ref 80, .int 1, .int (I4 80 24)] I4 J R (fun u5 I6 => Wc fv d M_X12_writes [.ref 80, .int x1, .int 0, .int 0] I6 J R (fun u7 I8 => Q () I8))))) : K 58 [(0, .ref 80), (1, .int x1)] [] I J R := by
  refine k_ld hK 0 dX12_readIf_58 rfl rfl rfl rfl ?_
  refine k_cVc hK dX12_readIf_59 (Or.inl lm_X12_196) (As := []) (S := []) rfl (sc_80 hs) (Nat.le_of_ble_eq_true rfl) (fit_0 rfl rfl) rfl hF (fun u1 I2 hF => ?_)
  show K _ _ [] _ _ _
  refine k_ld hK 0 dX12_readIf_62 rfl rfl rfl rfl ?_
  refine k_cVc hK dX12_readIf_63 (Or.inl lm_X12_273) (As := []) (S := []) rfl (sc_80 hs) (Nat.le_of_ble_eq_true rfl) (fit_0 rfl rfl) rfl hF (fun u3 I4 hF => ?_)
  show K _ _ [] _ _ _
  refine k_ld hK 0 dX12_readIf_66 rfl rfl rfl rfl ?_
  refine k_ic hK dX12_readIf_67 ci_1 ?_
  refine k_ld hK 0 dX12_readIf_68 rfl rfl rfl rfl ?_
  refine k_gI hK dX12_readIf_69 lf_X12_202 rfl (sc_80 hs) rfl ?_
  refine k_cVc hK dX12_readIf_72 (Or.inl lm_X12_279) (As := [.int 1, .int (I4 80 24)]) (S := []) rfl (sc_80 hs) (Nat.le_of_ble_eq_true rfl) (fit_0 rfl rfl) rfl hF (fun u5 I6 hF => ?_)
  show K _ _ [] _ _ _
  refine k_ld hK 0 dX12_readIf_75 rfl rfl rfl rfl ?_
  refine k_ld hK 1 dX12_readIf_76 rfl rfl rfl rfl ?_
  refine k_ic hK dX12_readIf_77 ci_0 ?_
  refine k_ic hK dX12_readIf_78 ci_0 ?_
  refine k_cVc hK dX12_readIf_79 (Or.inl lm_X12_255) (As := [.int x1, .int 0, .int 0]) (S := []) rfl (sc_80 hs) (Nat.le_of_ble_eq_true rfl) (fit_0 rfl rfl) rfl hF (fun u7 I8 hF => ?_)
  show K _ _ [] _ _ _
  exact k_vret hK dX12_readIf_82 rfl (done_0 rfl rfl) (qC_i hF)
set_option maxHeartbeats 4000000 in
theorem g_X12_readElse_0 {d : Nat} {K : KT} {Q : Unit → HI → Prop} {I : HI} {J : HJ} {R : HR}  (hK : am_R M_X12_readElse (am_W d) none R (qC fv J R Q) K) (hs : Stat R)  (hF : (((I 80 27) = 0 → Wc fv d M_X12_wrong [.ref 80, .int 1] I J R (fun u2 I3 => K 27 [(0, .ref 80)] [] I3 J R)) ∧ (¬ (I 80 27) = 0 → (∃ n4 : Nat, ((I 80 27) - 1) = nI n4 ∧ n4 < 4 ∧ (((I 89 n4) = 1 → K 27 [(0, .ref 80)] [] I J R) ∧ (¬ (I 89 n4) = 1 → Wc fv d M_X12_wrong [.ref 80, .int 1] I J R (fun u8 I9 => K 27 [(0, .ref 80)] [] I9 J R))))))) : K 0 [(0, .ref 80)] [] I J R := by
  refine k_ld hK 0 dX12_readElse_0 rfl rfl rfl rfl ?_
  refine k_gI hK dX12_readElse_1 lf_X12_276 rfl (sc_80 hs) rfl ?_
  refine k_eq hK dX12_readElse_4 (tgt := 22) rfl (fun h1 => ?_) (fun h1 => ?_)
  · have hF := hF.1 h1
    refine k_ld hK 0 dX12_readElse_22 rfl rfl rfl rfl ?_
    refine k_ic hK dX12_readElse_23 ci_1 ?_
    refine k_cVc hK dX12_readElse_24 (Or.inl lm_X12_192) (As := [.int 1]) (S := []) rfl (sc_80 hs) (Nat.le_of_ble_eq_true rfl) (fit_0 rfl rfl) rfl hF (fun u2 I3 hF => ?_)
    show K _ _ [] _ _ _
    exact k_sub hK [0] rfl hF
  · have hF := hF.2 h1
    refine k_ld hK 0 dX12_readElse_7 rfl rfl rfl rfl ?_
    refine k_gR hK dX12_readElse_8 lf_X12_38 rfl (sc_80 hs) (sf_80_25 hs) ?_
    refine k_ld hK 0 dX12_readElse_11 rfl rfl rfl rfl ?_
    refine k_gI hK dX12_readElse_12 lf_X12_276 rfl (sc_80 hs) rfl ?_
    refine k_ic hK dX12_readElse_15 ci_1 ?_
    refine k_op hK dX12_readElse_16 rfl rfl ?_
    obtain ⟨n4, i5, j6, hF⟩ := hF
    refine k_iald hK dX12_readElse_17 (sc_89 hs) sn_89 (by decide) i5 j6 rfl ?_
    refine k_ic hK dX12_readElse_18 ci_1 ?_
    refine k_ceq hK dX12_readElse_19 (tgt := 27) rfl (fun h7 => ?_) (fun h7 => ?_)
    · have hF := hF.1 h7
      exact k_sub hK [0] rfl hF
    · have hF := hF.2 h7
      refine k_ld hK 0 dX12_readElse_22 rfl rfl rfl rfl ?_
      refine k_ic hK dX12_readElse_23 ci_1 ?_
      refine k_cVc hK dX12_readElse_24 (Or.inl lm_X12_192) (As := [.int 1]) (S := []) rfl (sc_80 hs) (Nat.le_of_ble_eq_true rfl) (fit_0 rfl rfl) rfl hF (fun u8 I9 hF => ?_)
      show K _ _ [] _ _ _
      exact k_sub hK [0] rfl hF
set_option maxHeartbeats 4000000 in
theorem g_X12_readElse_27 {d : Nat} {K : KT} {Q : Unit → HI → Prop} {I : HI} {J : HJ} {R : HR}  (hK : am_R M_X12_readElse (am_W d) none R (qC fv J R Q) K) (hs : Stat R)  (hF : Wc fv d M_X12_goOn [.ref 80] I J R (fun u1 I2 => (((I2 80 9) = 0 → (∃ n4 : Nat, ((I2 80 27) - 1) = nI n4 ∧ n4 < 4 ∧ Wc fv d M_X12_writes [.ref 80, .int 14, .int 0, .int 0] (up (up I2 89 n4 2) 90 n4 (I2 80 24)) J R (fun u7 I8 => (∃ n9 : Nat, (1000 + (I2 90 n4)) = nI n9 ∧ n9 < 2000 ∧ Q () (up I8 87 n9 (I8 80 24)))))) ∧ (¬ (I2 80 9) = 0 → Q () I2)))) : K 27 [(0, .ref 80)] [] I J R := by
  refine k_ld hK 0 dX12_readElse_27 rfl rfl rfl rfl ?_
  refine k_cVc hK dX12_readElse_28 (Or.inl lm_X12_196) (As := []) (S := []) rfl (sc_80 hs) (Nat.le_of_ble_eq_true rfl) (fit_0 rfl rfl) rfl hF (fun u1 I2 hF => ?_)
  show K _ _ [] _ _ _
  refine k_ld hK 0 dX12_readElse_31 rfl rfl rfl rfl ?_
  refine k_gI hK dX12_readElse_32 lf_X12_183 rfl (sc_80 hs) rfl ?_
  refine k_eq hK dX12_readElse_35 (tgt := 39) rfl (fun h3 => ?_) (fun h3 => ?_)
  · have hF := hF.1 h3
    refine k_ld hK 0 dX12_readElse_39 rfl rfl rfl rfl ?_
    refine k_gR hK dX12_readElse_40 lf_X12_41 rfl (sc_80 hs) (sf_80_26 hs) ?_
    refine k_ld hK 0 dX12_readElse_43 rfl rfl rfl rfl ?_
    refine k_gI hK dX12_readElse_44 lf_X12_276 rfl (sc_80 hs) rfl ?_
    refine k_ic hK dX12_readElse_47 ci_1 ?_
    refine k_op hK dX12_readElse_48 rfl rfl ?_
    obtain ⟨n4, i5, j6, hF⟩ := hF
    refine k_iald hK dX12_readElse_49 (sc_90 hs) sn_90 (by decide) i5 j6 rfl ?_
    refine k_st hK dX12_readElse_50 rfl rfl rfl (Nat.le_of_ble_eq_true rfl) rfl ?_
    refine k_ld hK 1 dX12_readElse_51 rfl rfl rfl rfl ?_
    refine k_gR hK dX12_readElse_52 lf_X12_38 rfl (sc_80 hs) (sf_80_25 hs) ?_
    refine k_ld hK 1 dX12_readElse_55 rfl rfl rfl rfl ?_
    refine k_gI hK dX12_readElse_56 lf_X12_276 rfl (sc_80 hs) rfl ?_
    refine k_ic hK dX12_readElse_59 ci_1 ?_
    refine k_op hK dX12_readElse_60 rfl rfl ?_
    refine k_ic hK dX12_readElse_61 ci_2 ?_
    refine k_iast hK dX12_readElse_62 (sc_89 hs) sn_89 (by decide) i5 j6 ?_
    refine k_ld hK 1 dX12_readElse_63 rfl rfl rfl rfl ?_
    refine k_gR hK dX12_readElse_64 lf_X12_41 rfl (sc_80 hs) (sf_80_26 hs) ?_
    refine k_ld hK 1 dX12_readElse_67 rfl rfl rfl rfl ?_
    refine k_gI hK dX12_readElse_68 lf_X12_276 rfl (sc_80 hs) ((up_na (by decide)).trans rfl) ?_
    refine k_ic hK dX12_readElse_71 ci_1 ?_
    refine k_op hK dX12_readElse_72 rfl rfl ?_
    refine k_ld hK 1 dX12_readElse_73 rfl rfl rfl rfl ?_
    refine k_gI hK dX12_readElse_74 lf_X12_202 rfl (sc_80 hs) ((up_na (by decide)).trans rfl) ?_
    refine k_iast hK dX12_readElse_77 (sc_90 hs) sn_90 (by decide) i5 j6 ?_
    refine k_ld hK 1 dX12_readElse_78 rfl rfl rfl rfl ?_
    refine k_bi hK dX12_readElse_79 cb_14 ?_
    refine k_ic hK dX12_readElse_81 ci_0 ?_
    refine k_ic hK dX12_readElse_82 ci_0 ?_
    refine k_cVc hK dX12_readElse_83 (Or.inl lm_X12_255) (As := [.int 14, .int 0, .int 0]) (S := []) rfl (sc_80 hs) (Nat.le_of_ble_eq_true rfl) (fit_0 rfl rfl) rfl hF (fun u7 I8 hF => ?_)
    show K _ _ [] _ _ _
    refine k_ld hK 1 dX12_readElse_86 rfl rfl rfl rfl ?_
    refine k_gR hK dX12_readElse_87 lf_X12_32 rfl (sc_80 hs) (sf_80_22 hs) ?_
    refine k_si hK dX12_readElse_90 cs_1000 ?_
    refine k_ld hK 0 dX12_readElse_93 rfl rfl rfl rfl ?_
    refine k_op hK dX12_readElse_94 rfl rfl ?_
    refine k_ld hK 1 dX12_readElse_95 rfl rfl rfl rfl ?_
    refine k_gI hK dX12_readElse_96 lf_X12_202 rfl (sc_80 hs) rfl ?_
    obtain ⟨n9, i10, j11, hF⟩ := hF
    refine k_iast hK dX12_readElse_99 (sc_87 hs) sn_87 (by decide) i10 j11 ?_
    exact k_vret hK dX12_readElse_100 rfl (done_0 rfl rfl) (qC_i hF)
  · have hF := hF.2 h3
    exact k_vret hK dX12_readElse_38 rfl (done_0 rfl rfl) (qC_i hF)
set_option maxHeartbeats 4000000 in
theorem g_X12_readEnd_0 {d : Nat} {K : KT} {Q : Unit → HI → Prop} {I : HI} {J : HJ} {R : HR}  (hK : am_R M_X12_readEnd (am_W d) none R (qC fv J R Q) K) (hs : Stat R)  (hF : ((¬ (I 80 27) = 0 → K 12 [(0, .ref 80)] [] I J R) ∧ ((I 80 27) = 0 → Wc fv d M_X12_wrong [.ref 80, .int 1] I J R (fun u2 I3 => K 12 [(0, .ref 80)] [] I3 J R)))) : K 0 [(0, .ref 80)] [] I J R := by
  refine k_ld hK 0 dX12_readEnd_0 rfl rfl rfl rfl ?_
  refine k_gI hK dX12_readEnd_1 lf_X12_276 rfl (sc_80 hs) rfl ?_
  refine k_ne hK dX12_readEnd_4 (tgt := 12) rfl (fun h1 => ?_) (fun h1 => ?_)
  · have hF := hF.1 h1
    exact k_sub hK [0] rfl hF
  · have hF := hF.2 h1
    refine k_ld hK 0 dX12_readEnd_7 rfl rfl rfl rfl ?_
    refine k_ic hK dX12_readEnd_8 ci_1 ?_
    refine k_cVc hK dX12_readEnd_9 (Or.inl lm_X12_192) (As := [.int 1]) (S := []) rfl (sc_80 hs) (Nat.le_of_ble_eq_true rfl) (fit_0 rfl rfl) rfl hF (fun u2 I3 hF => ?_)
    show K _ _ [] _ _ _
    exact k_sub hK [0] rfl hF
set_option maxHeartbeats 4000000 in
theorem g_X12_readEnd_12 {d : Nat} {K : KT} {Q : Unit → HI → Prop} {I : HI} {J : HJ} {R : HR}  (hK : am_R M_X12_readEnd (am_W d) none R (qC fv J R Q) K) (hs : Stat R)  (hF : Wc fv d M_X12_goOn [.ref 80] I J R (fun u1 I2 => (((I2 80 9) = 0 → (∃ n4 : Nat, ((I2 80 27) - 1) = nI n4 ∧ n4 < 4 ∧ ((¬ (I2 89 n4) = 0 → (∃ n8 : Nat, (1000 + (I2 90 n4)) = nI n8 ∧ n8 < 2000 ∧ Q () (up (up I2 80 27 ((I2 80 27) - 1)) 87 n8 (I2 80 24)))) ∧ ((I2 89 n4) = 0 → Wc fv d M_X12_writes [.ref 80, .int 11, .int ((I2 90 n4) + 1), .int 0] (up I2 80 27 ((I2 80 27) - 1)) J R (fun u11 I12 => Q () I12))))) ∧ (¬ (I2 80 9) = 0 → Q () I2)))) : K 12 [(0, .ref 80)] [] I J R := by
  refine k_ld hK 0 dX12_readEnd_12 rfl rfl rfl rfl ?_
  refine k_cVc hK dX12_readEnd_13 (Or.inl lm_X12_196) (As := []) (S := []) rfl (sc_80 hs) (Nat.le_of_ble_eq_true rfl) (fit_0 rfl rfl) rfl hF (fun u1 I2 hF => ?_)
  show K _ _ [] _ _ _
  refine k_ld hK 0 dX12_readEnd_16 rfl rfl rfl rfl ?_
  refine k_gI hK dX12_readEnd_17 lf_X12_183 rfl (sc_80 hs) rfl ?_
  refine k_eq hK dX12_readEnd_20 (tgt := 24) rfl (fun h3 => ?_) (fun h3 => ?_)
  · have hF := hF.1 h3
    refine k_ld hK 0 dX12_readEnd_24 rfl rfl rfl rfl ?_
    refine k_op hK dX12_readEnd_25 rfl rfl ?_
    refine k_gI hK dX12_readEnd_26 lf_X12_276 rfl (sc_80 hs) rfl ?_
    refine k_ic hK dX12_readEnd_29 ci_1 ?_
    refine k_op hK dX12_readEnd_30 rfl rfl ?_
    refine k_pI hK dX12_readEnd_31 lf_X12_276 rfl rfl rfl (sc_80 hs) ?_
    refine k_ld hK 0 dX12_readEnd_34 rfl rfl rfl rfl ?_
    refine k_gR hK dX12_readEnd_35 lf_X12_41 rfl (sc_80 hs) (sf_80_26 hs) ?_
    refine k_ld hK 0 dX12_readEnd_38 rfl rfl rfl rfl ?_
    refine k_gI hK dX12_readEnd_39 lf_X12_276 rfl (sc_80 hs) up_s ?_
    obtain ⟨n4, i5, j6, hF⟩ := hF
    refine k_iald hK dX12_readEnd_42 (sc_90 hs) sn_90 (by decide) i5 j6 ((up_na (by decide)).trans rfl) ?_
    refine k_st hK dX12_readEnd_43 rfl rfl rfl (Nat.le_of_ble_eq_true rfl) rfl ?_
    refine k_ld hK 1 dX12_readEnd_44 rfl rfl rfl rfl ?_
    refine k_gR hK dX12_readEnd_45 lf_X12_38 rfl (sc_80 hs) (sf_80_25 hs) ?_
    refine k_ld hK 1 dX12_readEnd_48 rfl rfl rfl rfl ?_
    refine k_gI hK dX12_readEnd_49 lf_X12_276 rfl (sc_80 hs) up_s ?_
    refine k_iald hK dX12_readEnd_52 (sc_89 hs) sn_89 (by decide) i5 j6 ((up_na (by decide)).trans rfl) ?_
    refine k_ne hK dX12_readEnd_53 (tgt := 69) rfl (fun h7 => ?_) (fun h7 => ?_)
    · have hF := hF.1 h7
      refine k_ld hK 1 dX12_readEnd_69 rfl rfl rfl rfl ?_
      refine k_gR hK dX12_readEnd_70 lf_X12_32 rfl (sc_80 hs) (sf_80_22 hs) ?_
      refine k_si hK dX12_readEnd_73 cs_1000 ?_
      refine k_ld hK 0 dX12_readEnd_76 rfl rfl rfl rfl ?_
      refine k_op hK dX12_readEnd_77 rfl rfl ?_
      refine k_ld hK 1 dX12_readEnd_78 rfl rfl rfl rfl ?_
      refine k_gI hK dX12_readEnd_79 lf_X12_202 rfl (sc_80 hs) ((up_nk (by decide)).trans rfl) ?_
      obtain ⟨n8, i9, j10, hF⟩ := hF
      refine k_iast hK dX12_readEnd_82 (sc_87 hs) sn_87 (by decide) i9 j10 ?_
      exact k_vret hK dX12_readEnd_83 rfl (done_0 rfl rfl) (qC_i hF)
    · have hF := hF.2 h7
      refine k_ld hK 1 dX12_readEnd_56 rfl rfl rfl rfl ?_
      refine k_bi hK dX12_readEnd_57 cb_11 ?_
      refine k_ld hK 0 dX12_readEnd_59 rfl rfl rfl rfl ?_
      refine k_ic hK dX12_readEnd_60 ci_1 ?_
      refine k_op hK dX12_readEnd_61 rfl rfl ?_
      refine k_ic hK dX12_readEnd_62 ci_0 ?_
      refine k_cVc hK dX12_readEnd_63 (Or.inl lm_X12_255) (As := [.int 11, .int ((I2 90 n4) + 1), .int 0]) (S := []) rfl (sc_80 hs) (Nat.le_of_ble_eq_true rfl) (fit_0 rfl rfl) rfl hF (fun u11 I12 hF => ?_)
      show K _ _ [] _ _ _
      refine k_goto hK dX12_readEnd_66 (tgt := 83) rfl ?_
      exact k_vret hK dX12_readEnd_83 rfl (done_0 rfl rfl) (qC_i hF)
  · have hF := hF.2 h3
    exact k_vret hK dX12_readEnd_23 rfl (done_0 rfl rfl) (qC_i hF)
set_option maxHeartbeats 4000000 in
theorem g_X12_readLine_0 {d : Nat} {K : KT} {Q : Unit → HI → Prop} {I : HI} {J : HJ} {R : HR}  (hK : am_R M_X12_readLine (am_W d) none R (qC fv J R Q) K) (hs : Stat R)  (hF : (((I 80 7) = 0 → ((¬ (I 80 9) = 0 → K 76 [(0, .ref 80), (1, .int (I 80 8))] [] I J R) ∧ ((I 80 9) = 0 → (((I 80 8) = 257 → K 44 [(0, .ref 80), (1, .int (I 80 8))] [] I J R) ∧ (¬ (I 80 8) = 257 → (((I 80 8) = 13550 → K 44 [(0, .ref 80), (1, .int (I 80 8))] [] I J R) ∧ (¬ (I 80 8) = 13550 → ((¬ (I 80 8) = 900000 → K 76 [(0, .ref 80), (1, .int (I 80 8))] [] I J R) ∧ ((I 80 8) = 900000 → K 44 [(0, .ref 80), (1, .int (I 80 8))] [] I J R))))))))) ∧ (¬ (I 80 7) = 0 → Wc fv d M_X12_wrong [.ref 80, .int 1] I J R (fun u6 I7 => ((¬ (I7 80 9) = 0 → K 76 [(0, .ref 80), (1, .int (I7 80 8))] [] I7 J R) ∧ ((I7 80 9) = 0 → (((I7 80 8) = 257 → K 44 [(0, .ref 80), (1, .int (I7 80 8))] [] I7 J R) ∧ (¬ (I7 80 8) = 257 → (((I7 80 8) = 13550 → K 44 [(0, .ref 80), (1, .int (I7 80 8))] [] I7 J R) ∧ (¬ (I7 80 8) = 13550 → ((¬ (I7 80 8) = 900000 → K 76 [(0, .ref 80), (1, .int (I7 80 8))] [] I7 J R) ∧ ((I7 80 8) = 900000 → K 44 [(0, .ref 80), (1, .int (I7 80 8))] [] I7 J R)))))))))))) : K 0 [(0, .ref 80)] [] I J R := by
  refine k_ld hK 0 dX12_readLine_0 rfl rfl rfl rfl ?_
  refine k_gI hK dX12_readLine_1 lf_X12_161 rfl (sc_80 hs) rfl ?_
  refine k_eq hK dX12_readLine_4 (tgt := 12) rfl (fun h1 => ?_) (fun h1 => ?_)
  · have hF := hF.1 h1
    refine k_ld hK 0 dX12_readLine_12 rfl rfl rfl rfl ?_
    refine k_gI hK dX12_readLine_13 lf_X12_174 rfl (sc_80 hs) rfl ?_
    refine k_st hK dX12_readLine_16 rfl rfl rfl (Nat.le_of_ble_eq_true rfl) rfl ?_
    refine k_ld hK 1 dX12_readLine_17 rfl rfl rfl rfl ?_
    refine k_gI hK dX12_readLine_18 lf_X12_183 rfl (sc_80 hs) rfl ?_
    refine k_ne hK dX12_readLine_21 (tgt := 76) rfl (fun h2 => ?_) (fun h2 => ?_)
    · have hF := hF.1 h2
      exact k_sub hK [1, 0] rfl hF
    · have hF := hF.2 h2
      refine k_ld hK 0 dX12_readLine_24 rfl rfl rfl rfl ?_
      refine k_si hK dX12_readLine_25 cs_257 ?_
      refine k_ceq hK dX12_readLine_28 (tgt := 44) rfl (fun h3 => ?_) (fun h3 => ?_)
      · have hF := hF.1 h3
        exact k_sub hK [1, 0] rfl hF
      · have hF := hF.2 h3
        refine k_ld hK 0 dX12_readLine_31 rfl rfl rfl rfl ?_
        refine k_si hK dX12_readLine_32 cs_13550 ?_
        refine k_ceq hK dX12_readLine_35 (tgt := 44) rfl (fun h4 => ?_) (fun h4 => ?_)
        · have hF := hF.1 h4
          exact k_sub hK [1, 0] rfl hF
        · have hF := hF.2 h4
          refine k_ld hK 0 dX12_readLine_38 rfl rfl rfl rfl ?_
          refine k_ldc hK dX12_readLine_39 lc_X12_180 ?_
          refine k_cne hK dX12_readLine_41 (tgt := 76) rfl (fun h5 => ?_) (fun h5 => ?_)
          · have hF := hF.1 h5
            exact k_sub hK [1, 0] rfl hF
          · have hF := hF.2 h5
            exact k_sub hK [1, 0] rfl hF
  · have hF := hF.2 h1
    refine k_ld hK 0 dX12_readLine_7 rfl rfl rfl rfl ?_
    refine k_ic hK dX12_readLine_8 ci_1 ?_
    refine k_cVc hK dX12_readLine_9 (Or.inl lm_X12_192) (As := [.int 1]) (S := []) rfl (sc_80 hs) (Nat.le_of_ble_eq_true rfl) (fit_0 rfl rfl) rfl hF (fun u6 I7 hF => ?_)
    show K _ _ [] _ _ _
    refine k_ld hK 0 dX12_readLine_12 rfl rfl rfl rfl ?_
    refine k_gI hK dX12_readLine_13 lf_X12_174 rfl (sc_80 hs) rfl ?_
    refine k_st hK dX12_readLine_16 rfl rfl rfl (Nat.le_of_ble_eq_true rfl) rfl ?_
    refine k_ld hK 1 dX12_readLine_17 rfl rfl rfl rfl ?_
    refine k_gI hK dX12_readLine_18 lf_X12_183 rfl (sc_80 hs) rfl ?_
    refine k_ne hK dX12_readLine_21 (tgt := 76) rfl (fun h8 => ?_) (fun h8 => ?_)
    · have hF := hF.1 h8
      exact k_sub hK [1, 0] rfl hF
    · have hF := hF.2 h8
      refine k_ld hK 0 dX12_readLine_24 rfl rfl rfl rfl ?_
      refine k_si hK dX12_readLine_25 cs_257 ?_
      refine k_ceq hK dX12_readLine_28 (tgt := 44) rfl (fun h9 => ?_) (fun h9 => ?_)
      · have hF := hF.1 h9
        exact k_sub hK [1, 0] rfl hF
      · have hF := hF.2 h9
        refine k_ld hK 0 dX12_readLine_31 rfl rfl rfl rfl ?_
        refine k_si hK dX12_readLine_32 cs_13550 ?_
        refine k_ceq hK dX12_readLine_35 (tgt := 44) rfl (fun h10 => ?_) (fun h10 => ?_)
        · have hF := hF.1 h10
          exact k_sub hK [1, 0] rfl hF
        · have hF := hF.2 h10
          refine k_ld hK 0 dX12_readLine_38 rfl rfl rfl rfl ?_
          refine k_ldc hK dX12_readLine_39 lc_X12_180 ?_
          refine k_cne hK dX12_readLine_41 (tgt := 76) rfl (fun h11 => ?_) (fun h11 => ?_)
          · have hF := hF.1 h11
            exact k_sub hK [1, 0] rfl hF
          · have hF := hF.2 h11
            exact k_sub hK [1, 0] rfl hF
set_option maxHeartbeats 4000000 in
theorem g_X12_readLine_44 {d : Nat} {K : KT} {Q : Unit → HI → Prop} {I : HI} {J : HJ} {R : HR} {x1 : Int32} (hK : am_R M_X12_readLine (am_W d) none R (qC fv J R Q) K) (hs : Stat R)  (hF : ((¬ x1 = 257 → ((¬ x1 = 900000 → Wc fv d M_X12_readRow [.ref 80, .int (b2i false)] I J R (fun u3 I4 => K 172 [(0, .ref 80)] [] I4 J R)) ∧ (x1 = 900000 → Wc fv d M_X12_readRow [.ref 80, .int (b2i true)] I J R (fun u5 I6 => K 172 [(0, .ref 80)] [] I6 J R)))) ∧ (x1 = 257 → Wc fv d M_X12_readIn [.ref 80] I J R (fun u7 I8 => K 172 [(0, .ref 80)] [] I8 J R)))) : K 44 [(0, .ref 80), (1, .int x1)] [] I J R := by
  refine k_ld hK 1 dX12_readLine_44 rfl rfl rfl rfl ?_
  refine k_si hK dX12_readLine_45 cs_257 ?_
  refine k_cne hK dX12_readLine_48 (tgt := 58) rfl (fun h1 => ?_) (fun h1 => ?_)
  · have hF := hF.1 h1
    refine k_ld hK 0 dX12_readLine_58 rfl rfl rfl rfl ?_
    refine k_ld hK 1 dX12_readLine_59 rfl rfl rfl rfl ?_
    refine k_ldc hK dX12_readLine_60 lc_X12_180 ?_
    refine k_cne hK dX12_readLine_62 (tgt := 69) rfl (fun h2 => ?_) (fun h2 => ?_)
    · have hF := hF.1 h2
      refine k_ic hK dX12_readLine_69 ci_0 ?_
      refine k_cVc hK dX12_readLine_70 (Or.inl lm_X12_286) (As := [.int (b2i false)]) (S := []) rfl (sc_80 hs) (Nat.le_of_ble_eq_true rfl) (fit_0 rfl rfl) rfl hF (fun u3 I4 hF => ?_)
      show K _ _ [] _ _ _
      refine k_goto hK dX12_readLine_73 (tgt := 172) rfl ?_
      exact k_sub hK [0] rfl hF
    · have hF := hF.2 h2
      refine k_ic hK dX12_readLine_65 ci_1 ?_
      refine k_goto hK dX12_readLine_66 (tgt := 70) rfl ?_
      refine k_cVc hK dX12_readLine_70 (Or.inl lm_X12_286) (As := [.int (b2i true)]) (S := []) rfl (sc_80 hs) (Nat.le_of_ble_eq_true rfl) (fit_0 rfl rfl) rfl hF (fun u5 I6 hF => ?_)
      show K _ _ [] _ _ _
      refine k_goto hK dX12_readLine_73 (tgt := 172) rfl ?_
      exact k_sub hK [0] rfl hF
  · have hF := hF.2 h1
    refine k_ld hK 0 dX12_readLine_51 rfl rfl rfl rfl ?_
    refine k_cVc hK dX12_readLine_52 (Or.inl lm_X12_283) (As := []) (S := []) rfl (sc_80 hs) (Nat.le_of_ble_eq_true rfl) (fit_0 rfl rfl) rfl hF (fun u7 I8 hF => ?_)
    show K _ _ [] _ _ _
    refine k_goto hK dX12_readLine_55 (tgt := 172) rfl ?_
    exact k_sub hK [0] rfl hF
set_option maxHeartbeats 4000000 in
theorem g_X12_readLine_76 {d : Nat} {K : KT} {Q : Unit → HI → Prop} {I : HI} {J : HJ} {R : HR} {x1 : Int32} (hK : am_R M_X12_readLine (am_W d) none R (qC fv J R Q) K) (hs : Stat R)  (hF : ((¬ (I 80 9) = 0 → K 172 [(0, .ref 80)] [] I J R) ∧ ((I 80 9) = 0 → ((¬ x1 = 247552 → ((¬ x1 = 249 → ((¬ x1 = 107681 → ((¬ x1 = 4027 → ((¬ x1 = 11522 → Wc fv d M_X12_readAssignment [.ref 80] (up I 80 28 1) J R (fun u7 I8 => K 172 [(0, .ref 80)] [] I8 J R)) ∧ (x1 = 11522 → Wc fv d M_X12_goOn [.ref 80] (up I 80 28 1) J R (fun u9 I10 => Wc fv d M_X12_whole [.ref 80] I10 J R (fun u11 I12 => Wc fv d M_X12_writes [.ref 80, .int 9, .int 0, .int 0] I12 J R (fun u13 I14 => K 172 [(0, .ref 80)] [] I14 J R)))))) ∧ (x1 = 4027 → Wc fv d M_X12_readEnd [.ref 80] (up I 80 28 1) J R (fun u15 I16 => K 172 [(0, .ref 80)] [] I16 J R)))) ∧ (x1 = 107681 → Wc fv d M_X12_readElse [.ref 80] (up I 80 28 1) J R (fun u17 I18 => K 172 [(0, .ref 80)] [] I18 J R)))) ∧ (x1 = 249 → Wc fv d M_X12_readIf [.ref 80] (up I 80 28 1) J R (fun u19 I20 => K 172 [(0, .ref 80)] [] I20 J R)))) ∧ (x1 = 247552 → Wc fv d M_X12_readLoop [.ref 80] (up I 80 28 1) J R (fun u21 I22 => K 172 [(0, .ref 80)] [] I22 J R)))))) : K 76 [(0, .ref 80), (1, .int x1)] [] I J R := by
  refine k_ld hK 0 dX12_readLine_76 rfl rfl rfl rfl ?_
  refine k_gI hK dX12_readLine_77 lf_X12_183 rfl (sc_80 hs) rfl ?_
  refine k_ne hK dX12_readLine_80 (tgt := 172) rfl (fun h1 => ?_) (fun h1 => ?_)
  · have hF := hF.1 h1
    exact k_sub hK [0] rfl hF
  · have hF := hF.2 h1
    refine k_ld hK 0 dX12_readLine_83 rfl rfl rfl rfl ?_
    refine k_ic hK dX12_readLine_84 ci_1 ?_
    refine k_pI hK dX12_readLine_85 lf_X12_225 rfl rfl (by decide) (sc_80 hs) ?_
    refine k_ld hK 1 dX12_readLine_88 rfl rfl rfl rfl ?_
    refine k_ldc hK dX12_readLine_89 lc_X12_181 ?_
    refine k_cne hK dX12_readLine_91 (tgt := 101) rfl (fun h2 => ?_) (fun h2 => ?_)
    · have hF := hF.1 h2
      refine k_ld hK 1 dX12_readLine_101 rfl rfl rfl rfl ?_
      refine k_si hK dX12_readLine_102 cs_249 ?_
      refine k_cne hK dX12_readLine_105 (tgt := 115) rfl (fun h3 => ?_) (fun h3 => ?_)
      · have hF := hF.1 h3
        refine k_ld hK 1 dX12_readLine_115 rfl rfl rfl rfl ?_
        refine k_ldc hK dX12_readLine_116 lc_X12_182 ?_
        refine k_cne hK dX12_readLine_118 (tgt := 128) rfl (fun h4 => ?_) (fun h4 => ?_)
        · have hF := hF.1 h4
          refine k_ld hK 1 dX12_readLine_128 rfl rfl rfl rfl ?_
          refine k_si hK dX12_readLine_129 cs_4027 ?_
          refine k_cne hK dX12_readLine_132 (tgt := 142) rfl (fun h5 => ?_) (fun h5 => ?_)
          · have hF := hF.1 h5
            refine k_ld hK 1 dX12_readLine_142 rfl rfl rfl rfl ?_
            refine k_si hK dX12_readLine_143 cs_11522 ?_
            refine k_cne hK dX12_readLine_146 (tgt := 168) rfl (fun h6 => ?_) (fun h6 => ?_)
            · have hF := hF.1 h6
              refine k_ld hK 0 dX12_readLine_168 rfl rfl rfl rfl ?_
              refine k_cVc hK dX12_readLine_169 (Or.inl lm_X12_302) (As := []) (S := []) rfl (sc_80 hs) (Nat.le_of_ble_eq_true rfl) (fit_0 rfl rfl) rfl hF (fun u7 I8 hF => ?_)
              show K _ _ [] _ _ _
              exact k_sub hK [0] rfl hF
            · have hF := hF.2 h6
              refine k_ld hK 0 dX12_readLine_149 rfl rfl rfl rfl ?_
              refine k_cVc hK dX12_readLine_150 (Or.inl lm_X12_196) (As := []) (S := []) rfl (sc_80 hs) (Nat.le_of_ble_eq_true rfl) (fit_0 rfl rfl) rfl hF (fun u9 I10 hF => ?_)
              show K _ _ [] _ _ _
              refine k_ld hK 0 dX12_readLine_153 rfl rfl rfl rfl ?_
              refine k_cVc hK dX12_readLine_154 (Or.inl lm_X12_273) (As := []) (S := []) rfl (sc_80 hs) (Nat.le_of_ble_eq_true rfl) (fit_0 rfl rfl) rfl hF (fun u11 I12 hF => ?_)
              show K _ _ [] _ _ _
              refine k_ld hK 0 dX12_readLine_157 rfl rfl rfl rfl ?_
              refine k_bi hK dX12_readLine_158 cb_9 ?_
              refine k_ic hK dX12_readLine_160 ci_0 ?_
              refine k_ic hK dX12_readLine_161 ci_0 ?_
              refine k_cVc hK dX12_readLine_162 (Or.inl lm_X12_255) (As := [.int 9, .int 0, .int 0]) (S := []) rfl (sc_80 hs) (Nat.le_of_ble_eq_true rfl) (fit_0 rfl rfl) rfl hF (fun u13 I14 hF => ?_)
              show K _ _ [] _ _ _
              refine k_goto hK dX12_readLine_165 (tgt := 172) rfl ?_
              exact k_sub hK [0] rfl hF
          · have hF := hF.2 h5
            refine k_ld hK 0 dX12_readLine_135 rfl rfl rfl rfl ?_
            refine k_cVc hK dX12_readLine_136 (Or.inl lm_X12_299) (As := []) (S := []) rfl (sc_80 hs) (Nat.le_of_ble_eq_true rfl) (fit_0 rfl rfl) rfl hF (fun u15 I16 hF => ?_)
            show K _ _ [] _ _ _
            refine k_goto hK dX12_readLine_139 (tgt := 172) rfl ?_
            exact k_sub hK [0] rfl hF
        · have hF := hF.2 h4
          refine k_ld hK 0 dX12_readLine_121 rfl rfl rfl rfl ?_
          refine k_cVc hK dX12_readLine_122 (Or.inl lm_X12_296) (As := []) (S := []) rfl (sc_80 hs) (Nat.le_of_ble_eq_true rfl) (fit_0 rfl rfl) rfl hF (fun u17 I18 hF => ?_)
          show K _ _ [] _ _ _
          refine k_goto hK dX12_readLine_125 (tgt := 172) rfl ?_
          exact k_sub hK [0] rfl hF
      · have hF := hF.2 h3
        refine k_ld hK 0 dX12_readLine_108 rfl rfl rfl rfl ?_
        refine k_cVc hK dX12_readLine_109 (Or.inl lm_X12_293) (As := []) (S := []) rfl (sc_80 hs) (Nat.le_of_ble_eq_true rfl) (fit_0 rfl rfl) rfl hF (fun u19 I20 hF => ?_)
        show K _ _ [] _ _ _
        refine k_goto hK dX12_readLine_112 (tgt := 172) rfl ?_
        exact k_sub hK [0] rfl hF
    · have hF := hF.2 h2
      refine k_ld hK 0 dX12_readLine_94 rfl rfl rfl rfl ?_
      refine k_cVc hK dX12_readLine_95 (Or.inl lm_X12_290) (As := []) (S := []) rfl (sc_80 hs) (Nat.le_of_ble_eq_true rfl) (fit_0 rfl rfl) rfl hF (fun u21 I22 hF => ?_)
      show K _ _ [] _ _ _
      refine k_goto hK dX12_readLine_98 (tgt := 172) rfl ?_
      exact k_sub hK [0] rfl hF
set_option maxHeartbeats 4000000 in
theorem g_X12_readLine_172 {d : Nat} {K : KT} {Q : Unit → HI → Prop} {I : HI} {J : HJ} {R : HR}  (hK : am_R M_X12_readLine (am_W d) none R (qC fv J R Q) K) (hs : Stat R)  (hF : ((¬ (I 80 9) = 0 → Wc fv d M_X12_goOn [.ref 80] I J R (fun u2 I3 => Q () (up I3 80 3 ((I3 80 3) + 1)))) ∧ ((I 80 9) = 0 → Wp fb d M_X12_isSign [.ref 80, .int 59] I J R (fun b4 => ((b4 = true → Wc fv d M_X12_goOn [.ref 80] I J R (fun u6 I7 => Q () (up I7 80 3 ((I7 80 3) + 1)))) ∧ (b4 = false → Wc fv d M_X12_wrong [.ref 80, .int 1] I J R (fun u8 I9 => Wc fv d M_X12_goOn [.ref 80] I9 J R (fun u10 I11 => Q () (up I11 80 3 ((I11 80 3) + 1)))))))))) : K 172 [(0, .ref 80)] [] I J R := by
  refine k_ld hK 0 dX12_readLine_172 rfl rfl rfl rfl ?_
  refine k_gI hK dX12_readLine_173 lf_X12_183 rfl (sc_80 hs) rfl ?_
  refine k_ne hK dX12_readLine_176 (tgt := 193) rfl (fun h1 => ?_) (fun h1 => ?_)
  · have hF := hF.1 h1
    refine k_ld hK 0 dX12_readLine_193 rfl rfl rfl rfl ?_
    refine k_cVc hK dX12_readLine_194 (Or.inl lm_X12_196) (As := []) (S := []) rfl (sc_80 hs) (Nat.le_of_ble_eq_true rfl) (fit_0 rfl rfl) rfl hF (fun u2 I3 hF => ?_)
    show K _ _ [] _ _ _
    refine k_ld hK 0 dX12_readLine_197 rfl rfl rfl rfl ?_
    refine k_op hK dX12_readLine_198 rfl rfl ?_
    refine k_gI hK dX12_readLine_199 lf_X12_305 rfl (sc_80 hs) rfl ?_
    refine k_ic hK dX12_readLine_202 ci_1 ?_
    refine k_op hK dX12_readLine_203 rfl rfl ?_
    refine k_pI hK dX12_readLine_204 lf_X12_305 rfl rfl rfl (sc_80 hs) ?_
    exact k_vret hK dX12_readLine_207 rfl (done_0 rfl rfl) (qC_i hF)
  · have hF := hF.2 h1
    refine k_ld hK 0 dX12_readLine_179 rfl rfl rfl rfl ?_
    refine k_bi hK dX12_readLine_180 cb_59 ?_
    refine k_cVp hK dX12_readLine_182 (Or.inl lm_X12_199) (As := [.int 59]) (S := []) rfl (sc_80 hs) (Nat.le_of_ble_eq_true rfl) (fit_0 rfl rfl) rfl hF (fun b4 hF => ?_)
    show K _ _ [.int (b2i b4)] _ _ _
    refine k_bne hK dX12_readLine_185 (tgt := 193) rfl (fun h5 => ?_) (fun h5 => ?_)
    · have hF := hF.1 h5
      refine k_ld hK 0 dX12_readLine_193 rfl rfl rfl rfl ?_
      refine k_cVc hK dX12_readLine_194 (Or.inl lm_X12_196) (As := []) (S := []) rfl (sc_80 hs) (Nat.le_of_ble_eq_true rfl) (fit_0 rfl rfl) rfl hF (fun u6 I7 hF => ?_)
      show K _ _ [] _ _ _
      refine k_ld hK 0 dX12_readLine_197 rfl rfl rfl rfl ?_
      refine k_op hK dX12_readLine_198 rfl rfl ?_
      refine k_gI hK dX12_readLine_199 lf_X12_305 rfl (sc_80 hs) rfl ?_
      refine k_ic hK dX12_readLine_202 ci_1 ?_
      refine k_op hK dX12_readLine_203 rfl rfl ?_
      refine k_pI hK dX12_readLine_204 lf_X12_305 rfl rfl rfl (sc_80 hs) ?_
      exact k_vret hK dX12_readLine_207 rfl (done_0 rfl rfl) (qC_i hF)
    · have hF := hF.2 h5
      refine k_ld hK 0 dX12_readLine_188 rfl rfl rfl rfl ?_
      refine k_ic hK dX12_readLine_189 ci_1 ?_
      refine k_cVc hK dX12_readLine_190 (Or.inl lm_X12_192) (As := [.int 1]) (S := []) rfl (sc_80 hs) (Nat.le_of_ble_eq_true rfl) (fit_0 rfl rfl) rfl hF (fun u8 I9 hF => ?_)
      show K _ _ [] _ _ _
      refine k_ld hK 0 dX12_readLine_193 rfl rfl rfl rfl ?_
      refine k_cVc hK dX12_readLine_194 (Or.inl lm_X12_196) (As := []) (S := []) rfl (sc_80 hs) (Nat.le_of_ble_eq_true rfl) (fit_0 rfl rfl) rfl hF (fun u10 I11 hF => ?_)
      show K _ _ [] _ _ _
      refine k_ld hK 0 dX12_readLine_197 rfl rfl rfl rfl ?_
      refine k_op hK dX12_readLine_198 rfl rfl ?_
      refine k_gI hK dX12_readLine_199 lf_X12_305 rfl (sc_80 hs) rfl ?_
      refine k_ic hK dX12_readLine_202 ci_1 ?_
      refine k_op hK dX12_readLine_203 rfl rfl ?_
      refine k_pI hK dX12_readLine_204 lf_X12_305 rfl rfl rfl (sc_80 hs) ?_
      exact k_vret hK dX12_readLine_207 rfl (done_0 rfl rfl) (qC_i hF)
set_option maxHeartbeats 4000000 in
theorem g_X12_freshText_0 {d : Nat} {K : KT} {Q : Unit → HI → Prop} {I : HI} {J : HJ} {R : HR}  (hK : am_R M_X12_freshText (am_W d) none R (qC fv J R Q) K) (hs : Stat R)  (hF : Q () (up (up (up (up (up (up (up (up I 80 3 0) 80 14 0) 80 15 0) 80 19 0) 80 20 0) 80 24 0) 80 27 0) 80 28 0)) : K 0 [(0, .ref 80)] [] I J R := by
  refine k_ld hK 0 dX12_freshText_0 rfl rfl rfl rfl ?_
  refine k_ic hK dX12_freshText_1 ci_0 ?_
  refine k_pI hK dX12_freshText_2 lf_X12_305 rfl rfl rfl (sc_80 hs) ?_
  refine k_ld hK 0 dX12_freshText_5 rfl rfl rfl rfl ?_
  refine k_ic hK dX12_freshText_6 ci_0 ?_
  refine k_pI hK dX12_freshText_7 lf_X12_205 rfl rfl rfl (sc_80 hs) ?_
  refine k_ld hK 0 dX12_freshText_10 rfl rfl rfl rfl ?_
  refine k_ic hK dX12_freshText_11 ci_0 ?_
  refine k_pI hK dX12_freshText_12 lf_X12_229 rfl rfl rfl (sc_80 hs) ?_
  refine k_ld hK 0 dX12_freshText_15 rfl rfl rfl rfl ?_
  refine k_ic hK dX12_freshText_16 ci_0 ?_
  refine k_pI hK dX12_freshText_17 lf_X12_208 rfl rfl rfl (sc_80 hs) ?_
  refine k_ld hK 0 dX12_freshText_20 rfl rfl rfl rfl ?_
  refine k_ic hK dX12_freshText_21 ci_0 ?_
  refine k_pI hK dX12_freshText_22 lf_X12_239 rfl rfl rfl (sc_80 hs) ?_
  refine k_ld hK 0 dX12_freshText_25 rfl rfl rfl rfl ?_
  refine k_ic hK dX12_freshText_26 ci_0 ?_
  refine k_pI hK dX12_freshText_27 lf_X12_202 rfl rfl rfl (sc_80 hs) ?_
  refine k_ld hK 0 dX12_freshText_30 rfl rfl rfl rfl ?_
  refine k_ic hK dX12_freshText_31 ci_0 ?_
  refine k_pI hK dX12_freshText_32 lf_X12_276 rfl rfl rfl (sc_80 hs) ?_
  refine k_ld hK 0 dX12_freshText_35 rfl rfl rfl rfl ?_
  refine k_ic hK dX12_freshText_36 ci_0 ?_
  refine k_pI hK dX12_freshText_37 lf_X12_225 rfl rfl (by decide) (sc_80 hs) ?_
  exact k_vret hK dX12_freshText_40 rfl (done_0 rfl rfl) (qC_i hF)
theorem e_X12_freshText {d : Nat} {Q : Unit → HI → Prop} {I : HI} {J : HJ} {R : HR}  (hs : Stat R)  (hF : Q () (up (up (up (up (up (up (up (up I 80 3 0) 80 14 0) 80 15 0) 80 19 0) 80 20 0) 80 24 0) 80 27 0) 80 28 0)) : Wc fv (d + 1) M_X12_freshText [.ref 80] I J R Q := ⟨Nat.le_of_ble_eq_true rfl, fun K hK => g_X12_freshText_0 hK hs hF⟩
set_option maxHeartbeats 4000000 in
theorem g_X12_readText_0 {d : Nat} {K : KT} {Q : Unit → HI → Prop} {I : HI} {J : HJ} {R : HR} {x1 : Int32} (hK : am_R M_X12_readText (am_W d) none R (qC fv J R Q) K) (hs : Stat R)  (hF : Wc fv d M_X12_freshText [.ref 80] (up (up (up I 80 4 x1) 80 5 0) 80 9 0) J R (fun u1 I2 => Wc fv d M_X12_token [.ref 80] I2 J R (fun u3 I4 => K 23 [(0, .ref 80)] [] I4 J R))) : K 0 [(0, .ref 80), (1, .int x1)] [] I J R := by
  refine k_ld hK 0 dX12_readText_0 rfl rfl rfl rfl ?_
  refine k_ld hK 1 dX12_readText_1 rfl rfl rfl rfl ?_
  refine k_pI hK dX12_readText_2 lf_X12_151 rfl rfl rfl (sc_80 hs) ?_
  refine k_ld hK 0 dX12_readText_5 rfl rfl rfl rfl ?_
  refine k_ic hK dX12_readText_6 ci_0 ?_
  refine k_pI hK dX12_readText_7 lf_X12_148 rfl rfl rfl (sc_80 hs) ?_
  refine k_ld hK 0 dX12_readText_10 rfl rfl rfl rfl ?_
  refine k_ic hK dX12_readText_11 ci_0 ?_
  refine k_pI hK dX12_readText_12 lf_X12_183 rfl rfl rfl (sc_80 hs) ?_
  refine k_ld hK 0 dX12_readText_15 rfl rfl rfl rfl ?_
  refine k_cVc hK dX12_readText_16 (Or.inl lm_X12_136) (As := []) (S := []) rfl (sc_80 hs) (Nat.le_of_ble_eq_true rfl) (fit_0 rfl rfl) rfl hF (fun u1 I2 hF => ?_)
  show K _ _ [] _ _ _
  refine k_ld hK 0 dX12_readText_19 rfl rfl rfl rfl ?_
  refine k_cVc hK dX12_readText_20 (Or.inl lm_X12_189) (As := []) (S := []) rfl (sc_80 hs) (Nat.le_of_ble_eq_true rfl) (fit_0 rfl rfl) rfl hF (fun u3 I4 hF => ?_)
  show K _ _ [] _ _ _
  exact k_sub hK [0] rfl hF
set_option maxHeartbeats 4000000 in
theorem g_X12_readText_23 {d : Nat} {K : KT} {Q : Unit → HI → Prop} {I : HI} {J : HJ} {R : HR}  (hK : am_R M_X12_readText (am_W d) none R (qC fv J R Q) K) (hs : Stat R)  (hF : ((¬ (I 80 9) = 0 → (((I 80 27) ≤ 0 → Q () I) ∧ (¬ (I 80 27) ≤ 0 → Wc fv d M_X12_wrong [.ref 80, .int 1] I J R (fun u3 I4 => Q () I4)))) ∧ ((I 80 9) = 0 → (((I 80 7) = 3 → (((I 80 27) ≤ 0 → Q () I) ∧ (¬ (I 80 27) ≤ 0 → Wc fv d M_X12_wrong [.ref 80, .int 1] I J R (fun u7 I8 => Q () I8)))) ∧ (¬ (I 80 7) = 3 → Wc fv d M_X12_readLine [.ref 80] I J R (fun u9 I10 => K 23 [(0, .ref 80)] [] I10 J R)))))) : K 23 [(0, .ref 80)] [] I J R := by
  refine k_ld hK 0 dX12_readText_23 rfl rfl rfl rfl ?_
  refine k_gI hK dX12_readText_24 lf_X12_183 rfl (sc_80 hs) rfl ?_
  refine k_ne hK dX12_readText_27 (tgt := 45) rfl (fun h1 => ?_) (fun h1 => ?_)
  · have hF := hF.1 h1
    refine k_ld hK 0 dX12_readText_45 rfl rfl rfl rfl ?_
    refine k_gI hK dX12_readText_46 lf_X12_276 rfl (sc_80 hs) rfl ?_
    refine k_le hK dX12_readText_49 (tgt := 57) rfl (fun h2 => ?_) (fun h2 => ?_)
    · have hF := hF.1 h2
      exact k_vret hK dX12_readText_57 rfl (done_0 rfl rfl) (qC_i hF)
    · have hF := hF.2 h2
      refine k_ld hK 0 dX12_readText_52 rfl rfl rfl rfl ?_
      refine k_ic hK dX12_readText_53 ci_1 ?_
      refine k_cVc hK dX12_readText_54 (Or.inl lm_X12_192) (As := [.int 1]) (S := []) rfl (sc_80 hs) (Nat.le_of_ble_eq_true rfl) (fit_0 rfl rfl) rfl hF (fun u3 I4 hF => ?_)
      show K _ _ [] _ _ _
      exact k_vret hK dX12_readText_57 rfl (done_0 rfl rfl) (qC_i hF)
  · have hF := hF.2 h1
    refine k_ld hK 0 dX12_readText_30 rfl rfl rfl rfl ?_
    refine k_gI hK dX12_readText_31 lf_X12_161 rfl (sc_80 hs) rfl ?_
    refine k_ic hK dX12_readText_34 ci_3 ?_
    refine k_ceq hK dX12_readText_35 (tgt := 45) rfl (fun h5 => ?_) (fun h5 => ?_)
    · have hF := hF.1 h5
      refine k_ld hK 0 dX12_readText_45 rfl rfl rfl rfl ?_
      refine k_gI hK dX12_readText_46 lf_X12_276 rfl (sc_80 hs) rfl ?_
      refine k_le hK dX12_readText_49 (tgt := 57) rfl (fun h6 => ?_) (fun h6 => ?_)
      · have hF := hF.1 h6
        exact k_vret hK dX12_readText_57 rfl (done_0 rfl rfl) (qC_i hF)
      · have hF := hF.2 h6
        refine k_ld hK 0 dX12_readText_52 rfl rfl rfl rfl ?_
        refine k_ic hK dX12_readText_53 ci_1 ?_
        refine k_cVc hK dX12_readText_54 (Or.inl lm_X12_192) (As := [.int 1]) (S := []) rfl (sc_80 hs) (Nat.le_of_ble_eq_true rfl) (fit_0 rfl rfl) rfl hF (fun u7 I8 hF => ?_)
        show K _ _ [] _ _ _
        exact k_vret hK dX12_readText_57 rfl (done_0 rfl rfl) (qC_i hF)
    · have hF := hF.2 h5
      refine k_ld hK 0 dX12_readText_38 rfl rfl rfl rfl ?_
      refine k_cVc hK dX12_readText_39 (Or.inl lm_X12_308) (As := []) (S := []) rfl (sc_80 hs) (Nat.le_of_ble_eq_true rfl) (fit_0 rfl rfl) rfl hF (fun u9 I10 hF => ?_)
      show K _ _ [] _ _ _
      refine k_goto hK dX12_readText_42 (tgt := 23) rfl ?_
      exact k_sub hK [0] rfl hF
set_option maxHeartbeats 4000000 in
theorem g_X12_begins_0 {d : Nat} {K : KT} {Q : Unit → HI → HJ → Prop} {I : HI} {J : HJ} {R : HR}  (hK : am_R M_X12_begins (am_W d) none R (qD fv R Q) K) (hs : Stat R)  (hF : K 50 [(0, .ref 80), (1, .int 0)] [] (up (up (up (up (up (up I 80 30 (I 80 3)) 80 31 (I 80 15)) 80 32 (I 80 14)) 80 33 (I 80 19)) 80 34 (I 80 20)) 80 35 (I 80 24)) J R) : K 0 [(0, .ref 80)] [] I J R := by
  refine k_ld hK 0 dX12_begins_0 rfl rfl rfl rfl ?_
  refine k_ld hK 0 dX12_begins_1 rfl rfl rfl rfl ?_
  refine k_gI hK dX12_begins_2 lf_X12_305 rfl (sc_80 hs) rfl ?_
  refine k_pI hK dX12_begins_5 lf_X12_311 rfl rfl rfl (sc_80 hs) ?_
  refine k_ld hK 0 dX12_begins_8 rfl rfl rfl rfl ?_
  refine k_ld hK 0 dX12_begins_9 rfl rfl rfl rfl ?_
  refine k_gI hK dX12_begins_10 lf_X12_229 rfl (sc_80 hs) ((up_nk (by decide)).trans rfl) ?_
  refine k_pI hK dX12_begins_13 lf_X12_314 rfl rfl rfl (sc_80 hs) ?_
  refine k_ld hK 0 dX12_begins_16 rfl rfl rfl rfl ?_
  refine k_ld hK 0 dX12_begins_17 rfl rfl rfl rfl ?_
  refine k_gI hK dX12_begins_18 lf_X12_205 rfl (sc_80 hs) ((up_nk (by decide)).trans ((up_nk (by decide)).trans rfl)) ?_
  refine k_pI hK dX12_begins_21 lf_X12_317 rfl rfl rfl (sc_80 hs) ?_
  refine k_ld hK 0 dX12_begins_24 rfl rfl rfl rfl ?_
  refine k_ld hK 0 dX12_begins_25 rfl rfl rfl rfl ?_
  refine k_gI hK dX12_begins_26 lf_X12_208 rfl (sc_80 hs) ((up_nk (by decide)).trans ((up_nk (by decide)).trans ((up_nk (by decide)).trans rfl))) ?_
  refine k_pI hK dX12_begins_29 lf_X12_320 rfl rfl rfl (sc_80 hs) ?_
  refine k_ld hK 0 dX12_begins_32 rfl rfl rfl rfl ?_
  refine k_ld hK 0 dX12_begins_33 rfl rfl rfl rfl ?_
  refine k_gI hK dX12_begins_34 lf_X12_239 rfl (sc_80 hs) ((up_nk (by decide)).trans ((up_nk (by decide)).trans ((up_nk (by decide)).trans ((up_nk (by decide)).trans rfl)))) ?_
  refine k_pI hK dX12_begins_37 lf_X12_323 rfl rfl rfl (sc_80 hs) ?_
  refine k_ld hK 0 dX12_begins_40 rfl rfl rfl rfl ?_
  refine k_ld hK 0 dX12_begins_41 rfl rfl rfl rfl ?_
  refine k_gI hK dX12_begins_42 lf_X12_202 rfl (sc_80 hs) ((up_nk (by decide)).trans ((up_nk (by decide)).trans ((up_nk (by decide)).trans ((up_nk (by decide)).trans ((up_nk (by decide)).trans rfl))))) ?_
  refine k_pI hK dX12_begins_45 lf_X12_326 rfl rfl rfl (sc_80 hs) ?_
  refine k_ic hK dX12_begins_48 ci_0 ?_
  refine k_st hK dX12_begins_49 rfl rfl rfl (Nat.le_of_ble_eq_true rfl) rfl ?_
  exact k_sub hK [1, 0] rfl hF
set_option maxHeartbeats 4000000 in
theorem g_X12_begins_50 {d : Nat} {K : KT} {Q : Unit → HI → HJ → Prop} {I : HI} {J : HJ} {R : HR} {x1 : Int32} (hK : am_R M_X12_begins (am_W d) none R (qD fv R Q) K) (hs : Stat R)  (hF : (((I 80 24) ≤ x1 → K 114 [(0, .ref 80), (1, .int 0)] [] I J R) ∧ (¬ (I 80 24) ≤ x1 → (∃ n2 : Nat, (1000 + x1) = nI n2 ∧ n2 < 2000 ∧ (∃ n5 : Nat, x1 = nI n5 ∧ n5 < 2000 ∧ K 50 [(0, .ref 80), (1, .int (x1 + 1))] [] (up (up (up I 86 n5 (I 86 n2)) 87 n5 (I 87 n2)) 88 n5 (I 88 n2)) J R))))) : K 50 [(0, .ref 80), (1, .int x1)] [] I J R := by
  refine k_ld hK 1 dX12_begins_50 rfl rfl rfl rfl ?_
  refine k_ld hK 0 dX12_begins_51 rfl rfl rfl rfl ?_
  refine k_gI hK dX12_begins_52 lf_X12_202 rfl (sc_80 hs) rfl ?_
  refine k_cge hK dX12_begins_55 (tgt := 112) rfl (fun h1 => ?_) (fun h1 => ?_)
  · have hF := hF.1 h1
    refine k_ic hK dX12_begins_112 ci_0 ?_
    refine k_st hK dX12_begins_113 rfl rfl rfl (Nat.le_of_ble_eq_true rfl) rfl ?_
    exact k_sub hK [1, 0] rfl hF
  · have hF := hF.2 h1
    refine k_ld hK 0 dX12_begins_58 rfl rfl rfl rfl ?_
    refine k_gR hK dX12_begins_59 lf_X12_29 rfl (sc_80 hs) (sf_80_21 hs) ?_
    refine k_ld hK 1 dX12_begins_62 rfl rfl rfl rfl ?_
    refine k_ld hK 0 dX12_begins_63 rfl rfl rfl rfl ?_
    refine k_gR hK dX12_begins_64 lf_X12_29 rfl (sc_80 hs) (sf_80_21 hs) ?_
    refine k_si hK dX12_begins_67 cs_1000 ?_
    refine k_ld hK 1 dX12_begins_70 rfl rfl rfl rfl ?_
    refine k_op hK dX12_begins_71 rfl rfl ?_
    obtain ⟨n2, i3, j4, hF⟩ := hF
    refine k_iald hK dX12_begins_72 (sc_86 hs) sn_86 (by decide) i3 j4 rfl ?_
    obtain ⟨n5, i6, j7, hF⟩ := hF
    refine k_iast hK dX12_begins_73 (sc_86 hs) sn_86 (by decide) i6 j7 ?_
    refine k_ld hK 0 dX12_begins_74 rfl rfl rfl rfl ?_
    refine k_gR hK dX12_begins_75 lf_X12_32 rfl (sc_80 hs) (sf_80_22 hs) ?_
    refine k_ld hK 1 dX12_begins_78 rfl rfl rfl rfl ?_
    refine k_ld hK 0 dX12_begins_79 rfl rfl rfl rfl ?_
    refine k_gR hK dX12_begins_80 lf_X12_32 rfl (sc_80 hs) (sf_80_22 hs) ?_
    refine k_si hK dX12_begins_83 cs_1000 ?_
    refine k_ld hK 1 dX12_begins_86 rfl rfl rfl rfl ?_
    refine k_op hK dX12_begins_87 rfl rfl ?_
    refine k_iald hK dX12_begins_88 (sc_87 hs) sn_87 (by decide) i3 j4 ((up_na (by decide)).trans rfl) ?_
    refine k_iast hK dX12_begins_89 (sc_87 hs) sn_87 (by decide) i6 j7 ?_
    refine k_ld hK 0 dX12_begins_90 rfl rfl rfl rfl ?_
    refine k_gR hK dX12_begins_91 lf_X12_35 rfl (sc_80 hs) (sf_80_23 hs) ?_
    refine k_ld hK 1 dX12_begins_94 rfl rfl rfl rfl ?_
    refine k_ld hK 0 dX12_begins_95 rfl rfl rfl rfl ?_
    refine k_gR hK dX12_begins_96 lf_X12_35 rfl (sc_80 hs) (sf_80_23 hs) ?_
    refine k_si hK dX12_begins_99 cs_1000 ?_
    refine k_ld hK 1 dX12_begins_102 rfl rfl rfl rfl ?_
    refine k_op hK dX12_begins_103 rfl rfl ?_
    refine k_iald hK dX12_begins_104 (sc_88 hs) sn_88 (by decide) i3 j4 ((up_na (by decide)).trans ((up_na (by decide)).trans rfl)) ?_
    refine k_iast hK dX12_begins_105 (sc_88 hs) sn_88 (by decide) i6 j7 ?_
    refine k_iinc hK 1 dX12_begins_106 (v := (x1 + 1)) rfl (Nat.le_of_ble_eq_true rfl) (congrArg (fun q => x1 + q) ci_1) rfl ?_
    refine k_goto hK dX12_begins_109 (tgt := 50) rfl ?_
    exact k_sub hK [1, 0] rfl hF
set_option maxHeartbeats 4000000 in
theorem g_X12_begins_114 {d : Nat} {K : KT} {Q : Unit → HI → HJ → Prop} {I : HI} {J : HJ} {R : HR} {x1 : Int32} (hK : am_R M_X12_begins (am_W d) none R (qD fv R Q) K) (hs : Stat R)  (hF : (((I 80 19) ≤ x1 → K 160 [(0, .ref 80), (1, .int 0)] [] I J R) ∧ (¬ (I 80 19) ≤ x1 → (∃ n2 : Nat, (6 + x1) = nI n2 ∧ n2 < 12 ∧ (∃ n5 : Nat, x1 = nI n5 ∧ n5 < 12 ∧ K 114 [(0, .ref 80), (1, .int (x1 + 1))] [] (up (up I 84 n5 (I 84 n2)) 85 n5 (I 85 n2)) J R))))) : K 114 [(0, .ref 80), (1, .int x1)] [] I J R := by
  refine k_ld hK 1 dX12_begins_114 rfl rfl rfl rfl ?_
  refine k_ld hK 0 dX12_begins_115 rfl rfl rfl rfl ?_
  refine k_gI hK dX12_begins_116 lf_X12_208 rfl (sc_80 hs) rfl ?_
  refine k_cge hK dX12_begins_119 (tgt := 158) rfl (fun h1 => ?_) (fun h1 => ?_)
  · have hF := hF.1 h1
    refine k_ic hK dX12_begins_158 ci_0 ?_
    refine k_st hK dX12_begins_159 rfl rfl rfl (Nat.le_of_ble_eq_true rfl) rfl ?_
    exact k_sub hK [1, 0] rfl hF
  · have hF := hF.2 h1
    refine k_ld hK 0 dX12_begins_122 rfl rfl rfl rfl ?_
    refine k_gR hK dX12_begins_123 lf_X12_23 rfl (sc_80 hs) (sf_80_17 hs) ?_
    refine k_ld hK 1 dX12_begins_126 rfl rfl rfl rfl ?_
    refine k_ld hK 0 dX12_begins_127 rfl rfl rfl rfl ?_
    refine k_gR hK dX12_begins_128 lf_X12_23 rfl (sc_80 hs) (sf_80_17 hs) ?_
    refine k_bi hK dX12_begins_131 cb_6 ?_
    refine k_ld hK 1 dX12_begins_133 rfl rfl rfl rfl ?_
    refine k_op hK dX12_begins_134 rfl rfl ?_
    obtain ⟨n2, i3, j4, hF⟩ := hF
    refine k_iald hK dX12_begins_135 (sc_84 hs) sn_84 (by decide) i3 j4 rfl ?_
    obtain ⟨n5, i6, j7, hF⟩ := hF
    refine k_iast hK dX12_begins_136 (sc_84 hs) sn_84 (by decide) i6 j7 ?_
    refine k_ld hK 0 dX12_begins_137 rfl rfl rfl rfl ?_
    refine k_gR hK dX12_begins_138 lf_X12_26 rfl (sc_80 hs) (sf_80_18 hs) ?_
    refine k_ld hK 1 dX12_begins_141 rfl rfl rfl rfl ?_
    refine k_ld hK 0 dX12_begins_142 rfl rfl rfl rfl ?_
    refine k_gR hK dX12_begins_143 lf_X12_26 rfl (sc_80 hs) (sf_80_18 hs) ?_
    refine k_bi hK dX12_begins_146 cb_6 ?_
    refine k_ld hK 1 dX12_begins_148 rfl rfl rfl rfl ?_
    refine k_op hK dX12_begins_149 rfl rfl ?_
    refine k_iald hK dX12_begins_150 (sc_85 hs) sn_85 (by decide) i3 j4 ((up_na (by decide)).trans rfl) ?_
    refine k_iast hK dX12_begins_151 (sc_85 hs) sn_85 (by decide) i6 j7 ?_
    refine k_iinc hK 1 dX12_begins_152 (v := (x1 + 1)) rfl (Nat.le_of_ble_eq_true rfl) (congrArg (fun q => x1 + q) ci_1) rfl ?_
    refine k_goto hK dX12_begins_155 (tgt := 114) rfl ?_
    exact k_sub hK [1, 0] rfl hF
set_option maxHeartbeats 4000000 in
theorem g_X12_begins_160 {d : Nat} {K : KT} {Q : Unit → HI → HJ → Prop} {I : HI} {J : HJ} {R : HR} {x1 : Int32} (hK : am_R M_X12_begins (am_W d) none R (qD fv R Q) K) (hs : Stat R)  (hF : ((4 ≤ x1 → Wd fv d M_X12_runs [.ref 80] I J R (fun u2 I3 J4 => Q () I3 J4)) ∧ (¬ 4 ≤ x1 → (∃ n5 : Nat, x1 = nI n5 ∧ n5 < 4 ∧ K 160 [(0, .ref 80), (1, .int (x1 + 1))] [] I (up J 91 n5 (0 : Int64)) R)))) : K 160 [(0, .ref 80), (1, .int x1)] [] I J R := by
  refine k_ld hK 1 dX12_begins_160 rfl rfl rfl rfl ?_
  refine k_ic hK dX12_begins_161 ci_4 ?_
  refine k_cge hK dX12_begins_162 (tgt := 178) rfl (fun h1 => ?_) (fun h1 => ?_)
  · have hF := hF.1 h1
    refine k_ld hK 0 dX12_begins_178 rfl rfl rfl rfl ?_
    refine k_cVd hK dX12_begins_179 (Or.inl lm_X12_329) (As := []) (S := []) rfl (sc_80 hs) (Nat.le_of_ble_eq_true rfl) (fit_0 rfl rfl) rfl hF (fun u2 I3 J4 hF => ?_)
    show K _ _ [] _ _ _
    exact k_vret hK dX12_begins_182 rfl (done_0 rfl rfl) (qD_i hF)
  · have hF := hF.2 h1
    refine k_ld hK 0 dX12_begins_165 rfl rfl rfl rfl ?_
    refine k_gR hK dX12_begins_166 lf_X12_44 rfl (sc_80 hs) (sf_80_36 hs) ?_
    refine k_ld hK 1 dX12_begins_169 rfl rfl rfl rfl ?_
    refine k_lc hK dX12_begins_170 cl_0 ?_
    obtain ⟨n5, i6, j7, hF⟩ := hF
    refine k_last hK dX12_begins_171 (sc_91 hs) sn_91 (by decide) i6 j7 ?_
    refine k_iinc hK 1 dX12_begins_172 (v := (x1 + 1)) rfl (Nat.le_of_ble_eq_true rfl) (congrArg (fun q => x1 + q) ci_1) rfl ?_
    refine k_goto hK dX12_begins_175 (tgt := 160) rfl ?_
    exact k_sub hK [1, 0] rfl hF
set_option maxHeartbeats 4000000 in
theorem g_X12_text_0 {d : Nat} {K : KT} {Q : Int32 → HI → HJ → Prop} {I : HI} {J : HJ} {R : HR} {x1 : Int32} (hK : am_R M_X12_text (am_W d) none R (qD fi R Q) K) (hs : Stat R)  (hF : ((x1 < 0 → Q (-2) (up I 80 0 0) J) ∧ (¬ x1 < 0 → ((x1 ≤ (I 80 2) → Wc fv d M_X12_readText [.ref 80, .int x1] (up I 80 0 0) J R (fun u3 I4 => ((¬ (I4 80 9) = 0 → (((I4 80 9) = 0 → Wd fv d M_X12_begins [.ref 80] (up (up (up I4 80 2 0) 80 11 (I4 80 9)) 80 12 (I4 80 10)) J R (fun u7 I8 J9 => Q (I8 80 30) I8 J9)) ∧ (¬ (I4 80 9) = 0 → Q (-1) (up (up (up I4 80 2 0) 80 11 (I4 80 9)) 80 12 (I4 80 10)) J))) ∧ ((I4 80 9) = 0 → (((I4 80 9) = 0 → Wd fv d M_X12_begins [.ref 80] (up (up (up I4 80 2 0) 80 11 (I4 80 9)) 80 12 (-1)) J R (fun u11 I12 J13 => Q (I12 80 30) I12 J13)) ∧ (¬ (I4 80 9) = 0 → Q (-1) (up (up (up I4 80 2 0) 80 11 (I4 80 9)) 80 12 (-1)) J)))))) ∧ (¬ x1 ≤ (I 80 2) → Q (-2) (up I 80 0 0) J))))) : K 0 [(0, .ref 80), (1, .int x1)] [] I J R := by
  refine k_ld hK 0 dX12_text_0 rfl rfl rfl rfl ?_
  refine k_ic hK dX12_text_1 ci_0 ?_
  refine k_pI hK dX12_text_2 lf_X12_142 rfl rfl rfl (sc_80 hs) ?_
  refine k_ld hK 1 dX12_text_5 rfl rfl rfl rfl ?_
  refine k_lt hK dX12_text_6 (tgt := 17) rfl (fun h1 => ?_) (fun h1 => ?_)
  · have hF := hF.1 h1
    refine k_bi hK dX12_text_17 cb_m2 ?_
    exact k_iret hK dX12_text_19 rfl rfl (done_0 rfl rfl) (qD_i hF)
  · have hF := hF.2 h1
    refine k_ld hK 1 dX12_text_9 rfl rfl rfl rfl ?_
    refine k_ld hK 0 dX12_text_10 rfl rfl rfl rfl ?_
    refine k_gI hK dX12_text_11 lf_X12_145 rfl (sc_80 hs) ((up_nk (by decide)).trans rfl) ?_
    refine k_cle hK dX12_text_14 (tgt := 20) rfl (fun h2 => ?_) (fun h2 => ?_)
    · have hF := hF.1 h2
      refine k_ld hK 0 dX12_text_20 rfl rfl rfl rfl ?_
      refine k_ld hK 1 dX12_text_21 rfl rfl rfl rfl ?_
      refine k_cVc hK dX12_text_22 (Or.inl lm_X12_332) (As := [.int x1]) (S := []) rfl (sc_80 hs) (Nat.le_of_ble_eq_true rfl) (fit_0 rfl rfl) rfl hF (fun u3 I4 hF => ?_)
      show K _ _ [] _ _ _
      refine k_ld hK 0 dX12_text_25 rfl rfl rfl rfl ?_
      refine k_ic hK dX12_text_26 ci_0 ?_
      refine k_pI hK dX12_text_27 lf_X12_145 rfl rfl rfl (sc_80 hs) ?_
      refine k_ld hK 0 dX12_text_30 rfl rfl rfl rfl ?_
      refine k_ld hK 0 dX12_text_31 rfl rfl rfl rfl ?_
      refine k_gI hK dX12_text_32 lf_X12_183 rfl (sc_80 hs) ((up_nk (by decide)).trans rfl) ?_
      refine k_pI hK dX12_text_35 lf_X12_335 rfl rfl rfl (sc_80 hs) ?_
      refine k_ld hK 0 dX12_text_38 rfl rfl rfl rfl ?_
      refine k_ld hK 0 dX12_text_39 rfl rfl rfl rfl ?_
      refine k_gI hK dX12_text_40 lf_X12_183 rfl (sc_80 hs) ((up_nk (by decide)).trans ((up_nk (by decide)).trans rfl)) ?_
      refine k_ne hK dX12_text_43 (tgt := 50) rfl (fun h5 => ?_) (fun h5 => ?_)
      · have hF := hF.1 h5
        refine k_ld hK 0 dX12_text_50 rfl rfl rfl rfl ?_
        refine k_gI hK dX12_text_51 lf_X12_186 rfl (sc_80 hs) ((up_nk (by decide)).trans ((up_nk (by decide)).trans rfl)) ?_
        refine k_pI hK dX12_text_54 lf_X12_13 rfl rfl rfl (sc_80 hs) ?_
        refine k_ld hK 0 dX12_text_57 rfl rfl rfl rfl ?_
        refine k_gI hK dX12_text_58 lf_X12_183 rfl (sc_80 hs) ((up_nk (by decide)).trans ((up_nk (by decide)).trans ((up_nk (by decide)).trans rfl))) ?_
        refine k_eq hK dX12_text_61 (tgt := 66) rfl (fun h6 => ?_) (fun h6 => ?_)
        · have hF := hF.1 h6
          refine k_ld hK 0 dX12_text_66 rfl rfl rfl rfl ?_
          refine k_cVd hK dX12_text_67 (Or.inl lm_X12_139) (As := []) (S := []) rfl (sc_80 hs) (Nat.le_of_ble_eq_true rfl) (fit_0 rfl rfl) rfl hF (fun u7 I8 J9 hF => ?_)
          show K _ _ [] _ _ _
          refine k_ld hK 0 dX12_text_70 rfl rfl rfl rfl ?_
          refine k_gI hK dX12_text_71 lf_X12_311 rfl (sc_80 hs) rfl ?_
          exact k_iret hK dX12_text_74 rfl rfl (done_0 rfl rfl) (qD_i hF)
        · have hF := hF.2 h6
          refine k_ic hK dX12_text_64 ci_m1 ?_
          exact k_iret hK dX12_text_65 rfl rfl (done_0 rfl rfl) (qD_i hF)
      · have hF := hF.2 h5
        refine k_ic hK dX12_text_46 ci_m1 ?_
        refine k_goto hK dX12_text_47 (tgt := 54) rfl ?_
        refine k_pI hK dX12_text_54 lf_X12_13 rfl rfl rfl (sc_80 hs) ?_
        refine k_ld hK 0 dX12_text_57 rfl rfl rfl rfl ?_
        refine k_gI hK dX12_text_58 lf_X12_183 rfl (sc_80 hs) ((up_nk (by decide)).trans ((up_nk (by decide)).trans ((up_nk (by decide)).trans rfl))) ?_
        refine k_eq hK dX12_text_61 (tgt := 66) rfl (fun h10 => ?_) (fun h10 => ?_)
        · have hF := hF.1 h10
          refine k_ld hK 0 dX12_text_66 rfl rfl rfl rfl ?_
          refine k_cVd hK dX12_text_67 (Or.inl lm_X12_139) (As := []) (S := []) rfl (sc_80 hs) (Nat.le_of_ble_eq_true rfl) (fit_0 rfl rfl) rfl hF (fun u11 I12 J13 hF => ?_)
          show K _ _ [] _ _ _
          refine k_ld hK 0 dX12_text_70 rfl rfl rfl rfl ?_
          refine k_gI hK dX12_text_71 lf_X12_311 rfl (sc_80 hs) rfl ?_
          exact k_iret hK dX12_text_74 rfl rfl (done_0 rfl rfl) (qD_i hF)
        · have hF := hF.2 h10
          refine k_ic hK dX12_text_64 ci_m1 ?_
          exact k_iret hK dX12_text_65 rfl rfl (done_0 rfl rfl) (qD_i hF)
    · have hF := hF.2 h2
      refine k_bi hK dX12_text_17 cb_m2 ?_
      exact k_iret hK dX12_text_19 rfl rfl (done_0 rfl rfl) (qD_i hF)
theorem e_X12_text {d : Nat} {Q : Int32 → HI → HJ → Prop} {I : HI} {J : HJ} {R : HR} {x1 : Int32} (hs : Stat R)  (hF : ((x1 < 0 → Q (-2) (up I 80 0 0) J) ∧ (¬ x1 < 0 → ((x1 ≤ (I 80 2) → Wc fv d M_X12_readText [.ref 80, .int x1] (up I 80 0 0) J R (fun u3 I4 => ((¬ (I4 80 9) = 0 → (((I4 80 9) = 0 → Wd fv d M_X12_begins [.ref 80] (up (up (up I4 80 2 0) 80 11 (I4 80 9)) 80 12 (I4 80 10)) J R (fun u7 I8 J9 => Q (I8 80 30) I8 J9)) ∧ (¬ (I4 80 9) = 0 → Q (-1) (up (up (up I4 80 2 0) 80 11 (I4 80 9)) 80 12 (I4 80 10)) J))) ∧ ((I4 80 9) = 0 → (((I4 80 9) = 0 → Wd fv d M_X12_begins [.ref 80] (up (up (up I4 80 2 0) 80 11 (I4 80 9)) 80 12 (-1)) J R (fun u11 I12 J13 => Q (I12 80 30) I12 J13)) ∧ (¬ (I4 80 9) = 0 → Q (-1) (up (up (up I4 80 2 0) 80 11 (I4 80 9)) 80 12 (-1)) J)))))) ∧ (¬ x1 ≤ (I 80 2) → Q (-2) (up I 80 0 0) J))))) : Wd fi (d + 1) M_X12_text [.ref 80, .int x1] I J R Q := ⟨Nat.le_of_ble_eq_true rfl, fun K hK => g_X12_text_0 hK hs hF⟩
set_option maxHeartbeats 4000000 in
theorem g_X12_fault_0 {d : Nat} {K : KT} {Q : Int32 → HI → Prop} {I : HI} {J : HJ} {R : HR} {x1 : Int32} (hK : am_R M_X12_fault (am_W d) none R (qC fi J R Q) K) (hs : Stat R)  (hF : ((¬ x1 = 0 → ((¬ x1 = 1 → Q (-1) (up I 80 0 0)) ∧ (x1 = 1 → Q (I 80 12) (up I 80 0 0)))) ∧ (x1 = 0 → Q (I 80 11) (up I 80 0 0)))) : K 0 [(0, .ref 80), (1, .int x1)] [] I J R := by
  refine k_ld hK 0 dX12_fault_0 rfl rfl rfl rfl ?_
  refine k_ic hK dX12_fault_1 ci_0 ?_
  refine k_pI hK dX12_fault_2 lf_X12_142 rfl rfl rfl (sc_80 hs) ?_
  refine k_ld hK 1 dX12_fault_5 rfl rfl rfl rfl ?_
  refine k_ne hK dX12_fault_6 (tgt := 16) rfl (fun h1 => ?_) (fun h1 => ?_)
  · have hF := hF.1 h1
    refine k_ld hK 1 dX12_fault_16 rfl rfl rfl rfl ?_
    refine k_ic hK dX12_fault_17 ci_1 ?_
    refine k_cne hK dX12_fault_18 (tgt := 28) rfl (fun h2 => ?_) (fun h2 => ?_)
    · have hF := hF.1 h2
      refine k_ic hK dX12_fault_28 ci_m1 ?_
      exact k_iret hK dX12_fault_29 rfl rfl (done_0 rfl rfl) (qC_i hF)
    · have hF := hF.2 h2
      refine k_ld hK 0 dX12_fault_21 rfl rfl rfl rfl ?_
      refine k_gI hK dX12_fault_22 lf_X12_13 rfl (sc_80 hs) ((up_nk (by decide)).trans rfl) ?_
      refine k_goto hK dX12_fault_25 (tgt := 29) rfl ?_
      exact k_iret hK dX12_fault_29 rfl rfl (done_0 rfl rfl) (qC_i hF)
  · have hF := hF.2 h1
    refine k_ld hK 0 dX12_fault_9 rfl rfl rfl rfl ?_
    refine k_gI hK dX12_fault_10 lf_X12_335 rfl (sc_80 hs) ((up_nk (by decide)).trans rfl) ?_
    refine k_goto hK dX12_fault_13 (tgt := 29) rfl ?_
    exact k_iret hK dX12_fault_29 rfl rfl (done_0 rfl rfl) (qC_i hF)
theorem e_X12_fault {d : Nat} {Q : Int32 → HI → Prop} {I : HI} {J : HJ} {R : HR} {x1 : Int32} (hs : Stat R)  (hF : ((¬ x1 = 0 → ((¬ x1 = 1 → Q (-1) (up I 80 0 0)) ∧ (x1 = 1 → Q (I 80 12) (up I 80 0 0)))) ∧ (x1 = 0 → Q (I 80 11) (up I 80 0 0)))) : Wc fi (d + 1) M_X12_fault [.ref 80, .int x1] I J R Q := ⟨Nat.le_of_ble_eq_true rfl, fun K hK => g_X12_fault_0 hK hs hF⟩
set_option maxHeartbeats 4000000 in
theorem g_X12_left_0 {d : Nat} {K : KT} {Q : Int64 → Prop} {I : HI} {J : HJ} {R : HR} {z0 : Int64} (hK : am_R M_X12_left (am_W d) none R (qP fl I J R Q) K) (hs : Stat R)  (hF : (((0 : Int64) ≤ (z0 - z0 / (1000000007 : Int64) * (1000000007 : Int64)) → Q (z0 - z0 / (1000000007 : Int64) * (1000000007 : Int64))) ∧ (¬ (0 : Int64) ≤ (z0 - z0 / (1000000007 : Int64) * (1000000007 : Int64)) → Q ((z0 - z0 / (1000000007 : Int64) * (1000000007 : Int64)) + (1000000007 : Int64))))) : K 0 [(0, .long z0)] [] I J R := by
  refine k_ld hK 0 dX12_left_0 rfl rfl rfl rfl ?_
  refine k_ldc2 hK dX12_left_1 lc_X12_338 ?_
  refine k_lrem hK dX12_left_4 (by decide) ?_
  refine k_st hK dX12_left_5 rfl rfl rfl (Nat.le_of_ble_eq_true rfl) rfl ?_
  refine k_ld hK 0 dX12_left_6 rfl rfl rfl rfl ?_
  refine k_lc hK dX12_left_7 cl_0 ?_
  refine k_lge hK dX12_left_8 dX12_left_9 (tgt := 20) rfl (fun h1 => ?_) (fun h1 => ?_)
  · have hF := hF.1 h1
    refine k_ld hK 0 dX12_left_20 rfl rfl rfl rfl ?_
    exact k_lret hK dX12_left_21 rfl (done_0 rfl rfl) (qP_i hF)
  · have hF := hF.2 h1
    refine k_ld hK 0 dX12_left_12 rfl rfl rfl rfl ?_
    refine k_ldc2 hK dX12_left_13 lc_X12_338 ?_
    refine k_op hK dX12_left_16 rfl rfl ?_
    refine k_goto hK dX12_left_17 (tgt := 21) rfl ?_
    exact k_lret hK dX12_left_21 rfl (done_0 rfl rfl) (qP_i hF)
theorem e_X12_left {d : Nat} {Q : Int64 → Prop} {I : HI} {J : HJ} {R : HR} {z0 : Int64} (hs : Stat R)  (hF : (((0 : Int64) ≤ (z0 - z0 / (1000000007 : Int64) * (1000000007 : Int64)) → Q (z0 - z0 / (1000000007 : Int64) * (1000000007 : Int64))) ∧ (¬ (0 : Int64) ≤ (z0 - z0 / (1000000007 : Int64) * (1000000007 : Int64)) → Q ((z0 - z0 / (1000000007 : Int64) * (1000000007 : Int64)) + (1000000007 : Int64))))) : Wp fl (d + 1) M_X12_left [.long z0] I J R Q := ⟨Nat.le_of_ble_eq_true rfl, fun K hK => g_X12_left_0 hK hs hF⟩
set_option maxHeartbeats 4000000 in
theorem g_X12_power_0 {d : Nat} {K : KT} {Q : Int64 → Prop} {I : HI} {J : HJ} {R : HR} {z0 : Int64} {z2 : Int64} (hK : am_R M_X12_power (am_W d) none R (qP fl I J R Q) K) (hs : Stat R)  (hF : K 9 [(4, .long (1 : Int64)), (6, .long z0), (8, .long z2)] [] I J R) : K 0 [(0, .long z0), (2, .long z2)] [] I J R := by
  refine k_lc hK dX12_power_0 cl_1 ?_
  refine k_st hK dX12_power_1 rfl rfl rfl (Nat.le_of_ble_eq_true rfl) rfl ?_
  refine k_ld hK 1 dX12_power_3 rfl rfl rfl rfl ?_
  refine k_st hK dX12_power_4 rfl rfl rfl (Nat.le_of_ble_eq_true rfl) rfl ?_
  refine k_ld hK 3 dX12_power_6 rfl rfl rfl rfl ?_
  refine k_st hK dX12_power_7 rfl rfl rfl (Nat.le_of_ble_eq_true rfl) rfl ?_
  exact k_sub hK [2, 1, 0] rfl hF
set_option maxHeartbeats 4000000 in
theorem g_X12_power_9 {d : Nat} {K : KT} {Q : Int64 → Prop} {I : HI} {J : HJ} {R : HR} {z4 : Int64} {z6 : Int64} {z8 : Int64} (hK : am_R M_X12_power (am_W d) none R (qP fl I J R Q) K) (hs : Stat R)  (hF : ((z8 ≤ (0 : Int64) → Q z4) ∧ (¬ z8 ≤ (0 : Int64) → ((¬ (z8 - z8 / (2 : Int64) * (2 : Int64)) = (1 : Int64) → K 9 [(4, .long z4), (6, .long ((z6 * z6) - (z6 * z6) / (1000000007 : Int64) * (1000000007 : Int64))), (8, .long (z8 / (2 : Int64)))] [] I J R) ∧ ((z8 - z8 / (2 : Int64) * (2 : Int64)) = (1 : Int64) → K 9 [(4, .long ((z4 * z6) - (z4 * z6) / (1000000007 : Int64) * (1000000007 : Int64))), (6, .long ((z6 * z6) - (z6 * z6) / (1000000007 : Int64) * (1000000007 : Int64))), (8, .long (z8 / (2 : Int64)))] [] I J R))))) : K 9 [(4, .long z4), (6, .long z6), (8, .long z8)] [] I J R := by
  refine k_ld hK 2 dX12_power_9 rfl rfl rfl rfl ?_
  refine k_lc hK dX12_power_11 cl_0 ?_
  refine k_lle hK dX12_power_12 dX12_power_13 (tgt := 60) rfl (fun h1 => ?_) (fun h1 => ?_)
  · have hF := hF.1 h1
    refine k_ld hK 0 dX12_power_60 rfl rfl rfl rfl ?_
    exact k_lret hK dX12_power_62 rfl (done_0 rfl rfl) (qP_i hF)
  · have hF := hF.2 h1
    refine k_ld hK 2 dX12_power_16 rfl rfl rfl rfl ?_
    refine k_ldc2 hK dX12_power_18 lc_X12_340 ?_
    refine k_lrem hK dX12_power_21 (by decide) ?_
    refine k_lc hK dX12_power_22 cl_1 ?_
    refine k_lne hK dX12_power_23 dX12_power_24 (tgt := 38) rfl (fun h2 => ?_) (fun h2 => ?_)
    · have hF := hF.1 h2
      refine k_ld hK 1 dX12_power_38 rfl rfl rfl rfl ?_
      refine k_ld hK 1 dX12_power_40 rfl rfl rfl rfl ?_
      refine k_op hK dX12_power_42 rfl rfl ?_
      refine k_ldc2 hK dX12_power_43 lc_X12_338 ?_
      refine k_lrem hK dX12_power_46 (by decide) ?_
      refine k_st hK dX12_power_47 rfl rfl rfl (Nat.le_of_ble_eq_true rfl) rfl ?_
      refine k_ld hK 2 dX12_power_49 rfl rfl rfl rfl ?_
      refine k_ldc2 hK dX12_power_51 lc_X12_340 ?_
      refine k_ldiv hK dX12_power_54 (by decide) ?_
      refine k_st hK dX12_power_55 rfl rfl rfl (Nat.le_of_ble_eq_true rfl) rfl ?_
      refine k_goto hK dX12_power_57 (tgt := 9) rfl ?_
      exact k_sub hK [2, 1, 0] rfl hF
    · have hF := hF.2 h2
      refine k_ld hK 0 dX12_power_27 rfl rfl rfl rfl ?_
      refine k_ld hK 1 dX12_power_29 rfl rfl rfl rfl ?_
      refine k_op hK dX12_power_31 rfl rfl ?_
      refine k_ldc2 hK dX12_power_32 lc_X12_338 ?_
      refine k_lrem hK dX12_power_35 (by decide) ?_
      refine k_st hK dX12_power_36 rfl rfl rfl (Nat.le_of_ble_eq_true rfl) rfl ?_
      refine k_ld hK 1 dX12_power_38 rfl rfl rfl rfl ?_
      refine k_ld hK 1 dX12_power_40 rfl rfl rfl rfl ?_
      refine k_op hK dX12_power_42 rfl rfl ?_
      refine k_ldc2 hK dX12_power_43 lc_X12_338 ?_
      refine k_lrem hK dX12_power_46 (by decide) ?_
      refine k_st hK dX12_power_47 rfl rfl rfl (Nat.le_of_ble_eq_true rfl) rfl ?_
      refine k_ld hK 2 dX12_power_49 rfl rfl rfl rfl ?_
      refine k_ldc2 hK dX12_power_51 lc_X12_340 ?_
      refine k_ldiv hK dX12_power_54 (by decide) ?_
      refine k_st hK dX12_power_55 rfl rfl rfl (Nat.le_of_ble_eq_true rfl) rfl ?_
      refine k_goto hK dX12_power_57 (tgt := 9) rfl ?_
      exact k_sub hK [2, 1, 0] rfl hF
set_option maxHeartbeats 4000000 in
theorem g_X12_parted_0 {d : Nat} {K : KT} {Q : Int64 → Prop} {I : HI} {J : HJ} {R : HR} {z0 : Int64} {z2 : Int64} (hK : am_R M_X12_parted (am_W d) none R (qP fl I J R Q) K) (hs : Stat R)  (hF : Wp fl d M_X12_power [.long z2, .long (1000000005 : Int64)] I J R (fun r1 => Q ((z0 * r1) - (z0 * r1) / (1000000007 : Int64) * (1000000007 : Int64)))) : K 0 [(0, .long z0), (2, .long z2)] [] I J R := by
  refine k_ld hK 0 dX12_parted_0 rfl rfl rfl rfl ?_
  refine k_ld hK 1 dX12_parted_1 rfl rfl rfl rfl ?_
  refine k_ldc2 hK dX12_parted_2 lc_X12_342 ?_
  refine k_cSp hK dX12_parted_5 lm_X12_344 (As := [.long z2, .long (1000000005 : Int64)]) (S := [.long z0]) rfl (Nat.le_of_ble_eq_true rfl) (fit_0 rfl rfl) rfl hF (fun r1 hF => ?_)
  show K _ _ [.long r1, .long z0] _ _ _
  refine k_op hK dX12_parted_8 rfl rfl ?_
  refine k_ldc2 hK dX12_parted_9 lc_X12_338 ?_
  refine k_lrem hK dX12_parted_12 (by decide) ?_
  exact k_lret hK dX12_parted_13 rfl (done_0 rfl rfl) (qP_i hF)
theorem e_X12_parted {d : Nat} {Q : Int64 → Prop} {I : HI} {J : HJ} {R : HR} {z0 : Int64} {z2 : Int64} (hs : Stat R)  (hF : Wp fl d M_X12_power [.long z2, .long (1000000005 : Int64)] I J R (fun r1 => Q ((z0 * r1) - (z0 * r1) / (1000000007 : Int64) * (1000000007 : Int64)))) : Wp fl (d + 1) M_X12_parted [.long z0, .long z2] I J R Q := ⟨Nat.le_of_ble_eq_true rfl, fun K hK => g_X12_parted_0 hK hs hF⟩
set_option maxHeartbeats 4000000 in
theorem g_X12_signed_0 {d : Nat} {K : KT} {Q : Int64 → Prop} {I : HI} {J : HJ} {R : HR} {z0 : Int64} (hK : am_R M_X12_signed (am_W d) none R (qP fl I J R Q) K) (hs : Stat R)  (hF : ((z0 ≤ (500000003 : Int64) → Q z0) ∧ (¬ z0 ≤ (500000003 : Int64) → Q (z0 - (1000000007 : Int64))))) : K 0 [(0, .long z0)] [] I J R := by
  refine k_ld hK 0 dX12_signed_0 rfl rfl rfl rfl ?_
  refine k_ldc2 hK dX12_signed_1 lc_X12_348 ?_
  refine k_lle hK dX12_signed_4 dX12_signed_5 (tgt := 16) rfl (fun h1 => ?_) (fun h1 => ?_)
  · have hF := hF.1 h1
    refine k_ld hK 0 dX12_signed_16 rfl rfl rfl rfl ?_
    exact k_lret hK dX12_signed_17 rfl (done_0 rfl rfl) (qP_i hF)
  · have hF := hF.2 h1
    refine k_ld hK 0 dX12_signed_8 rfl rfl rfl rfl ?_
    refine k_ldc2 hK dX12_signed_9 lc_X12_338 ?_
    refine k_op hK dX12_signed_12 rfl rfl ?_
    refine k_goto hK dX12_signed_13 (tgt := 17) rfl ?_
    exact k_lret hK dX12_signed_17 rfl (done_0 rfl rfl) (qP_i hF)
theorem e_X12_signed {d : Nat} {Q : Int64 → Prop} {I : HI} {J : HJ} {R : HR} {z0 : Int64} (hs : Stat R)  (hF : ((z0 ≤ (500000003 : Int64) → Q z0) ∧ (¬ z0 ≤ (500000003 : Int64) → Q (z0 - (1000000007 : Int64))))) : Wp fl (d + 1) M_X12_signed [.long z0] I J R Q := ⟨Nat.le_of_ble_eq_true rfl, fun K hK => g_X12_signed_0 hK hs hF⟩
set_option maxHeartbeats 4000000 in
theorem g_X12_push_0 {d : Nat} {K : KT} {Q : Unit → HI → HJ → Prop} {I : HI} {J : HJ} {R : HR} {z1 : Int64} {x3 : Int32} (hK : am_R M_X12_push (am_W d) none R (qD fv R Q) K) (hs : Stat R)  (hF : (∃ n1 : Nat, (I 80 47) = nI n1 ∧ n1 < 64 ∧ Q () (up (up I 100 n1 x3) 80 47 ((I 80 47) + 1)) (up J 99 n1 z1))) : K 0 [(0, .ref 80), (1, .long z1), (3, .int x3)] [] I J R := by
  refine k_ld hK 0 dX12_push_0 rfl rfl rfl rfl ?_
  refine k_gR hK dX12_push_1 lf_X12_69 rfl (sc_80 hs) (sf_80_45 hs) ?_
  refine k_ld hK 0 dX12_push_4 rfl rfl rfl rfl ?_
  refine k_gI hK dX12_push_5 lf_X12_350 rfl (sc_80 hs) rfl ?_
  refine k_ld hK 1 dX12_push_8 rfl rfl rfl rfl ?_
  obtain ⟨n1, i2, j3, hF⟩ := hF
  refine k_last hK dX12_push_9 (sc_99 hs) sn_99 (by decide) i2 j3 ?_
  refine k_ld hK 0 dX12_push_10 rfl rfl rfl rfl ?_
  refine k_gR hK dX12_push_11 lf_X12_72 rfl (sc_80 hs) (sf_80_46 hs) ?_
  refine k_ld hK 0 dX12_push_14 rfl rfl rfl rfl ?_
  refine k_gI hK dX12_push_15 lf_X12_350 rfl (sc_80 hs) rfl ?_
  refine k_ld hK 2 dX12_push_18 rfl rfl rfl rfl ?_
  refine k_iast hK dX12_push_19 (sc_100 hs) sn_100 (by decide) i2 j3 ?_
  refine k_ld hK 0 dX12_push_20 rfl rfl rfl rfl ?_
  refine k_op hK dX12_push_21 rfl rfl ?_
  refine k_gI hK dX12_push_22 lf_X12_350 rfl (sc_80 hs) ((up_na (by decide)).trans rfl) ?_
  refine k_ic hK dX12_push_25 ci_1 ?_
  refine k_op hK dX12_push_26 rfl rfl ?_
  refine k_pI hK dX12_push_27 lf_X12_350 rfl rfl rfl (sc_80 hs) ?_
  exact k_vret hK dX12_push_30 rfl (done_0 rfl rfl) (qD_i hF)
theorem e_X12_push {d : Nat} {Q : Unit → HI → HJ → Prop} {I : HI} {J : HJ} {R : HR} {z1 : Int64} {x3 : Int32} (hs : Stat R)  (hF : (∃ n1 : Nat, (I 80 47) = nI n1 ∧ n1 < 64 ∧ Q () (up (up I 100 n1 x3) 80 47 ((I 80 47) + 1)) (up J 99 n1 z1))) : Wd fv (d + 1) M_X12_push [.ref 80, .long z1, .int x3] I J R Q := ⟨Nat.le_of_ble_eq_true rfl, fun K hK => g_X12_push_0 hK hs hF⟩
set_option maxHeartbeats 4000000 in
theorem g_X12_clears_0 {d : Nat} {K : KT} {Q : Unit → HI → HJ → Prop} {I : HI} {J : HJ} {R : HR}  (hK : am_R M_X12_clears (am_W d) none R (qD fv R Q) K) (hs : Stat R)  (hF : K 43 [(0, .ref 80), (1, .int 0)] [] (up (up (up (up (up (up (up (up I 80 44 0) 80 47 0) 80 54 0) 80 56 0) 80 57 0) 80 59 0) 80 60 (-2)) 80 61 0) J R) : K 0 [(0, .ref 80)] [] I J R := by
  refine k_ld hK 0 dX12_clears_0 rfl rfl rfl rfl ?_
  refine k_ic hK dX12_clears_1 ci_0 ?_
  refine k_pI hK dX12_clears_2 lf_X12_353 rfl rfl rfl (sc_80 hs) ?_
  refine k_ld hK 0 dX12_clears_5 rfl rfl rfl rfl ?_
  refine k_ic hK dX12_clears_6 ci_0 ?_
  refine k_pI hK dX12_clears_7 lf_X12_350 rfl rfl rfl (sc_80 hs) ?_
  refine k_ld hK 0 dX12_clears_10 rfl rfl rfl rfl ?_
  refine k_ic hK dX12_clears_11 ci_0 ?_
  refine k_pI hK dX12_clears_12 lf_X12_356 rfl rfl rfl (sc_80 hs) ?_
  refine k_ld hK 0 dX12_clears_15 rfl rfl rfl rfl ?_
  refine k_ic hK dX12_clears_16 ci_0 ?_
  refine k_pI hK dX12_clears_17 lf_X12_359 rfl rfl rfl (sc_80 hs) ?_
  refine k_ld hK 0 dX12_clears_20 rfl rfl rfl rfl ?_
  refine k_ic hK dX12_clears_21 ci_0 ?_
  refine k_pI hK dX12_clears_22 lf_X12_362 rfl rfl rfl (sc_80 hs) ?_
  refine k_ld hK 0 dX12_clears_25 rfl rfl rfl rfl ?_
  refine k_ic hK dX12_clears_26 ci_0 ?_
  refine k_pI hK dX12_clears_27 lf_X12_365 rfl rfl rfl (sc_80 hs) ?_
  refine k_ld hK 0 dX12_clears_30 rfl rfl rfl rfl ?_
  refine k_bi hK dX12_clears_31 cb_m2 ?_
  refine k_pI hK dX12_clears_33 lf_X12_368 rfl rfl rfl (sc_80 hs) ?_
  refine k_ld hK 0 dX12_clears_36 rfl rfl rfl rfl ?_
  refine k_ic hK dX12_clears_37 ci_0 ?_
  refine k_pI hK dX12_clears_38 lf_X12_371 rfl rfl rfl (sc_80 hs) ?_
  refine k_ic hK dX12_clears_41 ci_0 ?_
  refine k_st hK dX12_clears_42 rfl rfl rfl (Nat.le_of_ble_eq_true rfl) rfl ?_
  exact k_sub hK [1, 0] rfl hF
set_option maxHeartbeats 4000000 in
theorem g_X12_clears_43 {d : Nat} {K : KT} {Q : Unit → HI → HJ → Prop} {I : HI} {J : HJ} {R : HR} {x1 : Int32} (hK : am_R M_X12_clears (am_W d) none R (qD fv R Q) K) (hs : Stat R)  (hF : ((8 ≤ x1 → K 105 [(0, .ref 80), (1, .int 0)] [] I J R) ∧ (¬ 8 ≤ x1 → (((I 80 31) ≤ x1 → (∃ n3 : Nat, x1 = nI n3 ∧ n3 < 8 ∧ (((I 80 31) ≤ x1 → K 43 [(0, .ref 80), (1, .int (x1 + 1))] [] (up I 102 n3 (-2)) (up J 101 n3 (0 : Int64)) R) ∧ (¬ (I 80 31) ≤ x1 → K 43 [(0, .ref 80), (1, .int (x1 + 1))] [] (up I 102 n3 (1000 + x1)) (up J 101 n3 (0 : Int64)) R)))) ∧ (¬ (I 80 31) ≤ x1 → (∃ n7 : Nat, x1 = nI n7 ∧ n7 < 4 ∧ (((I 80 31) ≤ x1 → K 43 [(0, .ref 80), (1, .int (x1 + 1))] [] (up I 102 n7 (-2)) (up J 101 n7 (J 91 n7)) R) ∧ (¬ (I 80 31) ≤ x1 → K 43 [(0, .ref 80), (1, .int (x1 + 1))] [] (up I 102 n7 (1000 + x1)) (up J 101 n7 (J 91 n7)) R)))))))) : K 43 [(0, .ref 80), (1, .int x1)] [] I J R := by
  refine k_ld hK 1 dX12_clears_43 rfl rfl rfl rfl ?_
  refine k_bi hK dX12_clears_44 cb_8 ?_
  refine k_cge hK dX12_clears_46 (tgt := 103) rfl (fun h1 => ?_) (fun h1 => ?_)
  · have hF := hF.1 h1
    refine k_ic hK dX12_clears_103 ci_0 ?_
    refine k_st hK dX12_clears_104 rfl rfl rfl (Nat.le_of_ble_eq_true rfl) rfl ?_
    exact k_sub hK [1, 0] rfl hF
  · have hF := hF.2 h1
    refine k_ld hK 0 dX12_clears_49 rfl rfl rfl rfl ?_
    refine k_gR hK dX12_clears_50 lf_X12_75 rfl (sc_80 hs) (sf_80_48 hs) ?_
    refine k_ld hK 1 dX12_clears_53 rfl rfl rfl rfl ?_
    refine k_ld hK 1 dX12_clears_54 rfl rfl rfl rfl ?_
    refine k_ld hK 0 dX12_clears_55 rfl rfl rfl rfl ?_
    refine k_gI hK dX12_clears_56 lf_X12_314 rfl (sc_80 hs) rfl ?_
    refine k_cge hK dX12_clears_59 (tgt := 71) rfl (fun h2 => ?_) (fun h2 => ?_)
    · have hF := hF.1 h2
      refine k_lc hK dX12_clears_71 cl_0 ?_
      obtain ⟨n3, i4, j5, hF⟩ := hF
      refine k_last hK dX12_clears_72 (sc_101 hs) sn_101 (by decide) i4 j5 ?_
      refine k_ld hK 0 dX12_clears_73 rfl rfl rfl rfl ?_
      refine k_gR hK dX12_clears_74 lf_X12_78 rfl (sc_80 hs) (sf_80_49 hs) ?_
      refine k_ld hK 1 dX12_clears_77 rfl rfl rfl rfl ?_
      refine k_ld hK 1 dX12_clears_78 rfl rfl rfl rfl ?_
      refine k_ld hK 0 dX12_clears_79 rfl rfl rfl rfl ?_
      refine k_gI hK dX12_clears_80 lf_X12_314 rfl (sc_80 hs) rfl ?_
      refine k_cge hK dX12_clears_83 (tgt := 94) rfl (fun h6 => ?_) (fun h6 => ?_)
      · have hF := hF.1 h6
        refine k_bi hK dX12_clears_94 cb_m2 ?_
        refine k_iast hK dX12_clears_96 (sc_102 hs) sn_102 (by decide) i4 j5 ?_
        refine k_iinc hK 1 dX12_clears_97 (v := (x1 + 1)) rfl (Nat.le_of_ble_eq_true rfl) (congrArg (fun q => x1 + q) ci_1) rfl ?_
        refine k_goto hK dX12_clears_100 (tgt := 43) rfl ?_
        exact k_sub hK [1, 0] rfl hF
      · have hF := hF.2 h6
        refine k_si hK dX12_clears_86 cs_1000 ?_
        refine k_ld hK 1 dX12_clears_89 rfl rfl rfl rfl ?_
        refine k_op hK dX12_clears_90 rfl rfl ?_
        refine k_goto hK dX12_clears_91 (tgt := 96) rfl ?_
        refine k_iast hK dX12_clears_96 (sc_102 hs) sn_102 (by decide) i4 j5 ?_
        refine k_iinc hK 1 dX12_clears_97 (v := (x1 + 1)) rfl (Nat.le_of_ble_eq_true rfl) (congrArg (fun q => x1 + q) ci_1) rfl ?_
        refine k_goto hK dX12_clears_100 (tgt := 43) rfl ?_
        exact k_sub hK [1, 0] rfl hF
    · have hF := hF.2 h2
      refine k_ld hK 0 dX12_clears_62 rfl rfl rfl rfl ?_
      refine k_gR hK dX12_clears_63 lf_X12_44 rfl (sc_80 hs) (sf_80_36 hs) ?_
      refine k_ld hK 1 dX12_clears_66 rfl rfl rfl rfl ?_
      obtain ⟨n7, i8, j9, hF⟩ := hF
      refine k_lald hK dX12_clears_67 (sc_91 hs) sn_91 (by decide) i8 j9 rfl ?_
      refine k_goto hK dX12_clears_68 (tgt := 72) rfl ?_
      refine k_last hK dX12_clears_72 (sc_101 hs) sn_101 (by decide) i8 (Nat.lt_of_lt_of_le j9 (by decide)) ?_
      refine k_ld hK 0 dX12_clears_73 rfl rfl rfl rfl ?_
      refine k_gR hK dX12_clears_74 lf_X12_78 rfl (sc_80 hs) (sf_80_49 hs) ?_
      refine k_ld hK 1 dX12_clears_77 rfl rfl rfl rfl ?_
      refine k_ld hK 1 dX12_clears_78 rfl rfl rfl rfl ?_
      refine k_ld hK 0 dX12_clears_79 rfl rfl rfl rfl ?_
      refine k_gI hK dX12_clears_80 lf_X12_314 rfl (sc_80 hs) rfl ?_
      refine k_cge hK dX12_clears_83 (tgt := 94) rfl (fun h10 => ?_) (fun h10 => ?_)
      · have hF := hF.1 h10
        refine k_bi hK dX12_clears_94 cb_m2 ?_
        refine k_iast hK dX12_clears_96 (sc_102 hs) sn_102 (by decide) i8 (Nat.lt_of_lt_of_le j9 (by decide)) ?_
        refine k_iinc hK 1 dX12_clears_97 (v := (x1 + 1)) rfl (Nat.le_of_ble_eq_true rfl) (congrArg (fun q => x1 + q) ci_1) rfl ?_
        refine k_goto hK dX12_clears_100 (tgt := 43) rfl ?_
        exact k_sub hK [1, 0] rfl hF
      · have hF := hF.2 h10
        refine k_si hK dX12_clears_86 cs_1000 ?_
        refine k_ld hK 1 dX12_clears_89 rfl rfl rfl rfl ?_
        refine k_op hK dX12_clears_90 rfl rfl ?_
        refine k_goto hK dX12_clears_91 (tgt := 96) rfl ?_
        refine k_iast hK dX12_clears_96 (sc_102 hs) sn_102 (by decide) i8 (Nat.lt_of_lt_of_le j9 (by decide)) ?_
        refine k_iinc hK 1 dX12_clears_97 (v := (x1 + 1)) rfl (Nat.le_of_ble_eq_true rfl) (congrArg (fun q => x1 + q) ci_1) rfl ?_
        refine k_goto hK dX12_clears_100 (tgt := 43) rfl ?_
        exact k_sub hK [1, 0] rfl hF
set_option maxHeartbeats 4000000 in
theorem g_X12_clears_105 {d : Nat} {K : KT} {Q : Unit → HI → HJ → Prop} {I : HI} {J : HJ} {R : HR} {x1 : Int32} (hK : am_R M_X12_clears (am_W d) none R (qD fv R Q) K) (hs : Stat R)  (hF : ((48 ≤ x1 → Q () I J) ∧ (¬ 48 ≤ x1 → (∃ n2 : Nat, x1 = nI n2 ∧ n2 < 48 ∧ K 105 [(0, .ref 80), (1, .int (x1 + 1))] [] (up I 104 n2 (-2)) (up J 103 n2 (0 : Int64)) R)))) : K 105 [(0, .ref 80), (1, .int x1)] [] I J R := by
  refine k_ld hK 1 dX12_clears_105 rfl rfl rfl rfl ?_
  refine k_bi hK dX12_clears_106 cb_48 ?_
  refine k_cge hK dX12_clears_108 (tgt := 132) rfl (fun h1 => ?_) (fun h1 => ?_)
  · have hF := hF.1 h1
    exact k_vret hK dX12_clears_132 rfl (done_0 rfl rfl) (qD_i hF)
  · have hF := hF.2 h1
    refine k_ld hK 0 dX12_clears_111 rfl rfl rfl rfl ?_
    refine k_gR hK dX12_clears_112 lf_X12_81 rfl (sc_80 hs) (sf_80_50 hs) ?_
    refine k_ld hK 1 dX12_clears_115 rfl rfl rfl rfl ?_
    refine k_lc hK dX12_clears_116 cl_0 ?_
    obtain ⟨n2, i3, j4, hF⟩ := hF
    refine k_last hK dX12_clears_117 (sc_103 hs) sn_103 (by decide) i3 j4 ?_
    refine k_ld hK 0 dX12_clears_118 rfl rfl rfl rfl ?_
    refine k_gR hK dX12_clears_119 lf_X12_84 rfl (sc_80 hs) (sf_80_51 hs) ?_
    refine k_ld hK 1 dX12_clears_122 rfl rfl rfl rfl ?_
    refine k_bi hK dX12_clears_123 cb_m2 ?_
    refine k_iast hK dX12_clears_125 (sc_104 hs) sn_104 (by decide) i3 j4 ?_
    refine k_iinc hK 1 dX12_clears_126 (v := (x1 + 1)) rfl (Nat.le_of_ble_eq_true rfl) (congrArg (fun q => x1 + q) ci_1) rfl ?_
    refine k_goto hK dX12_clears_129 (tgt := 105) rfl ?_
    exact k_sub hK [1, 0] rfl hF
set_option maxHeartbeats 4000000 in
theorem g_X12_stops_0 {d : Nat} {K : KT} {Q : Unit → HI → Prop} {I : HI} {J : HJ} {R : HR} {x1 : Int32} {x2 : Int32} (hK : am_R M_X12_stops (am_W d) none R (qC fv J R Q) K) (hs : Stat R)  (hF : Q () (up (up I 80 59 x1) 80 60 x2)) : K 0 [(0, .ref 80), (1, .int x1), (2, .int x2)] [] I J R := by
  refine k_ld hK 0 dX12_stops_0 rfl rfl rfl rfl ?_
  refine k_ld hK 1 dX12_stops_1 rfl rfl rfl rfl ?_
  refine k_pI hK dX12_stops_2 lf_X12_365 rfl rfl rfl (sc_80 hs) ?_
  refine k_ld hK 0 dX12_stops_5 rfl rfl rfl rfl ?_
  refine k_ld hK 2 dX12_stops_6 rfl rfl rfl rfl ?_
  refine k_pI hK dX12_stops_7 lf_X12_368 rfl rfl rfl (sc_80 hs) ?_
  exact k_vret hK dX12_stops_10 rfl (done_0 rfl rfl) (qC_i hF)
theorem e_X12_stops {d : Nat} {Q : Unit → HI → Prop} {I : HI} {J : HJ} {R : HR} {x1 : Int32} {x2 : Int32} (hs : Stat R)  (hF : Q () (up (up I 80 59 x1) 80 60 x2)) : Wc fv (d + 1) M_X12_stops [.ref 80, .int x1, .int x2] I J R Q := ⟨Nat.le_of_ble_eq_true rfl, fun K hK => g_X12_stops_0 hK hs hF⟩
set_option maxHeartbeats 4000000 in
theorem g_X12_runs_0 {d : Nat} {K : KT} {Q : Unit → HI → HJ → Prop} {I : HI} {J : HJ} {R : HR}  (hK : am_R M_X12_runs (am_W d) none R (qD fv R Q) K) (hs : Stat R)  (hF : Wd fv d M_X12_clears [.ref 80] I J R (fun u1 I2 J3 => K 6 [(0, .ref 80), (1, .int 0)] [] I2 J3 R)) : K 0 [(0, .ref 80)] [] I J R := by
  refine k_ld hK 0 dX12_runs_0 rfl rfl rfl rfl ?_
  refine k_cVd hK dX12_runs_1 (Or.inl lm_X12_374) (As := []) (S := []) rfl (sc_80 hs) (Nat.le_of_ble_eq_true rfl) (fit_0 rfl rfl) rfl hF (fun u1 I2 J3 hF => ?_)
  show K _ _ [] _ _ _
  refine k_ic hK dX12_runs_4 ci_0 ?_
  refine k_st hK dX12_runs_5 rfl rfl rfl (Nat.le_of_ble_eq_true rfl) rfl ?_
  exact k_sub hK [1, 0] rfl hF
set_option maxHeartbeats 4000000 in
theorem g_X12_runs_6 {d : Nat} {K : KT} {Q : Unit → HI → HJ → Prop} {I : HI} {J : HJ} {R : HR} {x1 : Int32} (hK : am_R M_X12_runs (am_W d) none R (qD fv R Q) K) (hs : Stat R)  (hF : (((I 80 35) ≤ x1 → Q () I J) ∧ (¬ (I 80 35) ≤ x1 → ((¬ (I 80 59) = 0 → Q () I J) ∧ ((I 80 59) = 0 → ((¬ (I 80 61) = 3000 → Wd fi d M_X12_goes [.ref 80, .int x1] I J R (fun r4 I5 J6 => (((I5 80 59) = 0 → K 6 [(0, .ref 80), (1, .int r4)] [] (up I5 80 61 ((I5 80 61) + 1)) J6 R) ∧ (¬ (I5 80 59) = 0 → Q () I5 J6)))) ∧ ((I 80 61) = 3000 → Wc fv d M_X12_stops [.ref 80, .int 3, .int x1] I J R (fun u8 I9 => Q () I9 J)))))))) : K 6 [(0, .ref 80), (1, .int x1)] [] I J R := by
  refine k_ld hK 1 dX12_runs_6 rfl rfl rfl rfl ?_
  refine k_ld hK 0 dX12_runs_7 rfl rfl rfl rfl ?_
  refine k_gI hK dX12_runs_8 lf_X12_326 rfl (sc_80 hs) rfl ?_
  refine k_cge hK dX12_runs_11 (tgt := 67) rfl (fun h1 => ?_) (fun h1 => ?_)
  · have hF := hF.1 h1
    exact k_vret hK dX12_runs_67 rfl (done_0 rfl rfl) (qD_i hF)
  · have hF := hF.2 h1
    refine k_ld hK 0 dX12_runs_14 rfl rfl rfl rfl ?_
    refine k_gI hK dX12_runs_15 lf_X12_365 rfl (sc_80 hs) rfl ?_
    refine k_ne hK dX12_runs_18 (tgt := 67) rfl (fun h2 => ?_) (fun h2 => ?_)
    · have hF := hF.1 h2
      exact k_vret hK dX12_runs_67 rfl (done_0 rfl rfl) (qD_i hF)
    · have hF := hF.2 h2
      refine k_ld hK 0 dX12_runs_21 rfl rfl rfl rfl ?_
      refine k_gI hK dX12_runs_22 lf_X12_371 rfl (sc_80 hs) rfl ?_
      refine k_si hK dX12_runs_25 cs_3000 ?_
      refine k_cne hK dX12_runs_28 (tgt := 38) rfl (fun h3 => ?_) (fun h3 => ?_)
      · have hF := hF.1 h3
        refine k_ld hK 0 dX12_runs_38 rfl rfl rfl rfl ?_
        refine k_ld hK 1 dX12_runs_39 rfl rfl rfl rfl ?_
        refine k_cVd hK dX12_runs_40 (Or.inl lm_X12_380) (As := [.int x1]) (S := []) rfl (sc_80 hs) (Nat.le_of_ble_eq_true rfl) (fit_0 rfl rfl) rfl hF (fun r4 I5 J6 hF => ?_)
        show K _ _ [.int r4] _ _ _
        refine k_st hK dX12_runs_43 rfl rfl rfl (Nat.le_of_ble_eq_true rfl) rfl ?_
        refine k_ld hK 1 dX12_runs_44 rfl rfl rfl rfl ?_
        refine k_gI hK dX12_runs_45 lf_X12_365 rfl (sc_80 hs) rfl ?_
        refine k_eq hK dX12_runs_48 (tgt := 52) rfl (fun h7 => ?_) (fun h7 => ?_)
        · have hF := hF.1 h7
          refine k_ld hK 1 dX12_runs_52 rfl rfl rfl rfl ?_
          refine k_op hK dX12_runs_53 rfl rfl ?_
          refine k_gI hK dX12_runs_54 lf_X12_371 rfl (sc_80 hs) rfl ?_
          refine k_ic hK dX12_runs_57 ci_1 ?_
          refine k_op hK dX12_runs_58 rfl rfl ?_
          refine k_pI hK dX12_runs_59 lf_X12_371 rfl rfl rfl (sc_80 hs) ?_
          refine k_ld hK 0 dX12_runs_62 rfl rfl rfl rfl ?_
          refine k_st hK dX12_runs_63 rfl rfl rfl (Nat.le_of_ble_eq_true rfl) rfl ?_
          refine k_goto hK dX12_runs_64 (tgt := 6) rfl ?_
          exact k_sub hK [2, 0] rfl hF
        · have hF := hF.2 h7
          exact k_vret hK dX12_runs_51 rfl (done_0 rfl rfl) (qD_i hF)
      · have hF := hF.2 h3
        refine k_ld hK 0 dX12_runs_31 rfl rfl rfl rfl ?_
        refine k_ic hK dX12_runs_32 ci_3 ?_
        refine k_ld hK 1 dX12_runs_33 rfl rfl rfl rfl ?_
        refine k_cVc hK dX12_runs_34 (Or.inl lm_X12_377) (As := [.int 3, .int x1]) (S := []) rfl (sc_80 hs) (Nat.le_of_ble_eq_true rfl) (fit_0 rfl rfl) rfl hF (fun u8 I9 hF => ?_)
        show K _ _ [] _ _ _
        exact k_vret hK dX12_runs_37 rfl (done_0 rfl rfl) (qD_i hF)
set_option maxHeartbeats 4000000 in
theorem g_X12_goes_0 {d : Nat} {K : KT} {Q : Int32 → HI → HJ → Prop} {I : HI} {J : HJ} {R : HR} {x1 : Int32} (hK : am_R M_X12_goes (am_W d) none R (qD fi R Q) K) (hs : Stat R)  (hF : (∃ n1 : Nat, x1 = nI n1 ∧ n1 < 2000 ∧ (((I 86 n1) = 0 → Wd fv d M_X12_push [.ref 80, .long (Int32.toInt64 (I 87 n1)), .int (-2)] I J R (fun u5 I6 J7 => K 242 [(1, .int x1)] [] I6 J7 R)) ∧ (¬ (I 86 n1) = 0 → (((I 86 n1) = 1 → (∃ n9 : Nat, (I 87 n1) = nI n9 ∧ n9 < 8 ∧ Wd fv d M_X12_push [.ref 80, .long (J 101 n9), .int (I 102 n9)] I J R (fun u12 I13 J14 => K 242 [(1, .int x1)] [] I13 J14 R))) ∧ (¬ (I 86 n1) = 1 → (((I 86 n1) = 2 → Wd fv d M_X12_fetches [.ref 80, .int (I 87 n1), .int x1] I J R (fun u16 I17 J18 => K 242 [(1, .int x1)] [] I17 J18 R)) ∧ (¬ (I 86 n1) = 2 → (((I 86 n1) = 3 → Wd fv d M_X12_enters [.ref 80, .int x1] I J R (fun u20 I21 J22 => K 242 [(1, .int x1)] [] I21 J22 R)) ∧ (¬ (I 86 n1) = 3 → (((I 86 n1) = 4 → Wd fv d M_X12_enters [.ref 80, .int x1] I J R (fun u24 I25 J26 => K 242 [(1, .int x1)] [] I25 J26 R)) ∧ (¬ (I 86 n1) = 4 → (((I 86 n1) = 5 → Wd fv d M_X12_enters [.ref 80, .int x1] I J R (fun u28 I29 J30 => K 242 [(1, .int x1)] [] I29 J30 R)) ∧ (¬ (I 86 n1) = 5 → (((I 86 n1) = 6 → Wd fv d M_X12_enters [.ref 80, .int x1] I J R (fun u32 I33 J34 => K 242 [(1, .int x1)] [] I33 J34 R)) ∧ (¬ (I 86 n1) = 6 → (((I 86 n1) = 7 → (∃ n36 : Nat, ((I 80 47) - 1) = nI n36 ∧ n36 < 64 ∧ (∃ n39 : Nat, (I 87 n1) = nI n39 ∧ n39 < 8 ∧ K 242 [(1, .int x1)] [] (up (up I 80 47 ((I 80 47) - 1)) 102 n39 (I 100 n36)) (up J 101 n39 (J 99 n36)) R))) ∧ (¬ (I 86 n1) = 7 → (((I 86 n1) = 8 → Wd fv d M_X12_puts [.ref 80, .int (I 87 n1), .int x1] I J R (fun u43 I44 J45 => K 242 [(1, .int x1)] [] I44 J45 R)) ∧ (¬ (I 86 n1) = 8 → (((I 86 n1) = 9 → Wd fv d M_X12_tellsOut [.ref 80, .int x1] I J R (fun u47 I48 J49 => K 242 [(1, .int x1)] [] I48 J49 R)) ∧ (¬ (I 86 n1) = 9 → (((I 86 n1) = 10 → (n1 < 1000 ∧ (∃ n52 : Nat, (I 87 n1) = nI n52 ∧ n52 < 8 ∧ K 242 [(1, .int x1)] [] (up (up I 108 n1 0) 102 n52 (-2)) (up J 101 n52 (0 : Int64)) R))) ∧ (¬ (I 86 n1) = 10 → (((I 86 n1) = 11 → Wd fi d M_X12_nextTo [.ref 80, .int (I 87 n1), .int x1] I J R (fun r56 I57 J58 => Q r56 I57 J58)) ∧ (¬ (I 86 n1) = 11 → (((I 86 n1) = 12 → Wc fb d M_X12_tests [.ref 80, .int x1] I J R (fun b60 I61 => ((b60 = false → Q (I 87 n1) I61 J) ∧ (b60 = true → Q (x1 + 1) I61 J)))) ∧ (¬ (I 86 n1) = 12 → (((I 86 n1) = 13 → Wc fb d M_X12_tests [.ref 80, .int x1] I J R (fun b64 I65 => ((b64 = false → Q (I 87 n1) I65 J) ∧ (b64 = true → Q (x1 + 1) I65 J)))) ∧ (¬ (I 86 n1) = 13 → (((I 86 n1) = 14 → Q (I 87 n1) I J) ∧ (¬ (I 86 n1) = 14 → Wd fv d M_X12_enters [.ref 80, .int x1] I J R (fun u68 I69 J70 => K 242 [(1, .int x1)] [] I69 J70 R))))))))))))))))))))))))))))))))) : K 0 [(0, .ref 80), (1, .int x1)] [] I J R := by
  refine k_ld hK 0 dX12_goes_0 rfl rfl rfl rfl ?_
  refine k_gR hK dX12_goes_1 lf_X12_32 rfl (sc_80 hs) (sf_80_22 hs) ?_
  refine k_ld hK 1 dX12_goes_4 rfl rfl rfl rfl ?_
  obtain ⟨n1, i2, j3, hF⟩ := hF
  refine k_iald hK dX12_goes_5 (sc_87 hs) sn_87 (by decide) i2 j3 rfl ?_
  refine k_st hK dX12_goes_6 rfl rfl rfl (Nat.le_of_ble_eq_true rfl) rfl ?_
  refine k_ld hK 1 dX12_goes_7 rfl rfl rfl rfl ?_
  refine k_gR hK dX12_goes_8 lf_X12_29 rfl (sc_80 hs) (sf_80_21 hs) ?_
  refine k_ld hK 2 dX12_goes_11 rfl rfl rfl rfl ?_
  refine k_iald hK dX12_goes_12 (sc_86 hs) sn_86 (by decide) i2 j3 rfl ?_
  refine k_tab hK dX12_goes_13 (cs := [(0, 88), (1, 99), (2, 118), (3, 237), (4, 237), (5, 237), (6, 237), (7, 127), (8, 170), (9, 179), (10, 187), (11, 212), (12, 219), (13, 219), (14, 235)]) (td := 237) (by decide) (by decide) ?_
  refine swc (fun h4 => ?_) (fun h4 => ?_)
  · have hF := hF.1 h4
    refine k_ld hK 1 dX12_goes_88 rfl rfl rfl rfl ?_
    refine k_ld hK 0 dX12_goes_89 rfl rfl rfl rfl ?_
    refine k_op hK dX12_goes_90 rfl rfl ?_
    refine k_bi hK dX12_goes_91 cb_m2 ?_
    refine k_cVd hK dX12_goes_93 (Or.inl lm_X12_383) (As := [.long (Int32.toInt64 (I 87 n1)), .int (-2)]) (S := []) rfl (sc_80 hs) (Nat.le_of_ble_eq_true rfl) (fit_0 rfl rfl) rfl hF (fun u5 I6 J7 hF => ?_)
    show K _ _ [] _ _ _
    refine k_goto hK dX12_goes_96 (tgt := 242) rfl ?_
    exact k_sub hK [2] rfl hF
  have hF := hF.2 h4
  refine swc (fun h8 => ?_) (fun h8 => ?_)
  · have hF := hF.1 h8
    refine k_ld hK 1 dX12_goes_99 rfl rfl rfl rfl ?_
    refine k_ld hK 1 dX12_goes_100 rfl rfl rfl rfl ?_
    refine k_gR hK dX12_goes_101 lf_X12_75 rfl (sc_80 hs) (sf_80_48 hs) ?_
    refine k_ld hK 0 dX12_goes_104 rfl rfl rfl rfl ?_
    obtain ⟨n9, i10, j11, hF⟩ := hF
    refine k_lald hK dX12_goes_105 (sc_101 hs) sn_101 (by decide) i10 j11 rfl ?_
    refine k_ld hK 1 dX12_goes_106 rfl rfl rfl rfl ?_
    refine k_gR hK dX12_goes_107 lf_X12_78 rfl (sc_80 hs) (sf_80_49 hs) ?_
    refine k_ld hK 0 dX12_goes_110 rfl rfl rfl rfl ?_
    refine k_iald hK dX12_goes_111 (sc_102 hs) sn_102 (by decide) i10 j11 rfl ?_
    refine k_cVd hK dX12_goes_112 (Or.inl lm_X12_383) (As := [.long (J 101 n9), .int (I 102 n9)]) (S := []) rfl (sc_80 hs) (Nat.le_of_ble_eq_true rfl) (fit_0 rfl rfl) rfl hF (fun u12 I13 J14 hF => ?_)
    show K _ _ [] _ _ _
    refine k_goto hK dX12_goes_115 (tgt := 242) rfl ?_
    exact k_sub hK [2] rfl hF
  have hF := hF.2 h8
  refine swc (fun h15 => ?_) (fun h15 => ?_)
  · have hF := hF.1 h15
    refine k_ld hK 1 dX12_goes_118 rfl rfl rfl rfl ?_
    refine k_ld hK 0 dX12_goes_119 rfl rfl rfl rfl ?_
    refine k_ld hK 2 dX12_goes_120 rfl rfl rfl rfl ?_
    refine k_cVd hK dX12_goes_121 (Or.inl lm_X12_387) (As := [.int (I 87 n1), .int x1]) (S := []) rfl (sc_80 hs) (Nat.le_of_ble_eq_true rfl) (fit_0 rfl rfl) rfl hF (fun u16 I17 J18 hF => ?_)
    show K _ _ [] _ _ _
    refine k_goto hK dX12_goes_124 (tgt := 242) rfl ?_
    exact k_sub hK [2] rfl hF
  have hF := hF.2 h15
  refine swc (fun h19 => ?_) (fun h19 => ?_)
  · have hF := hF.1 h19
    refine k_ld hK 1 dX12_goes_237 rfl rfl rfl rfl ?_
    refine k_ld hK 2 dX12_goes_238 rfl rfl rfl rfl ?_
    refine k_cVd hK dX12_goes_239 (Or.inl lm_X12_401) (As := [.int x1]) (S := []) rfl (sc_80 hs) (Nat.le_of_ble_eq_true rfl) (fit_0 rfl rfl) rfl hF (fun u20 I21 J22 hF => ?_)
    show K _ _ [] _ _ _
    exact k_sub hK [2] rfl hF
  have hF := hF.2 h19
  refine swc (fun h23 => ?_) (fun h23 => ?_)
  · have hF := hF.1 h23
    refine k_ld hK 1 dX12_goes_237 rfl rfl rfl rfl ?_
    refine k_ld hK 2 dX12_goes_238 rfl rfl rfl rfl ?_
    refine k_cVd hK dX12_goes_239 (Or.inl lm_X12_401) (As := [.int x1]) (S := []) rfl (sc_80 hs) (Nat.le_of_ble_eq_true rfl) (fit_0 rfl rfl) rfl hF (fun u24 I25 J26 hF => ?_)
    show K _ _ [] _ _ _
    exact k_sub hK [2] rfl hF
  have hF := hF.2 h23
  refine swc (fun h27 => ?_) (fun h27 => ?_)
  · have hF := hF.1 h27
    refine k_ld hK 1 dX12_goes_237 rfl rfl rfl rfl ?_
    refine k_ld hK 2 dX12_goes_238 rfl rfl rfl rfl ?_
    refine k_cVd hK dX12_goes_239 (Or.inl lm_X12_401) (As := [.int x1]) (S := []) rfl (sc_80 hs) (Nat.le_of_ble_eq_true rfl) (fit_0 rfl rfl) rfl hF (fun u28 I29 J30 hF => ?_)
    show K _ _ [] _ _ _
    exact k_sub hK [2] rfl hF
  have hF := hF.2 h27
  refine swc (fun h31 => ?_) (fun h31 => ?_)
  · have hF := hF.1 h31
    refine k_ld hK 1 dX12_goes_237 rfl rfl rfl rfl ?_
    refine k_ld hK 2 dX12_goes_238 rfl rfl rfl rfl ?_
    refine k_cVd hK dX12_goes_239 (Or.inl lm_X12_401) (As := [.int x1]) (S := []) rfl (sc_80 hs) (Nat.le_of_ble_eq_true rfl) (fit_0 rfl rfl) rfl hF (fun u32 I33 J34 hF => ?_)
    show K _ _ [] _ _ _
    exact k_sub hK [2] rfl hF
  have hF := hF.2 h31
  refine swc (fun h35 => ?_) (fun h35 => ?_)
  · have hF := hF.1 h35
    refine k_ld hK 1 dX12_goes_127 rfl rfl rfl rfl ?_
    refine k_op hK dX12_goes_128 rfl rfl ?_
    refine k_gI hK dX12_goes_129 lf_X12_350 rfl (sc_80 hs) rfl ?_
    refine k_ic hK dX12_goes_132 ci_1 ?_
    refine k_op hK dX12_goes_133 rfl rfl ?_
    refine k_pI hK dX12_goes_134 lf_X12_350 rfl rfl rfl (sc_80 hs) ?_
    refine k_ld hK 1 dX12_goes_137 rfl rfl rfl rfl ?_
    refine k_gR hK dX12_goes_138 lf_X12_75 rfl (sc_80 hs) (sf_80_48 hs) ?_
    refine k_ld hK 0 dX12_goes_141 rfl rfl rfl rfl ?_
    refine k_ld hK 1 dX12_goes_142 rfl rfl rfl rfl ?_
    refine k_gR hK dX12_goes_143 lf_X12_69 rfl (sc_80 hs) (sf_80_45 hs) ?_
    refine k_ld hK 1 dX12_goes_146 rfl rfl rfl rfl ?_
    refine k_gI hK dX12_goes_147 lf_X12_350 rfl (sc_80 hs) up_s ?_
    obtain ⟨n36, i37, j38, hF⟩ := hF
    refine k_lald hK dX12_goes_150 (sc_99 hs) sn_99 (by decide) i37 j38 rfl ?_
    obtain ⟨n39, i40, j41, hF⟩ := hF
    refine k_last hK dX12_goes_151 (sc_101 hs) sn_101 (by decide) i40 j41 ?_
    refine k_ld hK 1 dX12_goes_152 rfl rfl rfl rfl ?_
    refine k_gR hK dX12_goes_153 lf_X12_78 rfl (sc_80 hs) (sf_80_49 hs) ?_
    refine k_ld hK 0 dX12_goes_156 rfl rfl rfl rfl ?_
    refine k_ld hK 1 dX12_goes_157 rfl rfl rfl rfl ?_
    refine k_gR hK dX12_goes_158 lf_X12_72 rfl (sc_80 hs) (sf_80_46 hs) ?_
    refine k_ld hK 1 dX12_goes_161 rfl rfl rfl rfl ?_
    refine k_gI hK dX12_goes_162 lf_X12_350 rfl (sc_80 hs) up_s ?_
    refine k_iald hK dX12_goes_165 (sc_100 hs) sn_100 (by decide) i37 j38 ((up_na (by decide)).trans rfl) ?_
    refine k_iast hK dX12_goes_166 (sc_102 hs) sn_102 (by decide) i40 j41 ?_
    refine k_goto hK dX12_goes_167 (tgt := 242) rfl ?_
    exact k_sub hK [2] rfl hF
  have hF := hF.2 h35
  refine swc (fun h42 => ?_) (fun h42 => ?_)
  · have hF := hF.1 h42
    refine k_ld hK 1 dX12_goes_170 rfl rfl rfl rfl ?_
    refine k_ld hK 0 dX12_goes_171 rfl rfl rfl rfl ?_
    refine k_ld hK 2 dX12_goes_172 rfl rfl rfl rfl ?_
    refine k_cVd hK dX12_goes_173 (Or.inl lm_X12_390) (As := [.int (I 87 n1), .int x1]) (S := []) rfl (sc_80 hs) (Nat.le_of_ble_eq_true rfl) (fit_0 rfl rfl) rfl hF (fun u43 I44 J45 hF => ?_)
    show K _ _ [] _ _ _
    refine k_goto hK dX12_goes_176 (tgt := 242) rfl ?_
    exact k_sub hK [2] rfl hF
  have hF := hF.2 h42
  refine swc (fun h46 => ?_) (fun h46 => ?_)
  · have hF := hF.1 h46
    refine k_ld hK 1 dX12_goes_179 rfl rfl rfl rfl ?_
    refine k_ld hK 2 dX12_goes_180 rfl rfl rfl rfl ?_
    refine k_cVd hK dX12_goes_181 (Or.inl lm_X12_393) (As := [.int x1]) (S := []) rfl (sc_80 hs) (Nat.le_of_ble_eq_true rfl) (fit_0 rfl rfl) rfl hF (fun u47 I48 J49 hF => ?_)
    show K _ _ [] _ _ _
    refine k_goto hK dX12_goes_184 (tgt := 242) rfl ?_
    exact k_sub hK [2] rfl hF
  have hF := hF.2 h46
  refine swc (fun h50 => ?_) (fun h50 => ?_)
  · have hF := hF.1 h50
    refine k_ld hK 1 dX12_goes_187 rfl rfl rfl rfl ?_
    refine k_gR hK dX12_goes_188 lf_X12_96 rfl (sc_80 hs) (sf_80_58 hs) ?_
    refine k_ld hK 2 dX12_goes_191 rfl rfl rfl rfl ?_
    refine k_ic hK dX12_goes_192 ci_0 ?_
    obtain ⟨c51, hF⟩ := hF
    refine k_iast hK dX12_goes_193 (sc_108 hs) sn_108 (by decide) i2 c51 ?_
    refine k_ld hK 1 dX12_goes_194 rfl rfl rfl rfl ?_
    refine k_gR hK dX12_goes_195 lf_X12_75 rfl (sc_80 hs) (sf_80_48 hs) ?_
    refine k_ld hK 0 dX12_goes_198 rfl rfl rfl rfl ?_
    refine k_lc hK dX12_goes_199 cl_0 ?_
    obtain ⟨n52, i53, j54, hF⟩ := hF
    refine k_last hK dX12_goes_200 (sc_101 hs) sn_101 (by decide) i53 j54 ?_
    refine k_ld hK 1 dX12_goes_201 rfl rfl rfl rfl ?_
    refine k_gR hK dX12_goes_202 lf_X12_78 rfl (sc_80 hs) (sf_80_49 hs) ?_
    refine k_ld hK 0 dX12_goes_205 rfl rfl rfl rfl ?_
    refine k_bi hK dX12_goes_206 cb_m2 ?_
    refine k_iast hK dX12_goes_208 (sc_102 hs) sn_102 (by decide) i53 j54 ?_
    refine k_goto hK dX12_goes_209 (tgt := 242) rfl ?_
    exact k_sub hK [2] rfl hF
  have hF := hF.2 h50
  refine swc (fun h55 => ?_) (fun h55 => ?_)
  · have hF := hF.1 h55
    refine k_ld hK 1 dX12_goes_212 rfl rfl rfl rfl ?_
    refine k_ld hK 0 dX12_goes_213 rfl rfl rfl rfl ?_
    refine k_ld hK 2 dX12_goes_214 rfl rfl rfl rfl ?_
    refine k_cVd hK dX12_goes_215 (Or.inl lm_X12_396) (As := [.int (I 87 n1), .int x1]) (S := []) rfl (sc_80 hs) (Nat.le_of_ble_eq_true rfl) (fit_0 rfl rfl) rfl hF (fun r56 I57 J58 hF => ?_)
    show K _ _ [.int r56] _ _ _
    exact k_iret hK dX12_goes_218 rfl rfl (done_0 rfl rfl) (qD_i hF)
  have hF := hF.2 h55
  refine swc (fun h59 => ?_) (fun h59 => ?_)
  · have hF := hF.1 h59
    refine k_ld hK 1 dX12_goes_219 rfl rfl rfl rfl ?_
    refine k_ld hK 2 dX12_goes_220 rfl rfl rfl rfl ?_
    refine k_cVc hK dX12_goes_221 (Or.inl lm_X12_399) (As := [.int x1]) (S := []) rfl (sc_80 hs) (Nat.le_of_ble_eq_true rfl) (fit_0 rfl rfl) rfl hF (fun b60 I61 hF => ?_)
    show K _ _ [.int (b2i b60)] _ _ _
    refine k_beq hK dX12_goes_224 (tgt := 233) rfl (fun h62 => ?_) (fun h62 => ?_)
    · have hF := hF.1 h62
      refine k_ld hK 0 dX12_goes_233 rfl rfl rfl rfl ?_
      exact k_iret hK dX12_goes_234 rfl rfl (done_0 rfl rfl) (qD_i hF)
    · have hF := hF.2 h62
      refine k_ld hK 2 dX12_goes_227 rfl rfl rfl rfl ?_
      refine k_ic hK dX12_goes_228 ci_1 ?_
      refine k_op hK dX12_goes_229 rfl rfl ?_
      refine k_goto hK dX12_goes_230 (tgt := 234) rfl ?_
      exact k_iret hK dX12_goes_234 rfl rfl (done_0 rfl rfl) (qD_i hF)
  have hF := hF.2 h59
  refine swc (fun h63 => ?_) (fun h63 => ?_)
  · have hF := hF.1 h63
    refine k_ld hK 1 dX12_goes_219 rfl rfl rfl rfl ?_
    refine k_ld hK 2 dX12_goes_220 rfl rfl rfl rfl ?_
    refine k_cVc hK dX12_goes_221 (Or.inl lm_X12_399) (As := [.int x1]) (S := []) rfl (sc_80 hs) (Nat.le_of_ble_eq_true rfl) (fit_0 rfl rfl) rfl hF (fun b64 I65 hF => ?_)
    show K _ _ [.int (b2i b64)] _ _ _
    refine k_beq hK dX12_goes_224 (tgt := 233) rfl (fun h66 => ?_) (fun h66 => ?_)
    · have hF := hF.1 h66
      refine k_ld hK 0 dX12_goes_233 rfl rfl rfl rfl ?_
      exact k_iret hK dX12_goes_234 rfl rfl (done_0 rfl rfl) (qD_i hF)
    · have hF := hF.2 h66
      refine k_ld hK 2 dX12_goes_227 rfl rfl rfl rfl ?_
      refine k_ic hK dX12_goes_228 ci_1 ?_
      refine k_op hK dX12_goes_229 rfl rfl ?_
      refine k_goto hK dX12_goes_230 (tgt := 234) rfl ?_
      exact k_iret hK dX12_goes_234 rfl rfl (done_0 rfl rfl) (qD_i hF)
  have hF := hF.2 h63
  refine swc (fun h67 => ?_) (fun h67 => ?_)
  · have hF := hF.1 h67
    refine k_ld hK 0 dX12_goes_235 rfl rfl rfl rfl ?_
    exact k_iret hK dX12_goes_236 rfl rfl (done_0 rfl rfl) (qD_i hF)
  have hF := hF.2 h67
  refine swn ?_
  refine k_ld hK 1 dX12_goes_237 rfl rfl rfl rfl ?_
  refine k_ld hK 2 dX12_goes_238 rfl rfl rfl rfl ?_
  refine k_cVd hK dX12_goes_239 (Or.inl lm_X12_401) (As := [.int x1]) (S := []) rfl (sc_80 hs) (Nat.le_of_ble_eq_true rfl) (fit_0 rfl rfl) rfl hF (fun u68 I69 J70 hF => ?_)
  show K _ _ [] _ _ _
  exact k_sub hK [2] rfl hF
set_option maxHeartbeats 4000000 in
theorem g_X12_goes_242 {d : Nat} {K : KT} {Q : Int32 → HI → HJ → Prop} {I : HI} {J : HJ} {R : HR} {x1 : Int32} (hK : am_R M_X12_goes (am_W d) none R (qD fi R Q) K) (hs : Stat R)  (hF : Q (x1 + 1) I J) : K 242 [(1, .int x1)] [] I J R := by
  refine k_ld hK 0 dX12_goes_242 rfl rfl rfl rfl ?_
  refine k_ic hK dX12_goes_243 ci_1 ?_
  refine k_op hK dX12_goes_244 rfl rfl ?_
  exact k_iret hK dX12_goes_245 rfl rfl (done_0 rfl rfl) (qD_i hF)
set_option maxHeartbeats 4000000 in
theorem g_X12_nextTo_0 {d : Nat} {K : KT} {Q : Int32 → HI → HJ → Prop} {I : HI} {J : HJ} {R : HR} {x1 : Int32} {x2 : Int32} (hK : am_R M_X12_nextTo (am_W d) none R (qD fi R Q) K) (hs : Stat R)  (hF : (∃ n1 : Nat, (x1 - 1) = nI n1 ∧ n1 < 1000 ∧ ((¬ ((I 108 n1) + 1) = (I 88 n1) → (∃ n5 : Nat, (I 87 n1) = nI n5 ∧ n5 < 8 ∧ Q x1 (up (up I 108 n1 ((I 108 n1) + 1)) 102 n5 (-2)) (up J 101 n5 (Int32.toInt64 ((I 108 n1) + 1))))) ∧ (((I 108 n1) + 1) = (I 88 n1) → Q (x2 + 1) (up I 108 n1 ((I 108 n1) + 1)) J)))) : K 0 [(0, .ref 80), (1, .int x1), (2, .int x2)] [] I J R := by
  refine k_ld hK 1 dX12_nextTo_0 rfl rfl rfl rfl ?_
  refine k_ic hK dX12_nextTo_1 ci_1 ?_
  refine k_op hK dX12_nextTo_2 rfl rfl ?_
  refine k_st hK dX12_nextTo_3 rfl rfl rfl (Nat.le_of_ble_eq_true rfl) rfl ?_
  refine k_ld hK 1 dX12_nextTo_4 rfl rfl rfl rfl ?_
  refine k_gR hK dX12_nextTo_5 lf_X12_96 rfl (sc_80 hs) (sf_80_58 hs) ?_
  refine k_ld hK 0 dX12_nextTo_8 rfl rfl rfl rfl ?_
  refine k_op hK dX12_nextTo_9 rfl rfl ?_
  obtain ⟨n1, i2, j3, hF⟩ := hF
  refine k_iald hK dX12_nextTo_10 (sc_108 hs) sn_108 (by decide) i2 j3 rfl ?_
  refine k_ic hK dX12_nextTo_11 ci_1 ?_
  refine k_op hK dX12_nextTo_12 rfl rfl ?_
  refine k_iast hK dX12_nextTo_13 (sc_108 hs) sn_108 (by decide) i2 j3 ?_
  refine k_ld hK 1 dX12_nextTo_14 rfl rfl rfl rfl ?_
  refine k_gR hK dX12_nextTo_15 lf_X12_96 rfl (sc_80 hs) (sf_80_58 hs) ?_
  refine k_ld hK 0 dX12_nextTo_18 rfl rfl rfl rfl ?_
  refine k_iald hK dX12_nextTo_19 (sc_108 hs) sn_108 (by decide) i2 j3 up_s ?_
  refine k_ld hK 1 dX12_nextTo_20 rfl rfl rfl rfl ?_
  refine k_gR hK dX12_nextTo_21 lf_X12_35 rfl (sc_80 hs) (sf_80_23 hs) ?_
  refine k_ld hK 0 dX12_nextTo_24 rfl rfl rfl rfl ?_
  refine k_iald hK dX12_nextTo_25 (sc_88 hs) sn_88 (by decide) i2 (Nat.lt_of_lt_of_le j3 (by decide)) ((up_na (by decide)).trans rfl) ?_
  refine k_cne hK dX12_nextTo_26 (tgt := 33) rfl (fun h4 => ?_) (fun h4 => ?_)
  · have hF := hF.1 h4
    refine k_ld hK 1 dX12_nextTo_33 rfl rfl rfl rfl ?_
    refine k_gR hK dX12_nextTo_34 lf_X12_75 rfl (sc_80 hs) (sf_80_48 hs) ?_
    refine k_ld hK 1 dX12_nextTo_37 rfl rfl rfl rfl ?_
    refine k_gR hK dX12_nextTo_38 lf_X12_32 rfl (sc_80 hs) (sf_80_22 hs) ?_
    refine k_ld hK 0 dX12_nextTo_41 rfl rfl rfl rfl ?_
    refine k_iald hK dX12_nextTo_42 (sc_87 hs) sn_87 (by decide) i2 (Nat.lt_of_lt_of_le j3 (by decide)) ((up_na (by decide)).trans rfl) ?_
    refine k_ld hK 1 dX12_nextTo_43 rfl rfl rfl rfl ?_
    refine k_gR hK dX12_nextTo_44 lf_X12_96 rfl (sc_80 hs) (sf_80_58 hs) ?_
    refine k_ld hK 0 dX12_nextTo_47 rfl rfl rfl rfl ?_
    refine k_iald hK dX12_nextTo_48 (sc_108 hs) sn_108 (by decide) i2 j3 up_s ?_
    refine k_op hK dX12_nextTo_49 rfl rfl ?_
    obtain ⟨n5, i6, j7, hF⟩ := hF
    refine k_last hK dX12_nextTo_50 (sc_101 hs) sn_101 (by decide) i6 j7 ?_
    refine k_ld hK 1 dX12_nextTo_51 rfl rfl rfl rfl ?_
    refine k_gR hK dX12_nextTo_52 lf_X12_78 rfl (sc_80 hs) (sf_80_49 hs) ?_
    refine k_ld hK 1 dX12_nextTo_55 rfl rfl rfl rfl ?_
    refine k_gR hK dX12_nextTo_56 lf_X12_32 rfl (sc_80 hs) (sf_80_22 hs) ?_
    refine k_ld hK 0 dX12_nextTo_59 rfl rfl rfl rfl ?_
    refine k_iald hK dX12_nextTo_60 (sc_87 hs) sn_87 (by decide) i2 (Nat.lt_of_lt_of_le j3 (by decide)) ((up_na (by decide)).trans rfl) ?_
    refine k_bi hK dX12_nextTo_61 cb_m2 ?_
    refine k_iast hK dX12_nextTo_63 (sc_102 hs) sn_102 (by decide) i6 j7 ?_
    refine k_ld hK 2 dX12_nextTo_64 rfl rfl rfl rfl ?_
    exact k_iret hK dX12_nextTo_65 rfl rfl (done_0 rfl rfl) (qD_i hF)
  · have hF := hF.2 h4
    refine k_ld hK 3 dX12_nextTo_29 rfl rfl rfl rfl ?_
    refine k_ic hK dX12_nextTo_30 ci_1 ?_
    refine k_op hK dX12_nextTo_31 rfl rfl ?_
    exact k_iret hK dX12_nextTo_32 rfl rfl (done_0 rfl rfl) (qD_i hF)
theorem e_X12_nextTo {d : Nat} {Q : Int32 → HI → HJ → Prop} {I : HI} {J : HJ} {R : HR} {x1 : Int32} {x2 : Int32} (hs : Stat R)  (hF : (∃ n1 : Nat, (x1 - 1) = nI n1 ∧ n1 < 1000 ∧ ((¬ ((I 108 n1) + 1) = (I 88 n1) → (∃ n5 : Nat, (I 87 n1) = nI n5 ∧ n5 < 8 ∧ Q x1 (up (up I 108 n1 ((I 108 n1) + 1)) 102 n5 (-2)) (up J 101 n5 (Int32.toInt64 ((I 108 n1) + 1))))) ∧ (((I 108 n1) + 1) = (I 88 n1) → Q (x2 + 1) (up I 108 n1 ((I 108 n1) + 1)) J)))) : Wd fi (d + 1) M_X12_nextTo [.ref 80, .int x1, .int x2] I J R Q := ⟨Nat.le_of_ble_eq_true rfl, fun K hK => g_X12_nextTo_0 hK hs hF⟩
set_option maxHeartbeats 4000000 in
theorem g_X12_tests_0 {d : Nat} {K : KT} {Q : Bool → HI → Prop} {I : HI} {J : HJ} {R : HR} {x1 : Int32} (hK : am_R M_X12_tests (am_W d) none R (qC fb J R Q) K) (hs : Stat R)  (hF : (∃ n1 : Nat, x1 = nI n1 ∧ n1 < 2000 ∧ ((¬ (I 86 n1) = 12 → (∃ n5 : Nat, ((I 80 47) - 2) = nI n5 ∧ n5 < 64 ∧ (∃ n8 : Nat, (((I 80 47) - 2) + 1) = nI n8 ∧ n8 < 64 ∧ ((¬ (J 99 n5) = (J 99 n8) → K 88 [(0, .ref 80)] [.int (b2i false)] (up I 80 47 ((I 80 47) - 2)) J R) ∧ ((J 99 n5) = (J 99 n8) → K 88 [(0, .ref 80)] [.int (b2i true)] (up I 80 47 ((I 80 47) - 2)) J R))))) ∧ ((I 86 n1) = 12 → (∃ n12 : Nat, ((I 80 47) - 2) = nI n12 ∧ n12 < 64 ∧ Wp fl d M_X12_signed [.long (J 99 n12)] (up I 80 47 ((I 80 47) - 2)) J R (fun r15 => (∃ n16 : Nat, (((I 80 47) - 2) + 1) = nI n16 ∧ n16 < 64 ∧ Wp fl d M_X12_signed [.long (J 99 n16)] (up I 80 47 ((I 80 47) - 2)) J R (fun r19 => ((r19 ≤ r15 → K 88 [(0, .ref 80)] [.int (b2i false)] (up I 80 47 ((I 80 47) - 2)) J R) ∧ (¬ r19 ≤ r15 → K 88 [(0, .ref 80)] [.int (b2i true)] (up I 80 47 ((I 80 47) - 2)) J R)))))))))) : K 0 [(0, .ref 80), (1, .int x1)] [] I J R := by
  refine k_ld hK 0 dX12_tests_0 rfl rfl rfl rfl ?_
  refine k_op hK dX12_tests_1 rfl rfl ?_
  refine k_gI hK dX12_tests_2 lf_X12_350 rfl (sc_80 hs) rfl ?_
  refine k_ic hK dX12_tests_5 ci_2 ?_
  refine k_op hK dX12_tests_6 rfl rfl ?_
  refine k_pI hK dX12_tests_7 lf_X12_350 rfl rfl rfl (sc_80 hs) ?_
  refine k_ld hK 0 dX12_tests_10 rfl rfl rfl rfl ?_
  refine k_gR hK dX12_tests_11 lf_X12_29 rfl (sc_80 hs) (sf_80_21 hs) ?_
  refine k_ld hK 1 dX12_tests_14 rfl rfl rfl rfl ?_
  obtain ⟨n1, i2, j3, hF⟩ := hF
  refine k_iald hK dX12_tests_15 (sc_86 hs) sn_86 (by decide) i2 j3 ((up_na (by decide)).trans rfl) ?_
  refine k_bi hK dX12_tests_16 cb_12 ?_
  refine k_cne hK dX12_tests_18 (tgt := 59) rfl (fun h4 => ?_) (fun h4 => ?_)
  · have hF := hF.1 h4
    refine k_ld hK 0 dX12_tests_59 rfl rfl rfl rfl ?_
    refine k_gR hK dX12_tests_60 lf_X12_69 rfl (sc_80 hs) (sf_80_45 hs) ?_
    refine k_ld hK 0 dX12_tests_63 rfl rfl rfl rfl ?_
    refine k_gI hK dX12_tests_64 lf_X12_350 rfl (sc_80 hs) up_s ?_
    obtain ⟨n5, i6, j7, hF⟩ := hF
    refine k_lald hK dX12_tests_67 (sc_99 hs) sn_99 (by decide) i6 j7 rfl ?_
    refine k_ld hK 0 dX12_tests_68 rfl rfl rfl rfl ?_
    refine k_gR hK dX12_tests_69 lf_X12_69 rfl (sc_80 hs) (sf_80_45 hs) ?_
    refine k_ld hK 0 dX12_tests_72 rfl rfl rfl rfl ?_
    refine k_gI hK dX12_tests_73 lf_X12_350 rfl (sc_80 hs) up_s ?_
    refine k_ic hK dX12_tests_76 ci_1 ?_
    refine k_op hK dX12_tests_77 rfl rfl ?_
    obtain ⟨n8, i9, j10, hF⟩ := hF
    refine k_lald hK dX12_tests_78 (sc_99 hs) sn_99 (by decide) i9 j10 rfl ?_
    refine k_lne hK dX12_tests_79 dX12_tests_80 (tgt := 87) rfl (fun h11 => ?_) (fun h11 => ?_)
    · have hF := hF.1 h11
      refine k_ic hK dX12_tests_87 ci_0 ?_
      exact k_sub hK [0] rfl hF
    · have hF := hF.2 h11
      refine k_ic hK dX12_tests_83 ci_1 ?_
      refine k_goto hK dX12_tests_84 (tgt := 88) rfl ?_
      exact k_sub hK [0] rfl hF
  · have hF := hF.2 h4
    refine k_ld hK 0 dX12_tests_21 rfl rfl rfl rfl ?_
    refine k_gR hK dX12_tests_22 lf_X12_69 rfl (sc_80 hs) (sf_80_45 hs) ?_
    refine k_ld hK 0 dX12_tests_25 rfl rfl rfl rfl ?_
    refine k_gI hK dX12_tests_26 lf_X12_350 rfl (sc_80 hs) up_s ?_
    obtain ⟨n12, i13, j14, hF⟩ := hF
    refine k_lald hK dX12_tests_29 (sc_99 hs) sn_99 (by decide) i13 j14 rfl ?_
    refine k_cSp hK dX12_tests_30 lm_X12_404 (As := [.long (J 99 n12)]) (S := []) rfl (Nat.le_of_ble_eq_true rfl) (fit_0 rfl rfl) rfl hF (fun r15 hF => ?_)
    show K _ _ [.long r15] _ _ _
    refine k_ld hK 0 dX12_tests_33 rfl rfl rfl rfl ?_
    refine k_gR hK dX12_tests_34 lf_X12_69 rfl (sc_80 hs) (sf_80_45 hs) ?_
    refine k_ld hK 0 dX12_tests_37 rfl rfl rfl rfl ?_
    refine k_gI hK dX12_tests_38 lf_X12_350 rfl (sc_80 hs) up_s ?_
    refine k_ic hK dX12_tests_41 ci_1 ?_
    refine k_op hK dX12_tests_42 rfl rfl ?_
    obtain ⟨n16, i17, j18, hF⟩ := hF
    refine k_lald hK dX12_tests_43 (sc_99 hs) sn_99 (by decide) i17 j18 rfl ?_
    refine k_cSp hK dX12_tests_44 lm_X12_404 (As := [.long (J 99 n16)]) (S := [.long r15]) rfl (Nat.le_of_ble_eq_true rfl) (fit_0 rfl rfl) rfl hF (fun r19 hF => ?_)
    show K _ _ [.long r19, .long r15] _ _ _
    refine k_lge hK dX12_tests_47 dX12_tests_48 (tgt := 55) rfl (fun h20 => ?_) (fun h20 => ?_)
    · have hF := hF.1 h20
      refine k_ic hK dX12_tests_55 ci_0 ?_
      refine k_goto hK dX12_tests_56 (tgt := 88) rfl ?_
      exact k_sub hK [0] rfl hF
    · have hF := hF.2 h20
      refine k_ic hK dX12_tests_51 ci_1 ?_
      refine k_goto hK dX12_tests_52 (tgt := 88) rfl ?_
      exact k_sub hK [0] rfl hF
set_option maxHeartbeats 4000000 in
theorem g_X12_tests_88 {d : Nat} {K : KT} {Q : Bool → HI → Prop} {I : HI} {J : HJ} {R : HR} {v0 : Bool} (hK : am_R M_X12_tests (am_W d) none R (qC fb J R Q) K) (hs : Stat R)  (hF : ((v0 = false → (∃ n2 : Nat, (I 80 56) = nI n2 ∧ n2 < 3000 ∧ ((v0 = false → Q v0 (up (up (up I 107 n2 0) 80 56 ((I 80 56) + 1)) 80 57 ((I 80 57) + 0))) ∧ (v0 = true → Q v0 (up (up (up I 107 n2 0) 80 56 ((I 80 56) + 1)) 80 57 ((I 80 57) + 1)))))) ∧ (v0 = true → (∃ n6 : Nat, (I 80 56) = nI n6 ∧ n6 < 3000 ∧ ((v0 = false → Q v0 (up (up (up I 107 n6 1) 80 56 ((I 80 56) + 1)) 80 57 ((I 80 57) + 0))) ∧ (v0 = true → Q v0 (up (up (up I 107 n6 1) 80 56 ((I 80 56) + 1)) 80 57 ((I 80 57) + 1)))))))) : K 88 [(0, .ref 80)] [.int (b2i v0)] I J R := by
  refine k_st hK dX12_tests_88 rfl rfl rfl (Nat.le_of_ble_eq_true rfl) rfl ?_
  refine k_ld hK 1 dX12_tests_89 rfl rfl rfl rfl ?_
  refine k_gR hK dX12_tests_90 lf_X12_93 rfl (sc_80 hs) (sf_80_55 hs) ?_
  refine k_ld hK 1 dX12_tests_93 rfl rfl rfl rfl ?_
  refine k_gI hK dX12_tests_94 lf_X12_359 rfl (sc_80 hs) rfl ?_
  refine k_ld hK 0 dX12_tests_97 rfl rfl rfl rfl ?_
  refine k_beq hK dX12_tests_98 (tgt := 105) rfl (fun h1 => ?_) (fun h1 => ?_)
  · have hF := hF.1 h1
    refine k_ic hK dX12_tests_105 ci_0 ?_
    obtain ⟨n2, i3, j4, hF⟩ := hF
    refine k_iast hK dX12_tests_106 (sc_107 hs) sn_107 (by decide) i3 j4 ?_
    refine k_ld hK 1 dX12_tests_107 rfl rfl rfl rfl ?_
    refine k_op hK dX12_tests_108 rfl rfl ?_
    refine k_gI hK dX12_tests_109 lf_X12_359 rfl (sc_80 hs) ((up_na (by decide)).trans rfl) ?_
    refine k_ic hK dX12_tests_112 ci_1 ?_
    refine k_op hK dX12_tests_113 rfl rfl ?_
    refine k_pI hK dX12_tests_114 lf_X12_359 rfl rfl rfl (sc_80 hs) ?_
    refine k_ld hK 1 dX12_tests_117 rfl rfl rfl rfl ?_
    refine k_op hK dX12_tests_118 rfl rfl ?_
    refine k_gI hK dX12_tests_119 lf_X12_362 rfl (sc_80 hs) ((up_nk (by decide)).trans ((up_na (by decide)).trans rfl)) ?_
    refine k_ld hK 0 dX12_tests_122 rfl rfl rfl rfl ?_
    refine k_beq hK dX12_tests_123 (tgt := 130) rfl (fun h5 => ?_) (fun h5 => ?_)
    · have hF := hF.1 h5
      refine k_ic hK dX12_tests_130 ci_0 ?_
      refine k_op hK dX12_tests_131 rfl rfl ?_
      refine k_pI hK dX12_tests_132 lf_X12_362 rfl rfl rfl (sc_80 hs) ?_
      refine k_ld hK 0 dX12_tests_135 rfl rfl rfl rfl ?_
      exact k_iret (x := b2i v0) hK dX12_tests_136 rfl (b2i_nar _) (done_0 rfl rfl) (qC_i hF)
    · have hF := hF.2 h5
      refine k_ic hK dX12_tests_126 ci_1 ?_
      refine k_goto hK dX12_tests_127 (tgt := 131) rfl ?_
      refine k_op hK dX12_tests_131 rfl rfl ?_
      refine k_pI hK dX12_tests_132 lf_X12_362 rfl rfl rfl (sc_80 hs) ?_
      refine k_ld hK 0 dX12_tests_135 rfl rfl rfl rfl ?_
      exact k_iret (x := b2i v0) hK dX12_tests_136 rfl (b2i_nar _) (done_0 rfl rfl) (qC_i hF)
  · have hF := hF.2 h1
    refine k_ic hK dX12_tests_101 ci_1 ?_
    refine k_goto hK dX12_tests_102 (tgt := 106) rfl ?_
    obtain ⟨n6, i7, j8, hF⟩ := hF
    refine k_iast hK dX12_tests_106 (sc_107 hs) sn_107 (by decide) i7 j8 ?_
    refine k_ld hK 1 dX12_tests_107 rfl rfl rfl rfl ?_
    refine k_op hK dX12_tests_108 rfl rfl ?_
    refine k_gI hK dX12_tests_109 lf_X12_359 rfl (sc_80 hs) ((up_na (by decide)).trans rfl) ?_
    refine k_ic hK dX12_tests_112 ci_1 ?_
    refine k_op hK dX12_tests_113 rfl rfl ?_
    refine k_pI hK dX12_tests_114 lf_X12_359 rfl rfl rfl (sc_80 hs) ?_
    refine k_ld hK 1 dX12_tests_117 rfl rfl rfl rfl ?_
    refine k_op hK dX12_tests_118 rfl rfl ?_
    refine k_gI hK dX12_tests_119 lf_X12_362 rfl (sc_80 hs) ((up_nk (by decide)).trans ((up_na (by decide)).trans rfl)) ?_
    refine k_ld hK 0 dX12_tests_122 rfl rfl rfl rfl ?_
    refine k_beq hK dX12_tests_123 (tgt := 130) rfl (fun h9 => ?_) (fun h9 => ?_)
    · have hF := hF.1 h9
      refine k_ic hK dX12_tests_130 ci_0 ?_
      refine k_op hK dX12_tests_131 rfl rfl ?_
      refine k_pI hK dX12_tests_132 lf_X12_362 rfl rfl rfl (sc_80 hs) ?_
      refine k_ld hK 0 dX12_tests_135 rfl rfl rfl rfl ?_
      exact k_iret (x := b2i v0) hK dX12_tests_136 rfl (b2i_nar _) (done_0 rfl rfl) (qC_i hF)
    · have hF := hF.2 h9
      refine k_ic hK dX12_tests_126 ci_1 ?_
      refine k_goto hK dX12_tests_127 (tgt := 131) rfl ?_
      refine k_op hK dX12_tests_131 rfl rfl ?_
      refine k_pI hK dX12_tests_132 lf_X12_362 rfl rfl rfl (sc_80 hs) ?_
      refine k_ld hK 0 dX12_tests_135 rfl rfl rfl rfl ?_
      exact k_iret (x := b2i v0) hK dX12_tests_136 rfl (b2i_nar _) (done_0 rfl rfl) (qC_i hF)
set_option maxHeartbeats 4000000 in
theorem g_X12_fetches_0 {d : Nat} {K : KT} {Q : Unit → HI → HJ → Prop} {I : HI} {J : HJ} {R : HR} {x1 : Int32} {x2 : Int32} (hK : am_R M_X12_fetches (am_W d) none R (qD fv R Q) K) (hs : Stat R)  (hF : (∃ n1 : Nat, ((I 80 47) - 1) = nI n1 ∧ n1 < 64 ∧ (∃ n4 : Nat, x1 = nI n4 ∧ n4 < 12 ∧ (((J 99 n1) < (Int32.toInt64 (I 85 n4)) → (∃ n8 : Nat, ((I 84 n4) + (Int64.toInt32 (J 99 n1))) = nI n8 ∧ n8 < 48 ∧ Q () (up I 100 n1 (I 104 n8)) (up J 99 n1 (J 103 n8)))) ∧ (¬ (J 99 n1) < (Int32.toInt64 (I 85 n4)) → Wc fv d M_X12_stops [.ref 80, .int 2, .int x2] I J R (fun u11 I12 => Q () I12 J)))))) : K 0 [(0, .ref 80), (1, .int x1), (2, .int x2)] [] I J R := by
  refine k_ld hK 0 dX12_fetches_0 rfl rfl rfl rfl ?_
  refine k_gR hK dX12_fetches_1 lf_X12_69 rfl (sc_80 hs) (sf_80_45 hs) ?_
  refine k_ld hK 0 dX12_fetches_4 rfl rfl rfl rfl ?_
  refine k_gI hK dX12_fetches_5 lf_X12_350 rfl (sc_80 hs) rfl ?_
  refine k_ic hK dX12_fetches_8 ci_1 ?_
  refine k_op hK dX12_fetches_9 rfl rfl ?_
  obtain ⟨n1, i2, j3, hF⟩ := hF
  refine k_lald hK dX12_fetches_10 (sc_99 hs) sn_99 (by decide) i2 j3 rfl ?_
  refine k_st hK dX12_fetches_11 rfl rfl rfl (Nat.le_of_ble_eq_true rfl) rfl ?_
  refine k_ld hK 0 dX12_fetches_12 rfl rfl rfl rfl ?_
  refine k_ld hK 1 dX12_fetches_13 rfl rfl rfl rfl ?_
  refine k_gR hK dX12_fetches_14 lf_X12_26 rfl (sc_80 hs) (sf_80_18 hs) ?_
  refine k_ld hK 2 dX12_fetches_17 rfl rfl rfl rfl ?_
  obtain ⟨n4, i5, j6, hF⟩ := hF
  refine k_iald hK dX12_fetches_18 (sc_85 hs) sn_85 (by decide) i5 j6 rfl ?_
  refine k_op hK dX12_fetches_19 rfl rfl ?_
  refine k_llt hK dX12_fetches_20 dX12_fetches_21 (tgt := 31) rfl (fun h7 => ?_) (fun h7 => ?_)
  · have hF := hF.1 h7
    refine k_ld hK 1 dX12_fetches_31 rfl rfl rfl rfl ?_
    refine k_gR hK dX12_fetches_32 lf_X12_23 rfl (sc_80 hs) (sf_80_17 hs) ?_
    refine k_ld hK 2 dX12_fetches_35 rfl rfl rfl rfl ?_
    refine k_iald hK dX12_fetches_36 (sc_84 hs) sn_84 (by decide) i5 j6 rfl ?_
    refine k_ld hK 0 dX12_fetches_37 rfl rfl rfl rfl ?_
    refine k_op hK dX12_fetches_38 rfl rfl ?_
    refine k_op hK dX12_fetches_39 rfl rfl ?_
    refine k_st hK dX12_fetches_40 rfl rfl rfl (Nat.le_of_ble_eq_true rfl) rfl ?_
    refine k_ld hK 2 dX12_fetches_42 rfl rfl rfl rfl ?_
    refine k_gR hK dX12_fetches_43 lf_X12_69 rfl (sc_80 hs) (sf_80_45 hs) ?_
    refine k_ld hK 2 dX12_fetches_46 rfl rfl rfl rfl ?_
    refine k_gI hK dX12_fetches_47 lf_X12_350 rfl (sc_80 hs) rfl ?_
    refine k_ic hK dX12_fetches_50 ci_1 ?_
    refine k_op hK dX12_fetches_51 rfl rfl ?_
    refine k_ld hK 2 dX12_fetches_52 rfl rfl rfl rfl ?_
    refine k_gR hK dX12_fetches_53 lf_X12_81 rfl (sc_80 hs) (sf_80_50 hs) ?_
    refine k_ld hK 0 dX12_fetches_56 rfl rfl rfl rfl ?_
    obtain ⟨n8, i9, j10, hF⟩ := hF
    refine k_lald hK dX12_fetches_58 (sc_103 hs) sn_103 (by decide) i9 j10 rfl ?_
    refine k_last hK dX12_fetches_59 (sc_99 hs) sn_99 (by decide) i2 j3 ?_
    refine k_ld hK 2 dX12_fetches_60 rfl rfl rfl rfl ?_
    refine k_gR hK dX12_fetches_61 lf_X12_72 rfl (sc_80 hs) (sf_80_46 hs) ?_
    refine k_ld hK 2 dX12_fetches_64 rfl rfl rfl rfl ?_
    refine k_gI hK dX12_fetches_65 lf_X12_350 rfl (sc_80 hs) rfl ?_
    refine k_ic hK dX12_fetches_68 ci_1 ?_
    refine k_op hK dX12_fetches_69 rfl rfl ?_
    refine k_ld hK 2 dX12_fetches_70 rfl rfl rfl rfl ?_
    refine k_gR hK dX12_fetches_71 lf_X12_84 rfl (sc_80 hs) (sf_80_51 hs) ?_
    refine k_ld hK 0 dX12_fetches_74 rfl rfl rfl rfl ?_
    refine k_iald hK dX12_fetches_76 (sc_104 hs) sn_104 (by decide) i9 j10 rfl ?_
    refine k_iast hK dX12_fetches_77 (sc_100 hs) sn_100 (by decide) i2 j3 ?_
    exact k_vret hK dX12_fetches_78 rfl (done_0 rfl rfl) (qD_i hF)
  · have hF := hF.2 h7
    refine k_ld hK 1 dX12_fetches_24 rfl rfl rfl rfl ?_
    refine k_ic hK dX12_fetches_25 ci_2 ?_
    refine k_ld hK 3 dX12_fetches_26 rfl rfl rfl rfl ?_
    refine k_cVc hK dX12_fetches_27 (Or.inl lm_X12_377) (As := [.int 2, .int x2]) (S := []) rfl (sc_80 hs) (Nat.le_of_ble_eq_true rfl) (fit_0 rfl rfl) rfl hF (fun u11 I12 hF => ?_)
    show K _ _ [] _ _ _
    exact k_vret hK dX12_fetches_30 rfl (done_0 rfl rfl) (qD_i hF)
theorem e_X12_fetches {d : Nat} {Q : Unit → HI → HJ → Prop} {I : HI} {J : HJ} {R : HR} {x1 : Int32} {x2 : Int32} (hs : Stat R)  (hF : (∃ n1 : Nat, ((I 80 47) - 1) = nI n1 ∧ n1 < 64 ∧ (∃ n4 : Nat, x1 = nI n4 ∧ n4 < 12 ∧ (((J 99 n1) < (Int32.toInt64 (I 85 n4)) → (∃ n8 : Nat, ((I 84 n4) + (Int64.toInt32 (J 99 n1))) = nI n8 ∧ n8 < 48 ∧ Q () (up I 100 n1 (I 104 n8)) (up J 99 n1 (J 103 n8)))) ∧ (¬ (J 99 n1) < (Int32.toInt64 (I 85 n4)) → Wc fv d M_X12_stops [.ref 80, .int 2, .int x2] I J R (fun u11 I12 => Q () I12 J)))))) : Wd fv (d + 1) M_X12_fetches [.ref 80, .int x1, .int x2] I J R Q := ⟨Nat.le_of_ble_eq_true rfl, fun K hK => g_X12_fetches_0 hK hs hF⟩
set_option maxHeartbeats 4000000 in
theorem g_X12_puts_0 {d : Nat} {K : KT} {Q : Unit → HI → HJ → Prop} {I : HI} {J : HJ} {R : HR} {x1 : Int32} {x2 : Int32} (hK : am_R M_X12_puts (am_W d) none R (qD fv R Q) K) (hs : Stat R)  (hF : (∃ n1 : Nat, ((I 80 47) - 2) = nI n1 ∧ n1 < 64 ∧ (∃ n4 : Nat, x1 = nI n4 ∧ n4 < 12 ∧ (((J 99 n1) < (Int32.toInt64 (I 85 n4)) → (∃ n8 : Nat, ((I 80 47) - 1) = nI n8 ∧ n8 < 64 ∧ (∃ n11 : Nat, ((I 84 n4) + (Int64.toInt32 (J 99 n1))) = nI n11 ∧ n11 < 48 ∧ Q () (up (up I 104 n11 (I 100 n8)) 80 47 ((I 80 47) - 2)) (up J 103 n11 (J 99 n8))))) ∧ (¬ (J 99 n1) < (Int32.toInt64 (I 85 n4)) → Wc fv d M_X12_stops [.ref 80, .int 2, .int x2] I J R (fun u14 I15 => Q () I15 J)))))) : K 0 [(0, .ref 80), (1, .int x1), (2, .int x2)] [] I J R := by
  refine k_ld hK 0 dX12_puts_0 rfl rfl rfl rfl ?_
  refine k_gR hK dX12_puts_1 lf_X12_69 rfl (sc_80 hs) (sf_80_45 hs) ?_
  refine k_ld hK 0 dX12_puts_4 rfl rfl rfl rfl ?_
  refine k_gI hK dX12_puts_5 lf_X12_350 rfl (sc_80 hs) rfl ?_
  refine k_ic hK dX12_puts_8 ci_2 ?_
  refine k_op hK dX12_puts_9 rfl rfl ?_
  obtain ⟨n1, i2, j3, hF⟩ := hF
  refine k_lald hK dX12_puts_10 (sc_99 hs) sn_99 (by decide) i2 j3 rfl ?_
  refine k_st hK dX12_puts_11 rfl rfl rfl (Nat.le_of_ble_eq_true rfl) rfl ?_
  refine k_ld hK 0 dX12_puts_12 rfl rfl rfl rfl ?_
  refine k_ld hK 1 dX12_puts_13 rfl rfl rfl rfl ?_
  refine k_gR hK dX12_puts_14 lf_X12_26 rfl (sc_80 hs) (sf_80_18 hs) ?_
  refine k_ld hK 2 dX12_puts_17 rfl rfl rfl rfl ?_
  obtain ⟨n4, i5, j6, hF⟩ := hF
  refine k_iald hK dX12_puts_18 (sc_85 hs) sn_85 (by decide) i5 j6 rfl ?_
  refine k_op hK dX12_puts_19 rfl rfl ?_
  refine k_llt hK dX12_puts_20 dX12_puts_21 (tgt := 31) rfl (fun h7 => ?_) (fun h7 => ?_)
  · have hF := hF.1 h7
    refine k_ld hK 1 dX12_puts_31 rfl rfl rfl rfl ?_
    refine k_gR hK dX12_puts_32 lf_X12_23 rfl (sc_80 hs) (sf_80_17 hs) ?_
    refine k_ld hK 2 dX12_puts_35 rfl rfl rfl rfl ?_
    refine k_iald hK dX12_puts_36 (sc_84 hs) sn_84 (by decide) i5 j6 rfl ?_
    refine k_ld hK 0 dX12_puts_37 rfl rfl rfl rfl ?_
    refine k_op hK dX12_puts_38 rfl rfl ?_
    refine k_op hK dX12_puts_39 rfl rfl ?_
    refine k_st hK dX12_puts_40 rfl rfl rfl (Nat.le_of_ble_eq_true rfl) rfl ?_
    refine k_ld hK 2 dX12_puts_42 rfl rfl rfl rfl ?_
    refine k_gR hK dX12_puts_43 lf_X12_81 rfl (sc_80 hs) (sf_80_50 hs) ?_
    refine k_ld hK 0 dX12_puts_46 rfl rfl rfl rfl ?_
    refine k_ld hK 2 dX12_puts_48 rfl rfl rfl rfl ?_
    refine k_gR hK dX12_puts_49 lf_X12_69 rfl (sc_80 hs) (sf_80_45 hs) ?_
    refine k_ld hK 2 dX12_puts_52 rfl rfl rfl rfl ?_
    refine k_gI hK dX12_puts_53 lf_X12_350 rfl (sc_80 hs) rfl ?_
    refine k_ic hK dX12_puts_56 ci_1 ?_
    refine k_op hK dX12_puts_57 rfl rfl ?_
    obtain ⟨n8, i9, j10, hF⟩ := hF
    refine k_lald hK dX12_puts_58 (sc_99 hs) sn_99 (by decide) i9 j10 rfl ?_
    obtain ⟨n11, i12, j13, hF⟩ := hF
    refine k_last hK dX12_puts_59 (sc_103 hs) sn_103 (by decide) i12 j13 ?_
    refine k_ld hK 2 dX12_puts_60 rfl rfl rfl rfl ?_
    refine k_gR hK dX12_puts_61 lf_X12_84 rfl (sc_80 hs) (sf_80_51 hs) ?_
    refine k_ld hK 0 dX12_puts_64 rfl rfl rfl rfl ?_
    refine k_ld hK 2 dX12_puts_66 rfl rfl rfl rfl ?_
    refine k_gR hK dX12_puts_67 lf_X12_72 rfl (sc_80 hs) (sf_80_46 hs) ?_
    refine k_ld hK 2 dX12_puts_70 rfl rfl rfl rfl ?_
    refine k_gI hK dX12_puts_71 lf_X12_350 rfl (sc_80 hs) rfl ?_
    refine k_ic hK dX12_puts_74 ci_1 ?_
    refine k_op hK dX12_puts_75 rfl rfl ?_
    refine k_iald hK dX12_puts_76 (sc_100 hs) sn_100 (by decide) i9 j10 rfl ?_
    refine k_iast hK dX12_puts_77 (sc_104 hs) sn_104 (by decide) i12 j13 ?_
    refine k_ld hK 2 dX12_puts_78 rfl rfl rfl rfl ?_
    refine k_op hK dX12_puts_79 rfl rfl ?_
    refine k_gI hK dX12_puts_80 lf_X12_350 rfl (sc_80 hs) ((up_na (by decide)).trans rfl) ?_
    refine k_ic hK dX12_puts_83 ci_2 ?_
    refine k_op hK dX12_puts_84 rfl rfl ?_
    refine k_pI hK dX12_puts_85 lf_X12_350 rfl rfl rfl (sc_80 hs) ?_
    exact k_vret hK dX12_puts_88 rfl (done_0 rfl rfl) (qD_i hF)
  · have hF := hF.2 h7
    refine k_ld hK 1 dX12_puts_24 rfl rfl rfl rfl ?_
    refine k_ic hK dX12_puts_25 ci_2 ?_
    refine k_ld hK 3 dX12_puts_26 rfl rfl rfl rfl ?_
    refine k_cVc hK dX12_puts_27 (Or.inl lm_X12_377) (As := [.int 2, .int x2]) (S := []) rfl (sc_80 hs) (Nat.le_of_ble_eq_true rfl) (fit_0 rfl rfl) rfl hF (fun u14 I15 hF => ?_)
    show K _ _ [] _ _ _
    exact k_vret hK dX12_puts_30 rfl (done_0 rfl rfl) (qD_i hF)
theorem e_X12_puts {d : Nat} {Q : Unit → HI → HJ → Prop} {I : HI} {J : HJ} {R : HR} {x1 : Int32} {x2 : Int32} (hs : Stat R)  (hF : (∃ n1 : Nat, ((I 80 47) - 2) = nI n1 ∧ n1 < 64 ∧ (∃ n4 : Nat, x1 = nI n4 ∧ n4 < 12 ∧ (((J 99 n1) < (Int32.toInt64 (I 85 n4)) → (∃ n8 : Nat, ((I 80 47) - 1) = nI n8 ∧ n8 < 64 ∧ (∃ n11 : Nat, ((I 84 n4) + (Int64.toInt32 (J 99 n1))) = nI n11 ∧ n11 < 48 ∧ Q () (up (up I 104 n11 (I 100 n8)) 80 47 ((I 80 47) - 2)) (up J 103 n11 (J 99 n8))))) ∧ (¬ (J 99 n1) < (Int32.toInt64 (I 85 n4)) → Wc fv d M_X12_stops [.ref 80, .int 2, .int x2] I J R (fun u14 I15 => Q () I15 J)))))) : Wd fv (d + 1) M_X12_puts [.ref 80, .int x1, .int x2] I J R Q := ⟨Nat.le_of_ble_eq_true rfl, fun K hK => g_X12_puts_0 hK hs hF⟩
set_option maxHeartbeats 4000000 in
theorem g_X12_tellsOut_0 {d : Nat} {K : KT} {Q : Unit → HI → HJ → Prop} {I : HI} {J : HJ} {R : HR} {x1 : Int32} (hK : am_R M_X12_tellsOut (am_W d) none R (qD fv R Q) K) (hs : Stat R)  (hF : ((¬ (I 80 54) = 20 → (∃ n2 : Nat, ((I 80 47) - 1) = nI n2 ∧ n2 < 64 ∧ (∃ n5 : Nat, (I 80 54) = nI n5 ∧ n5 < 20 ∧ Q () (up (up (up I 80 47 ((I 80 47) - 1)) 106 n5 (I 100 n2)) 80 54 ((I 80 54) + 1)) (up J 105 n5 (J 99 n2))))) ∧ ((I 80 54) = 20 → Wc fv d M_X12_stops [.ref 80, .int 5, .int x1] I J R (fun u8 I9 => Q () I9 J)))) : K 0 [(0, .ref 80), (1, .int x1)] [] I J R := by
  refine k_ld hK 0 dX12_tellsOut_0 rfl rfl rfl rfl ?_
  refine k_gI hK dX12_tellsOut_1 lf_X12_356 rfl (sc_80 hs) rfl ?_
  refine k_bi hK dX12_tellsOut_4 cb_20 ?_
  refine k_cne hK dX12_tellsOut_6 (tgt := 16) rfl (fun h1 => ?_) (fun h1 => ?_)
  · have hF := hF.1 h1
    refine k_ld hK 0 dX12_tellsOut_16 rfl rfl rfl rfl ?_
    refine k_op hK dX12_tellsOut_17 rfl rfl ?_
    refine k_gI hK dX12_tellsOut_18 lf_X12_350 rfl (sc_80 hs) rfl ?_
    refine k_ic hK dX12_tellsOut_21 ci_1 ?_
    refine k_op hK dX12_tellsOut_22 rfl rfl ?_
    refine k_pI hK dX12_tellsOut_23 lf_X12_350 rfl rfl rfl (sc_80 hs) ?_
    refine k_ld hK 0 dX12_tellsOut_26 rfl rfl rfl rfl ?_
    refine k_gR hK dX12_tellsOut_27 lf_X12_87 rfl (sc_80 hs) (sf_80_52 hs) ?_
    refine k_ld hK 0 dX12_tellsOut_30 rfl rfl rfl rfl ?_
    refine k_gI hK dX12_tellsOut_31 lf_X12_356 rfl (sc_80 hs) ((up_nk (by decide)).trans rfl) ?_
    refine k_ld hK 0 dX12_tellsOut_34 rfl rfl rfl rfl ?_
    refine k_gR hK dX12_tellsOut_35 lf_X12_69 rfl (sc_80 hs) (sf_80_45 hs) ?_
    refine k_ld hK 0 dX12_tellsOut_38 rfl rfl rfl rfl ?_
    refine k_gI hK dX12_tellsOut_39 lf_X12_350 rfl (sc_80 hs) up_s ?_
    obtain ⟨n2, i3, j4, hF⟩ := hF
    refine k_lald hK dX12_tellsOut_42 (sc_99 hs) sn_99 (by decide) i3 j4 rfl ?_
    obtain ⟨n5, i6, j7, hF⟩ := hF
    refine k_last hK dX12_tellsOut_43 (sc_105 hs) sn_105 (by decide) i6 j7 ?_
    refine k_ld hK 0 dX12_tellsOut_44 rfl rfl rfl rfl ?_
    refine k_gR hK dX12_tellsOut_45 lf_X12_90 rfl (sc_80 hs) (sf_80_53 hs) ?_
    refine k_ld hK 0 dX12_tellsOut_48 rfl rfl rfl rfl ?_
    refine k_gI hK dX12_tellsOut_49 lf_X12_356 rfl (sc_80 hs) ((up_nk (by decide)).trans rfl) ?_
    refine k_ld hK 0 dX12_tellsOut_52 rfl rfl rfl rfl ?_
    refine k_gR hK dX12_tellsOut_53 lf_X12_72 rfl (sc_80 hs) (sf_80_46 hs) ?_
    refine k_ld hK 0 dX12_tellsOut_56 rfl rfl rfl rfl ?_
    refine k_gI hK dX12_tellsOut_57 lf_X12_350 rfl (sc_80 hs) up_s ?_
    refine k_iald hK dX12_tellsOut_60 (sc_100 hs) sn_100 (by decide) i3 j4 ((up_na (by decide)).trans rfl) ?_
    refine k_iast hK dX12_tellsOut_61 (sc_106 hs) sn_106 (by decide) i6 j7 ?_
    refine k_ld hK 0 dX12_tellsOut_62 rfl rfl rfl rfl ?_
    refine k_op hK dX12_tellsOut_63 rfl rfl ?_
    refine k_gI hK dX12_tellsOut_64 lf_X12_356 rfl (sc_80 hs) ((up_na (by decide)).trans ((up_nk (by decide)).trans rfl)) ?_
    refine k_ic hK dX12_tellsOut_67 ci_1 ?_
    refine k_op hK dX12_tellsOut_68 rfl rfl ?_
    refine k_pI hK dX12_tellsOut_69 lf_X12_356 rfl rfl rfl (sc_80 hs) ?_
    exact k_vret hK dX12_tellsOut_72 rfl (done_0 rfl rfl) (qD_i hF)
  · have hF := hF.2 h1
    refine k_ld hK 0 dX12_tellsOut_9 rfl rfl rfl rfl ?_
    refine k_ic hK dX12_tellsOut_10 ci_5 ?_
    refine k_ld hK 1 dX12_tellsOut_11 rfl rfl rfl rfl ?_
    refine k_cVc hK dX12_tellsOut_12 (Or.inl lm_X12_377) (As := [.int 5, .int x1]) (S := []) rfl (sc_80 hs) (Nat.le_of_ble_eq_true rfl) (fit_0 rfl rfl) rfl hF (fun u8 I9 hF => ?_)
    show K _ _ [] _ _ _
    exact k_vret hK dX12_tellsOut_15 rfl (done_0 rfl rfl) (qD_i hF)
theorem e_X12_tellsOut {d : Nat} {Q : Unit → HI → HJ → Prop} {I : HI} {J : HJ} {R : HR} {x1 : Int32} (hs : Stat R)  (hF : ((¬ (I 80 54) = 20 → (∃ n2 : Nat, ((I 80 47) - 1) = nI n2 ∧ n2 < 64 ∧ (∃ n5 : Nat, (I 80 54) = nI n5 ∧ n5 < 20 ∧ Q () (up (up (up I 80 47 ((I 80 47) - 1)) 106 n5 (I 100 n2)) 80 54 ((I 80 54) + 1)) (up J 105 n5 (J 99 n2))))) ∧ ((I 80 54) = 20 → Wc fv d M_X12_stops [.ref 80, .int 5, .int x1] I J R (fun u8 I9 => Q () I9 J)))) : Wd fv (d + 1) M_X12_tellsOut [.ref 80, .int x1] I J R Q := ⟨Nat.le_of_ble_eq_true rfl, fun K hK => g_X12_tellsOut_0 hK hs hF⟩
set_option maxHeartbeats 4000000 in
theorem g_X12_enters_0 {d : Nat} {K : KT} {Q : Unit → HI → HJ → Prop} {I : HI} {J : HJ} {R : HR} {x1 : Int32} (hK : am_R M_X12_enters (am_W d) none R (qD fv R Q) K) (hs : Stat R)  (hF : (∃ n1 : Nat, ((I 80 47) - 2) = nI n1 ∧ n1 < 64 ∧ (∃ n4 : Nat, ((I 80 47) - 1) = nI n4 ∧ n4 < 64 ∧ (∃ n7 : Nat, x1 = nI n7 ∧ n7 < 2000 ∧ ((¬ (I 86 n7) = 6 → K 50 [(0, .ref 80), (1, .int x1), (2, .long (J 99 n1)), (4, .long (J 99 n4))] [] I J R) ∧ ((I 86 n7) = 6 → ((¬ (J 99 n4) = (0 : Int64) → K 50 [(0, .ref 80), (1, .int x1), (2, .long (J 99 n1)), (4, .long (J 99 n4))] [] I J R) ∧ ((J 99 n4) = (0 : Int64) → Wc fv d M_X12_stops [.ref 80, .int 1, .int x1] I J R (fun u12 I13 => Q () I13 J))))))))) : K 0 [(0, .ref 80), (1, .int x1)] [] I J R := by
  refine k_ld hK 0 dX12_enters_0 rfl rfl rfl rfl ?_
  refine k_gR hK dX12_enters_1 lf_X12_69 rfl (sc_80 hs) (sf_80_45 hs) ?_
  refine k_ld hK 0 dX12_enters_4 rfl rfl rfl rfl ?_
  refine k_gI hK dX12_enters_5 lf_X12_350 rfl (sc_80 hs) rfl ?_
  refine k_ic hK dX12_enters_8 ci_2 ?_
  refine k_op hK dX12_enters_9 rfl rfl ?_
  obtain ⟨n1, i2, j3, hF⟩ := hF
  refine k_lald hK dX12_enters_10 (sc_99 hs) sn_99 (by decide) i2 j3 rfl ?_
  refine k_st hK dX12_enters_11 rfl rfl rfl (Nat.le_of_ble_eq_true rfl) rfl ?_
  refine k_ld hK 1 dX12_enters_12 rfl rfl rfl rfl ?_
  refine k_gR hK dX12_enters_13 lf_X12_69 rfl (sc_80 hs) (sf_80_45 hs) ?_
  refine k_ld hK 1 dX12_enters_16 rfl rfl rfl rfl ?_
  refine k_gI hK dX12_enters_17 lf_X12_350 rfl (sc_80 hs) rfl ?_
  refine k_ic hK dX12_enters_20 ci_1 ?_
  refine k_op hK dX12_enters_21 rfl rfl ?_
  obtain ⟨n4, i5, j6, hF⟩ := hF
  refine k_lald hK dX12_enters_22 (sc_99 hs) sn_99 (by decide) i5 j6 rfl ?_
  refine k_st hK dX12_enters_23 rfl rfl rfl (Nat.le_of_ble_eq_true rfl) rfl ?_
  refine k_ld hK 2 dX12_enters_25 rfl rfl rfl rfl ?_
  refine k_gR hK dX12_enters_26 lf_X12_29 rfl (sc_80 hs) (sf_80_21 hs) ?_
  refine k_ld hK 3 dX12_enters_29 rfl rfl rfl rfl ?_
  obtain ⟨n7, i8, j9, hF⟩ := hF
  refine k_iald hK dX12_enters_30 (sc_86 hs) sn_86 (by decide) i8 j9 rfl ?_
  refine k_bi hK dX12_enters_31 cb_6 ?_
  refine k_cne hK dX12_enters_33 (tgt := 50) rfl (fun h10 => ?_) (fun h10 => ?_)
  · have hF := hF.1 h10
    exact k_sub hK [2, 3, 1, 0] rfl hF
  · have hF := hF.2 h10
    refine k_ld hK 0 dX12_enters_36 rfl rfl rfl rfl ?_
    refine k_lc hK dX12_enters_38 cl_0 ?_
    refine k_lne hK dX12_enters_39 dX12_enters_40 (tgt := 50) rfl (fun h11 => ?_) (fun h11 => ?_)
    · have hF := hF.1 h11
      exact k_sub hK [2, 3, 1, 0] rfl hF
    · have hF := hF.2 h11
      refine k_ld hK 2 dX12_enters_43 rfl rfl rfl rfl ?_
      refine k_ic hK dX12_enters_44 ci_1 ?_
      refine k_ld hK 3 dX12_enters_45 rfl rfl rfl rfl ?_
      refine k_cVc hK dX12_enters_46 (Or.inl lm_X12_377) (As := [.int 1, .int x1]) (S := []) rfl (sc_80 hs) (Nat.le_of_ble_eq_true rfl) (fit_0 rfl rfl) rfl hF (fun u12 I13 hF => ?_)
      show K _ _ [] _ _ _
      exact k_vret hK dX12_enters_49 rfl (done_0 rfl rfl) (qD_i hF)
set_option maxHeartbeats 4000000 in
theorem g_X12_enters_50 {d : Nat} {K : KT} {Q : Unit → HI → HJ → Prop} {I : HI} {J : HJ} {R : HR} {x1 : Int32} {z2 : Int64} {z4 : Int64} (hK : am_R M_X12_enters (am_W d) none R (qD fv R Q) K) (hs : Stat R)  (hF : ((¬ (I 80 44) = 400 → (∃ n2 : Nat, x1 = nI n2 ∧ n2 < 2000 ∧ (∃ n5 : Nat, (I 80 44) = nI n5 ∧ n5 < 400 ∧ (∃ n8 : Nat, ((I 80 47) - 2) = nI n8 ∧ n8 < 64 ∧ (∃ n11 : Nat, ((I 80 47) - 1) = nI n11 ∧ n11 < 64 ∧ ((¬ (I 86 n2) = 3 → ((¬ (I 86 n2) = 4 → ((¬ (I 86 n2) = 5 → Wp fl d M_X12_parted [.long z2, .long z4] (up (up (up (up I 92 n5 (I 86 n2)) 96 n5 (I 100 n8)) 97 n5 (I 100 n11)) 98 n5 x1) (up (up J 94 n5 z2) 95 n5 z4) R (fun r17 => K 221 [(0, .ref 80), (6, .int (I 80 44))] [.long r17, .int (I 80 44), .ref 93] (up (up (up (up I 92 n5 (I 86 n2)) 96 n5 (I 100 n8)) 97 n5 (I 100 n11)) 98 n5 x1) (up (up J 94 n5 z2) 95 n5 z4) R)) ∧ ((I 86 n2) = 5 → K 221 [(0, .ref 80), (6, .int (I 80 44))] [.long ((z2 * z4) - (z2 * z4) / (1000000007 : Int64) * (1000000007 : Int64)), .int (I 80 44), .ref 93] (up (up (up (up I 92 n5 (I 86 n2)) 96 n5 (I 100 n8)) 97 n5 (I 100 n11)) 98 n5 x1) (up (up J 94 n5 z2) 95 n5 z4) R))) ∧ ((I 86 n2) = 4 → Wp fl d M_X12_left [.long (z2 - z4)] (up (up (up (up I 92 n5 (I 86 n2)) 96 n5 (I 100 n8)) 97 n5 (I 100 n11)) 98 n5 x1) (up (up J 94 n5 z2) 95 n5 z4) R (fun r18 => K 221 [(0, .ref 80), (6, .int (I 80 44))] [.long r18, .int (I 80 44), .ref 93] (up (up (up (up I 92 n5 (I 86 n2)) 96 n5 (I 100 n8)) 97 n5 (I 100 n11)) 98 n5 x1) (up (up J 94 n5 z2) 95 n5 z4) R)))) ∧ ((I 86 n2) = 3 → K 221 [(0, .ref 80), (6, .int (I 80 44))] [.long ((z2 + z4) - (z2 + z4) / (1000000007 : Int64) * (1000000007 : Int64)), .int (I 80 44), .ref 93] (up (up (up (up I 92 n5 (I 86 n2)) 96 n5 (I 100 n8)) 97 n5 (I 100 n11)) 98 n5 x1) (up (up J 94 n5 z2) 95 n5 z4) R))))))) ∧ ((I 80 44) = 400 → Wc fv d M_X12_stops [.ref 80, .int 4, .int x1] I J R (fun u19 I20 => Q () I20 J)))) : K 50 [(0, .ref 80), (1, .int x1), (2, .long z2), (4, .long z4)] [] I J R := by
  refine k_ld hK 0 dX12_enters_50 rfl rfl rfl rfl ?_
  refine k_gI hK dX12_enters_51 lf_X12_353 rfl (sc_80 hs) rfl ?_
  refine k_si hK dX12_enters_54 cs_400 ?_
  refine k_cne hK dX12_enters_57 (tgt := 67) rfl (fun h1 => ?_) (fun h1 => ?_)
  · have hF := hF.1 h1
    refine k_ld hK 0 dX12_enters_67 rfl rfl rfl rfl ?_
    refine k_gI hK dX12_enters_68 lf_X12_353 rfl (sc_80 hs) rfl ?_
    refine k_st hK dX12_enters_71 rfl rfl rfl (Nat.le_of_ble_eq_true rfl) rfl ?_
    refine k_ld hK 1 dX12_enters_73 rfl rfl rfl rfl ?_
    refine k_gR hK dX12_enters_74 lf_X12_48 rfl (sc_80 hs) (sf_80_37 hs) ?_
    refine k_ld hK 0 dX12_enters_77 rfl rfl rfl rfl ?_
    refine k_ld hK 1 dX12_enters_79 rfl rfl rfl rfl ?_
    refine k_gR hK dX12_enters_80 lf_X12_29 rfl (sc_80 hs) (sf_80_21 hs) ?_
    refine k_ld hK 2 dX12_enters_83 rfl rfl rfl rfl ?_
    obtain ⟨n2, i3, j4, hF⟩ := hF
    refine k_iald hK dX12_enters_84 (sc_86 hs) sn_86 (by decide) i3 j4 rfl ?_
    obtain ⟨n5, i6, j7, hF⟩ := hF
    refine k_iast hK dX12_enters_85 (sc_92 hs) sn_92 (by decide) i6 j7 ?_
    refine k_ld hK 1 dX12_enters_86 rfl rfl rfl rfl ?_
    refine k_gR hK dX12_enters_87 lf_X12_54 rfl (sc_80 hs) (sf_80_39 hs) ?_
    refine k_ld hK 0 dX12_enters_90 rfl rfl rfl rfl ?_
    refine k_ld hK 3 dX12_enters_92 rfl rfl rfl rfl ?_
    refine k_last hK dX12_enters_93 (sc_94 hs) sn_94 (by decide) i6 j7 ?_
    refine k_ld hK 1 dX12_enters_94 rfl rfl rfl rfl ?_
    refine k_gR hK dX12_enters_95 lf_X12_57 rfl (sc_80 hs) (sf_80_40 hs) ?_
    refine k_ld hK 0 dX12_enters_98 rfl rfl rfl rfl ?_
    refine k_ld hK 4 dX12_enters_100 rfl rfl rfl rfl ?_
    refine k_last hK dX12_enters_102 (sc_95 hs) sn_95 (by decide) i6 j7 ?_
    refine k_ld hK 1 dX12_enters_103 rfl rfl rfl rfl ?_
    refine k_gR hK dX12_enters_104 lf_X12_60 rfl (sc_80 hs) (sf_80_41 hs) ?_
    refine k_ld hK 0 dX12_enters_107 rfl rfl rfl rfl ?_
    refine k_ld hK 1 dX12_enters_109 rfl rfl rfl rfl ?_
    refine k_gR hK dX12_enters_110 lf_X12_72 rfl (sc_80 hs) (sf_80_46 hs) ?_
    refine k_ld hK 1 dX12_enters_113 rfl rfl rfl rfl ?_
    refine k_gI hK dX12_enters_114 lf_X12_350 rfl (sc_80 hs) ((up_na (by decide)).trans rfl) ?_
    refine k_ic hK dX12_enters_117 ci_2 ?_
    refine k_op hK dX12_enters_118 rfl rfl ?_
    obtain ⟨n8, i9, j10, hF⟩ := hF
    refine k_iald hK dX12_enters_119 (sc_100 hs) sn_100 (by decide) i9 j10 ((up_na (by decide)).trans rfl) ?_
    refine k_iast hK dX12_enters_120 (sc_96 hs) sn_96 (by decide) i6 j7 ?_
    refine k_ld hK 1 dX12_enters_121 rfl rfl rfl rfl ?_
    refine k_gR hK dX12_enters_122 lf_X12_63 rfl (sc_80 hs) (sf_80_42 hs) ?_
    refine k_ld hK 0 dX12_enters_125 rfl rfl rfl rfl ?_
    refine k_ld hK 1 dX12_enters_127 rfl rfl rfl rfl ?_
    refine k_gR hK dX12_enters_128 lf_X12_72 rfl (sc_80 hs) (sf_80_46 hs) ?_
    refine k_ld hK 1 dX12_enters_131 rfl rfl rfl rfl ?_
    refine k_gI hK dX12_enters_132 lf_X12_350 rfl (sc_80 hs) ((up_na (by decide)).trans ((up_na (by decide)).trans rfl)) ?_
    refine k_ic hK dX12_enters_135 ci_1 ?_
    refine k_op hK dX12_enters_136 rfl rfl ?_
    obtain ⟨n11, i12, j13, hF⟩ := hF
    refine k_iald hK dX12_enters_137 (sc_100 hs) sn_100 (by decide) i12 j13 ((up_na (by decide)).trans ((up_na (by decide)).trans rfl)) ?_
    refine k_iast hK dX12_enters_138 (sc_97 hs) sn_97 (by decide) i6 j7 ?_
    refine k_ld hK 1 dX12_enters_139 rfl rfl rfl rfl ?_
    refine k_gR hK dX12_enters_140 lf_X12_66 rfl (sc_80 hs) (sf_80_43 hs) ?_
    refine k_ld hK 0 dX12_enters_143 rfl rfl rfl rfl ?_
    refine k_ld hK 2 dX12_enters_145 rfl rfl rfl rfl ?_
    refine k_iast hK dX12_enters_146 (sc_98 hs) sn_98 (by decide) i6 j7 ?_
    refine k_ld hK 1 dX12_enters_147 rfl rfl rfl rfl ?_
    refine k_gR hK dX12_enters_148 lf_X12_51 rfl (sc_80 hs) (sf_80_38 hs) ?_
    refine k_ld hK 0 dX12_enters_151 rfl rfl rfl rfl ?_
    refine k_ld hK 1 dX12_enters_153 rfl rfl rfl rfl ?_
    refine k_gR hK dX12_enters_154 lf_X12_29 rfl (sc_80 hs) (sf_80_21 hs) ?_
    refine k_ld hK 2 dX12_enters_157 rfl rfl rfl rfl ?_
    refine k_iald hK dX12_enters_158 (sc_86 hs) sn_86 (by decide) i3 j4 ((up_na (by decide)).trans ((up_na (by decide)).trans ((up_na (by decide)).trans ((up_na (by decide)).trans rfl)))) ?_
    refine k_ic hK dX12_enters_159 ci_3 ?_
    refine k_cne hK dX12_enters_160 (tgt := 174) rfl (fun h14 => ?_) (fun h14 => ?_)
    · have hF := hF.1 h14
      refine k_ld hK 1 dX12_enters_174 rfl rfl rfl rfl ?_
      refine k_gR hK dX12_enters_175 lf_X12_29 rfl (sc_80 hs) (sf_80_21 hs) ?_
      refine k_ld hK 2 dX12_enters_178 rfl rfl rfl rfl ?_
      refine k_iald hK dX12_enters_179 (sc_86 hs) sn_86 (by decide) i3 j4 ((up_na (by decide)).trans ((up_na (by decide)).trans ((up_na (by decide)).trans ((up_na (by decide)).trans rfl)))) ?_
      refine k_ic hK dX12_enters_180 ci_4 ?_
      refine k_cne hK dX12_enters_181 (tgt := 194) rfl (fun h15 => ?_) (fun h15 => ?_)
      · have hF := hF.1 h15
        refine k_ld hK 1 dX12_enters_194 rfl rfl rfl rfl ?_
        refine k_gR hK dX12_enters_195 lf_X12_29 rfl (sc_80 hs) (sf_80_21 hs) ?_
        refine k_ld hK 2 dX12_enters_198 rfl rfl rfl rfl ?_
        refine k_iald hK dX12_enters_199 (sc_86 hs) sn_86 (by decide) i3 j4 ((up_na (by decide)).trans ((up_na (by decide)).trans ((up_na (by decide)).trans ((up_na (by decide)).trans rfl)))) ?_
        refine k_ic hK dX12_enters_200 ci_5 ?_
        refine k_cne hK dX12_enters_201 (tgt := 215) rfl (fun h16 => ?_) (fun h16 => ?_)
        · have hF := hF.1 h16
          refine k_ld hK 3 dX12_enters_215 rfl rfl rfl rfl ?_
          refine k_ld hK 4 dX12_enters_216 rfl rfl rfl rfl ?_
          refine k_cSp hK dX12_enters_218 lm_X12_411 (As := [.long z2, .long z4]) (S := [.int (I 80 44), .ref 93]) rfl (Nat.le_of_ble_eq_true rfl) (fit_0 rfl rfl) rfl hF (fun r17 hF => ?_)
          show K _ _ [.long r17, .int (I 80 44), .ref 93] _ _ _
          exact k_sub hK [1, 0] rfl hF
        · have hF := hF.2 h16
          refine k_ld hK 3 dX12_enters_204 rfl rfl rfl rfl ?_
          refine k_ld hK 4 dX12_enters_205 rfl rfl rfl rfl ?_
          refine k_op hK dX12_enters_207 rfl rfl ?_
          refine k_ldc2 hK dX12_enters_208 lc_X12_338 ?_
          refine k_lrem hK dX12_enters_211 (by decide) ?_
          refine k_goto hK dX12_enters_212 (tgt := 221) rfl ?_
          exact k_sub hK [1, 0] rfl hF
      · have hF := hF.2 h15
        refine k_ld hK 3 dX12_enters_184 rfl rfl rfl rfl ?_
        refine k_ld hK 4 dX12_enters_185 rfl rfl rfl rfl ?_
        refine k_op hK dX12_enters_187 rfl rfl ?_
        refine k_cSp hK dX12_enters_188 lm_X12_408 (As := [.long (z2 - z4)]) (S := [.int (I 80 44), .ref 93]) rfl (Nat.le_of_ble_eq_true rfl) (fit_0 rfl rfl) rfl hF (fun r18 hF => ?_)
        show K _ _ [.long r18, .int (I 80 44), .ref 93] _ _ _
        refine k_goto hK dX12_enters_191 (tgt := 221) rfl ?_
        exact k_sub hK [1, 0] rfl hF
    · have hF := hF.2 h14
      refine k_ld hK 3 dX12_enters_163 rfl rfl rfl rfl ?_
      refine k_ld hK 4 dX12_enters_164 rfl rfl rfl rfl ?_
      refine k_op hK dX12_enters_166 rfl rfl ?_
      refine k_ldc2 hK dX12_enters_167 lc_X12_338 ?_
      refine k_lrem hK dX12_enters_170 (by decide) ?_
      refine k_goto hK dX12_enters_171 (tgt := 221) rfl ?_
      exact k_sub hK [1, 0] rfl hF
  · have hF := hF.2 h1
    refine k_ld hK 0 dX12_enters_60 rfl rfl rfl rfl ?_
    refine k_ic hK dX12_enters_61 ci_4 ?_
    refine k_ld hK 1 dX12_enters_62 rfl rfl rfl rfl ?_
    refine k_cVc hK dX12_enters_63 (Or.inl lm_X12_377) (As := [.int 4, .int x1]) (S := []) rfl (sc_80 hs) (Nat.le_of_ble_eq_true rfl) (fit_0 rfl rfl) rfl hF (fun u19 I20 hF => ?_)
    show K _ _ [] _ _ _
    exact k_vret hK dX12_enters_66 rfl (done_0 rfl rfl) (qD_i hF)
set_option maxHeartbeats 4000000 in
theorem g_X12_enters_221 {d : Nat} {K : KT} {Q : Unit → HI → HJ → Prop} {I : HI} {J : HJ} {R : HR} {x6 : Int32} {w0 : Int64} {u1 : Int32} (hK : am_R M_X12_enters (am_W d) none R (qD fv R Q) K) (hs : Stat R)  (hF : (∃ n1 : Nat, u1 = nI n1 ∧ n1 < 400 ∧ (∃ n4 : Nat, x6 = nI n4 ∧ n4 < 400 ∧ Wd fv d M_X12_push [.ref 80, .long ((up J 93 n1 w0) 93 n4), .int x6] (up (up I 80 44 ((I 80 44) + 1)) 80 47 ((I 80 47) - 2)) (up J 93 n1 w0) R (fun u7 I8 J9 => Q () I8 J9)))) : K 221 [(0, .ref 80), (6, .int x6)] [.long w0, .int u1, .ref 93] I J R := by
  obtain ⟨n1, i2, j3, hF⟩ := hF
  refine k_last hK dX12_enters_221 (sc_93 hs) sn_93 (by decide) i2 j3 ?_
  refine k_ld hK 0 dX12_enters_222 rfl rfl rfl rfl ?_
  refine k_op hK dX12_enters_223 rfl rfl ?_
  refine k_gI hK dX12_enters_224 lf_X12_353 rfl (sc_80 hs) rfl ?_
  refine k_ic hK dX12_enters_227 ci_1 ?_
  refine k_op hK dX12_enters_228 rfl rfl ?_
  refine k_pI hK dX12_enters_229 lf_X12_353 rfl rfl rfl (sc_80 hs) ?_
  refine k_ld hK 0 dX12_enters_232 rfl rfl rfl rfl ?_
  refine k_op hK dX12_enters_233 rfl rfl ?_
  refine k_gI hK dX12_enters_234 lf_X12_350 rfl (sc_80 hs) ((up_nk (by decide)).trans rfl) ?_
  refine k_ic hK dX12_enters_237 ci_2 ?_
  refine k_op hK dX12_enters_238 rfl rfl ?_
  refine k_pI hK dX12_enters_239 lf_X12_350 rfl rfl rfl (sc_80 hs) ?_
  refine k_ld hK 0 dX12_enters_242 rfl rfl rfl rfl ?_
  refine k_ld hK 0 dX12_enters_243 rfl rfl rfl rfl ?_
  refine k_gR hK dX12_enters_244 lf_X12_51 rfl (sc_80 hs) (sf_80_38 hs) ?_
  refine k_ld hK 1 dX12_enters_247 rfl rfl rfl rfl ?_
  obtain ⟨n4, i5, j6, hF⟩ := hF
  refine k_lald hK dX12_enters_249 (sc_93 hs) sn_93 (by decide) i5 j6 rfl ?_
  refine k_ld hK 1 dX12_enters_250 rfl rfl rfl rfl ?_
  refine k_cVd hK dX12_enters_252 (Or.inl lm_X12_383) (As := [.long ((up J 93 n1 w0) 93 n4), .int x6]) (S := []) rfl (sc_80 hs) (Nat.le_of_ble_eq_true rfl) (fit_0 rfl rfl) rfl hF (fun u7 I8 J9 hF => ?_)
  show K _ _ [] _ _ _
  exact k_vret hK dX12_enters_255 rfl (done_0 rfl rfl) (qD_i hF)
set_option maxHeartbeats 4000000 in
theorem g_X12_set_0 {d : Nat} {K : KT} {Q : Int32 → HI → HJ → Prop} {I : HI} {J : HJ} {R : HR} {x1 : Int32} {x2 : Int32} {x3 : Int32} (hK : am_R M_X12_set (am_W d) none R (qD fi R Q) K) (hs : Stat R)  (hF : ((x1 < 0 → Q (-1) (up I 80 0 0) J) ∧ (¬ x1 < 0 → (((I 80 31) ≤ x1 → Q (-1) (up I 80 0 0) J) ∧ (¬ (I 80 31) ≤ x1 → ((x2 < (-1000000000) → Q (-1) (up I 80 0 0) J) ∧ (¬ x2 < (-1000000000) → ((1000000000 < x2 → Q (-1) (up I 80 0 0) J) ∧ (¬ 1000000000 < x2 → ((x3 < 1 → Q (-1) (up I 80 0 0) J) ∧ (¬ x3 < 1 → ((x3 ≤ 1000000000 → (∃ n7 : Nat, x1 = nI n7 ∧ n7 < 4 ∧ Wp fl d M_X12_left [.long (Int32.toInt64 x2)] (up I 80 0 0) J R (fun r10 => Wp fl d M_X12_parted [.long r10, .long (Int32.toInt64 x3)] (up I 80 0 0) J R (fun r11 => Wd fv d M_X12_runs [.ref 80] (up I 80 0 0) (up J 91 n7 r11) R (fun u12 I13 J14 => Q (Int64.toInt32 (J 91 n7)) I13 J14))))) ∧ (¬ x3 ≤ 1000000000 → Q (-1) (up I 80 0 0) J))))))))))))) : K 0 [(0, .ref 80), (1, .int x1), (2, .int x2), (3, .int x3)] [] I J R := by
  refine k_ld hK 0 dX12_set_0 rfl rfl rfl rfl ?_
  refine k_ic hK dX12_set_1 ci_0 ?_
  refine k_pI hK dX12_set_2 lf_X12_142 rfl rfl rfl (sc_80 hs) ?_
  refine k_ld hK 1 dX12_set_5 rfl rfl rfl rfl ?_
  refine k_lt hK dX12_set_6 (tgt := 43) rfl (fun h1 => ?_) (fun h1 => ?_)
  · have hF := hF.1 h1
    refine k_ic hK dX12_set_43 ci_m1 ?_
    exact k_iret hK dX12_set_44 rfl rfl (done_0 rfl rfl) (qD_i hF)
  · have hF := hF.2 h1
    refine k_ld hK 1 dX12_set_9 rfl rfl rfl rfl ?_
    refine k_ld hK 0 dX12_set_10 rfl rfl rfl rfl ?_
    refine k_gI hK dX12_set_11 lf_X12_314 rfl (sc_80 hs) ((up_nk (by decide)).trans rfl) ?_
    refine k_cge hK dX12_set_14 (tgt := 43) rfl (fun h2 => ?_) (fun h2 => ?_)
    · have hF := hF.1 h2
      refine k_ic hK dX12_set_43 ci_m1 ?_
      exact k_iret hK dX12_set_44 rfl rfl (done_0 rfl rfl) (qD_i hF)
    · have hF := hF.2 h2
      refine k_ld hK 2 dX12_set_17 rfl rfl rfl rfl ?_
      refine k_ldcw hK dX12_set_18 lc_X12_414 ?_
      refine k_clt hK dX12_set_21 (tgt := 43) rfl (fun h3 => ?_) (fun h3 => ?_)
      · have hF := hF.1 h3
        refine k_ic hK dX12_set_43 ci_m1 ?_
        exact k_iret hK dX12_set_44 rfl rfl (done_0 rfl rfl) (qD_i hF)
      · have hF := hF.2 h3
        refine k_ld hK 2 dX12_set_24 rfl rfl rfl rfl ?_
        refine k_ldcw hK dX12_set_25 lc_X12_415 ?_
        refine k_cgt hK dX12_set_28 (tgt := 43) rfl (fun h4 => ?_) (fun h4 => ?_)
        · have hF := hF.1 h4
          refine k_ic hK dX12_set_43 ci_m1 ?_
          exact k_iret hK dX12_set_44 rfl rfl (done_0 rfl rfl) (qD_i hF)
        · have hF := hF.2 h4
          refine k_ld hK 3 dX12_set_31 rfl rfl rfl rfl ?_
          refine k_ic hK dX12_set_32 ci_1 ?_
          refine k_clt hK dX12_set_33 (tgt := 43) rfl (fun h5 => ?_) (fun h5 => ?_)
          · have hF := hF.1 h5
            refine k_ic hK dX12_set_43 ci_m1 ?_
            exact k_iret hK dX12_set_44 rfl rfl (done_0 rfl rfl) (qD_i hF)
          · have hF := hF.2 h5
            refine k_ld hK 3 dX12_set_36 rfl rfl rfl rfl ?_
            refine k_ldcw hK dX12_set_37 lc_X12_415 ?_
            refine k_cle hK dX12_set_40 (tgt := 45) rfl (fun h6 => ?_) (fun h6 => ?_)
            · have hF := hF.1 h6
              refine k_ld hK 0 dX12_set_45 rfl rfl rfl rfl ?_
              refine k_gR hK dX12_set_46 lf_X12_44 rfl (sc_80 hs) (sf_80_36 hs) ?_
              refine k_ld hK 1 dX12_set_49 rfl rfl rfl rfl ?_
              obtain ⟨n7, i8, j9, hF⟩ := hF
              refine k_lald hK dX12_set_50 (sc_91 hs) sn_91 (by decide) i8 j9 rfl ?_
              refine k_op hK dX12_set_51 rfl rfl ?_
              refine k_st hK dX12_set_52 rfl rfl rfl (Nat.le_of_ble_eq_true rfl) rfl ?_
              refine k_ld hK 1 dX12_set_54 rfl rfl rfl rfl ?_
              refine k_gR hK dX12_set_55 lf_X12_44 rfl (sc_80 hs) (sf_80_36 hs) ?_
              refine k_ld hK 2 dX12_set_58 rfl rfl rfl rfl ?_
              refine k_ld hK 3 dX12_set_59 rfl rfl rfl rfl ?_
              refine k_op hK dX12_set_60 rfl rfl ?_
              refine k_cSp hK dX12_set_61 lm_X12_408 (As := [.long (Int32.toInt64 x2)]) (S := [.int x1, .ref 91]) rfl (Nat.le_of_ble_eq_true rfl) (fit_0 rfl rfl) rfl hF (fun r10 hF => ?_)
              show K _ _ [.long r10, .int x1, .ref 91] _ _ _
              refine k_ld hK 4 dX12_set_64 rfl rfl rfl rfl ?_
              refine k_op hK dX12_set_65 rfl rfl ?_
              refine k_cSp hK dX12_set_66 lm_X12_411 (As := [.long r10, .long (Int32.toInt64 x3)]) (S := [.int x1, .ref 91]) rfl (Nat.le_of_ble_eq_true rfl) (fit_0 rfl rfl) rfl hF (fun r11 hF => ?_)
              show K _ _ [.long r11, .int x1, .ref 91] _ _ _
              refine k_last hK dX12_set_69 (sc_91 hs) sn_91 (by decide) i8 j9 ?_
              refine k_ld hK 1 dX12_set_70 rfl rfl rfl rfl ?_
              refine k_cVd hK dX12_set_71 (Or.inl lm_X12_329) (As := []) (S := []) rfl (sc_80 hs) (Nat.le_of_ble_eq_true rfl) (fit_0 rfl rfl) rfl hF (fun u12 I13 J14 hF => ?_)
              show K _ _ [] _ _ _
              refine k_ld hK 0 dX12_set_74 rfl rfl rfl rfl ?_
              exact k_iret hK dX12_set_76 rfl rfl (done_0 rfl rfl) (qD_i hF)
            · have hF := hF.2 h6
              refine k_ic hK dX12_set_43 ci_m1 ?_
              exact k_iret hK dX12_set_44 rfl rfl (done_0 rfl rfl) (qD_i hF)
theorem e_X12_set {d : Nat} {Q : Int32 → HI → HJ → Prop} {I : HI} {J : HJ} {R : HR} {x1 : Int32} {x2 : Int32} {x3 : Int32} (hs : Stat R)  (hF : ((x1 < 0 → Q (-1) (up I 80 0 0) J) ∧ (¬ x1 < 0 → (((I 80 31) ≤ x1 → Q (-1) (up I 80 0 0) J) ∧ (¬ (I 80 31) ≤ x1 → ((x2 < (-1000000000) → Q (-1) (up I 80 0 0) J) ∧ (¬ x2 < (-1000000000) → ((1000000000 < x2 → Q (-1) (up I 80 0 0) J) ∧ (¬ 1000000000 < x2 → ((x3 < 1 → Q (-1) (up I 80 0 0) J) ∧ (¬ x3 < 1 → ((x3 ≤ 1000000000 → (∃ n7 : Nat, x1 = nI n7 ∧ n7 < 4 ∧ Wp fl d M_X12_left [.long (Int32.toInt64 x2)] (up I 80 0 0) J R (fun r10 => Wp fl d M_X12_parted [.long r10, .long (Int32.toInt64 x3)] (up I 80 0 0) J R (fun r11 => Wd fv d M_X12_runs [.ref 80] (up I 80 0 0) (up J 91 n7 r11) R (fun u12 I13 J14 => Q (Int64.toInt32 (J 91 n7)) I13 J14))))) ∧ (¬ x3 ≤ 1000000000 → Q (-1) (up I 80 0 0) J))))))))))))) : Wd fi (d + 1) M_X12_set [.ref 80, .int x1, .int x2, .int x3] I J R Q := ⟨Nat.le_of_ble_eq_true rfl, fun K hK => g_X12_set_0 hK hs hF⟩
