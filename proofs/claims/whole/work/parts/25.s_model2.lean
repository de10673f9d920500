set_option maxHeartbeats 4000000 in
theorem g_X12_code_0 {d : Nat} {K : KT} {Q : Int32 → HI → Prop} {I : HI} {J : HJ} {R : HR} {x1 : Int32} {x2 : Int32} (hK : am_R M_X12_code (am_W d) none R (qC fi J R Q) K) (hs : Stat R)  (hF : ((x1 < 0 → Q 0 (up (up I 80 0 0) 80 0 1)) ∧ (¬ x1 < 0 → ((x1 < (I 80 35) → ((x2 < 0 → Q 0 (up (up I 80 0 0) 80 0 2)) ∧ (¬ x2 < 0 → ((x2 ≤ 2 → ((¬ x2 = 0 → ((¬ x2 = 1 → (∃ n7 : Nat, x1 = nI n7 ∧ n7 < 2000 ∧ Q (I 88 n7) (up I 80 0 0))) ∧ (x2 = 1 → (∃ n10 : Nat, x1 = nI n10 ∧ n10 < 2000 ∧ Q (I 87 n10) (up I 80 0 0))))) ∧ (x2 = 0 → (∃ n13 : Nat, x1 = nI n13 ∧ n13 < 2000 ∧ Q (I 86 n13) (up I 80 0 0))))) ∧ (¬ x2 ≤ 2 → Q 0 (up (up I 80 0 0) 80 0 2)))))) ∧ (¬ x1 < (I 80 35) → Q 0 (up (up I 80 0 0) 80 0 1)))))) : K 0 [(0, .ref 80), (1, .int x1), (2, .int x2)] [] I J R := by
  refine k_ld hK 0 dX12_code_0 rfl rfl rfl rfl ?_
  refine k_ic hK dX12_code_1 ci_0 ?_
  refine k_pI hK dX12_code_2 lf_X12_142 rfl rfl rfl (sc_80 hs) ?_
  refine k_ld hK 1 dX12_code_5 rfl rfl rfl rfl ?_
  refine k_lt hK dX12_code_6 (tgt := 17) rfl (fun h1 => ?_) (fun h1 => ?_)
  · have hF := hF.1 h1
    refine k_ld hK 0 dX12_code_17 rfl rfl rfl rfl ?_
    refine k_ic hK dX12_code_18 ci_1 ?_
    refine k_pI hK dX12_code_19 lf_X12_142 rfl rfl rfl (sc_80 hs) ?_
    refine k_ic hK dX12_code_22 ci_0 ?_
    exact k_iret hK dX12_code_23 rfl rfl (done_0 rfl rfl) (qC_i hF)
  · have hF := hF.2 h1
    refine k_ld hK 1 dX12_code_9 rfl rfl rfl rfl ?_
    refine k_ld hK 0 dX12_code_10 rfl rfl rfl rfl ?_
    refine k_gI hK dX12_code_11 lf_X12_326 rfl (sc_80 hs) ((up_nk (by decide)).trans rfl) ?_
    refine k_clt hK dX12_code_14 (tgt := 24) rfl (fun h2 => ?_) (fun h2 => ?_)
    · have hF := hF.1 h2
      refine k_ld hK 2 dX12_code_24 rfl rfl rfl rfl ?_
      refine k_lt hK dX12_code_25 (tgt := 33) rfl (fun h3 => ?_) (fun h3 => ?_)
      · have hF := hF.1 h3
        refine k_ld hK 0 dX12_code_33 rfl rfl rfl rfl ?_
        refine k_ic hK dX12_code_34 ci_2 ?_
        refine k_pI hK dX12_code_35 lf_X12_142 rfl rfl rfl (sc_80 hs) ?_
        refine k_ic hK dX12_code_38 ci_0 ?_
        exact k_iret hK dX12_code_39 rfl rfl (done_0 rfl rfl) (qC_i hF)
      · have hF := hF.2 h3
        refine k_ld hK 2 dX12_code_28 rfl rfl rfl rfl ?_
        refine k_ic hK dX12_code_29 ci_2 ?_
        refine k_cle hK dX12_code_30 (tgt := 40) rfl (fun h4 => ?_) (fun h4 => ?_)
        · have hF := hF.1 h4
          refine k_ld hK 2 dX12_code_40 rfl rfl rfl rfl ?_
          refine k_ne hK dX12_code_41 (tgt := 53) rfl (fun h5 => ?_) (fun h5 => ?_)
          · have hF := hF.1 h5
            refine k_ld hK 2 dX12_code_53 rfl rfl rfl rfl ?_
            refine k_ic hK dX12_code_54 ci_1 ?_
            refine k_cne hK dX12_code_55 (tgt := 67) rfl (fun h6 => ?_) (fun h6 => ?_)
            · have hF := hF.1 h6
              refine k_ld hK 0 dX12_code_67 rfl rfl rfl rfl ?_
              refine k_gR hK dX12_code_68 lf_X12_35 rfl (sc_80 hs) (sf_80_23 hs) ?_
              refine k_ld hK 1 dX12_code_71 rfl rfl rfl rfl ?_
              obtain ⟨n7, i8, j9, hF⟩ := hF
              refine k_iald hK dX12_code_72 (sc_88 hs) sn_88 (by decide) i8 j9 ((up_na (by decide)).trans rfl) ?_
              exact k_iret hK dX12_code_73 rfl rfl (done_0 rfl rfl) (qC_i hF)
            · have hF := hF.2 h6
              refine k_ld hK 0 dX12_code_58 rfl rfl rfl rfl ?_
              refine k_gR hK dX12_code_59 lf_X12_32 rfl (sc_80 hs) (sf_80_22 hs) ?_
              refine k_ld hK 1 dX12_code_62 rfl rfl rfl rfl ?_
              obtain ⟨n10, i11, j12, hF⟩ := hF
              refine k_iald hK dX12_code_63 (sc_87 hs) sn_87 (by decide) i11 j12 ((up_na (by decide)).trans rfl) ?_
              refine k_goto hK dX12_code_64 (tgt := 73) rfl ?_
              exact k_iret hK dX12_code_73 rfl rfl (done_0 rfl rfl) (qC_i hF)
          · have hF := hF.2 h5
            refine k_ld hK 0 dX12_code_44 rfl rfl rfl rfl ?_
            refine k_gR hK dX12_code_45 lf_X12_29 rfl (sc_80 hs) (sf_80_21 hs) ?_
            refine k_ld hK 1 dX12_code_48 rfl rfl rfl rfl ?_
            obtain ⟨n13, i14, j15, hF⟩ := hF
            refine k_iald hK dX12_code_49 (sc_86 hs) sn_86 (by decide) i14 j15 ((up_na (by decide)).trans rfl) ?_
            refine k_goto hK dX12_code_50 (tgt := 73) rfl ?_
            exact k_iret hK dX12_code_73 rfl rfl (done_0 rfl rfl) (qC_i hF)
        · have hF := hF.2 h4
          refine k_ld hK 0 dX12_code_33 rfl rfl rfl rfl ?_
          refine k_ic hK dX12_code_34 ci_2 ?_
          refine k_pI hK dX12_code_35 lf_X12_142 rfl rfl rfl (sc_80 hs) ?_
          refine k_ic hK dX12_code_38 ci_0 ?_
          exact k_iret hK dX12_code_39 rfl rfl (done_0 rfl rfl) (qC_i hF)
    · have hF := hF.2 h2
      refine k_ld hK 0 dX12_code_17 rfl rfl rfl rfl ?_
      refine k_ic hK dX12_code_18 ci_1 ?_
      refine k_pI hK dX12_code_19 lf_X12_142 rfl rfl rfl (sc_80 hs) ?_
      refine k_ic hK dX12_code_22 ci_0 ?_
      exact k_iret hK dX12_code_23 rfl rfl (done_0 rfl rfl) (qC_i hF)
theorem e_X12_code {d : Nat} {Q : Int32 → HI → Prop} {I : HI} {J : HJ} {R : HR} {x1 : Int32} {x2 : Int32} (hs : Stat R)  (hF : ((x1 < 0 → Q 0 (up (up I 80 0 0) 80 0 1)) ∧ (¬ x1 < 0 → ((x1 < (I 80 35) → ((x2 < 0 → Q 0 (up (up I 80 0 0) 80 0 2)) ∧ (¬ x2 < 0 → ((x2 ≤ 2 → ((¬ x2 = 0 → ((¬ x2 = 1 → (∃ n7 : Nat, x1 = nI n7 ∧ n7 < 2000 ∧ Q (I 88 n7) (up I 80 0 0))) ∧ (x2 = 1 → (∃ n10 : Nat, x1 = nI n10 ∧ n10 < 2000 ∧ Q (I 87 n10) (up I 80 0 0))))) ∧ (x2 = 0 → (∃ n13 : Nat, x1 = nI n13 ∧ n13 < 2000 ∧ Q (I 86 n13) (up I 80 0 0))))) ∧ (¬ x2 ≤ 2 → Q 0 (up (up I 80 0 0) 80 0 2)))))) ∧ (¬ x1 < (I 80 35) → Q 0 (up (up I 80 0 0) 80 0 1)))))) : Wc fi (d + 1) M_X12_code [.ref 80, .int x1, .int x2] I J R Q := ⟨Nat.le_of_ble_eq_true rfl, fun K hK => g_X12_code_0 hK hs hF⟩
set_option maxHeartbeats 4000000 in
theorem g_X12_areMixed_0 {d : Nat} {K : KT} {Q : Bool → Prop} {I : HI} {J : HJ} {R : HR} {x1 : Int32} {x2 : Int32} (hK : am_R M_X12_areMixed (am_W d) none R (qP fb I J R Q) K) (hs : Stat R)  (hF : (∃ n1 : Nat, x1 = nI n1 ∧ n1 < 12 ∧ (∃ n4 : Nat, x2 = nI n4 ∧ n4 < 12 ∧ ((((I 84 n4) + (I 85 n4)) ≤ (I 84 n1) → Q false) ∧ (¬ ((I 84 n4) + (I 85 n4)) ≤ (I 84 n1) → ((((I 84 n1) + (I 85 n1)) ≤ (I 84 n4) → Q false) ∧ (¬ ((I 84 n1) + (I 85 n1)) ≤ (I 84 n4) → Q true))))))) : K 0 [(0, .ref 80), (1, .int x1), (2, .int x2)] [] I J R := by
  refine k_ld hK 0 dX12_areMixed_0 rfl rfl rfl rfl ?_
  refine k_gR hK dX12_areMixed_1 lf_X12_23 rfl (sc_80 hs) (sf_80_17 hs) ?_
  refine k_ld hK 1 dX12_areMixed_4 rfl rfl rfl rfl ?_
  obtain ⟨n1, i2, j3, hF⟩ := hF
  refine k_iald hK dX12_areMixed_5 (sc_84 hs) sn_84 (by decide) i2 j3 rfl ?_
  refine k_ld hK 0 dX12_areMixed_6 rfl rfl rfl rfl ?_
  refine k_gR hK dX12_areMixed_7 lf_X12_23 rfl (sc_80 hs) (sf_80_17 hs) ?_
  refine k_ld hK 2 dX12_areMixed_10 rfl rfl rfl rfl ?_
  obtain ⟨n4, i5, j6, hF⟩ := hF
  refine k_iald hK dX12_areMixed_11 (sc_84 hs) sn_84 (by decide) i5 j6 rfl ?_
  refine k_ld hK 0 dX12_areMixed_12 rfl rfl rfl rfl ?_
  refine k_gR hK dX12_areMixed_13 lf_X12_26 rfl (sc_80 hs) (sf_80_18 hs) ?_
  refine k_ld hK 2 dX12_areMixed_16 rfl rfl rfl rfl ?_
  refine k_iald hK dX12_areMixed_17 (sc_85 hs) sn_85 (by decide) i5 j6 rfl ?_
  refine k_op hK dX12_areMixed_18 rfl rfl ?_
  refine k_cge hK dX12_areMixed_19 (tgt := 48) rfl (fun h7 => ?_) (fun h7 => ?_)
  · have hF := hF.1 h7
    refine k_ic hK dX12_areMixed_48 ci_0 ?_
    exact k_iret (x := b2i false) hK dX12_areMixed_49 rfl (b2i_nar _) (done_0 rfl rfl) (qP_i hF)
  · have hF := hF.2 h7
    refine k_ld hK 0 dX12_areMixed_22 rfl rfl rfl rfl ?_
    refine k_gR hK dX12_areMixed_23 lf_X12_23 rfl (sc_80 hs) (sf_80_17 hs) ?_
    refine k_ld hK 2 dX12_areMixed_26 rfl rfl rfl rfl ?_
    refine k_iald hK dX12_areMixed_27 (sc_84 hs) sn_84 (by decide) i5 j6 rfl ?_
    refine k_ld hK 0 dX12_areMixed_28 rfl rfl rfl rfl ?_
    refine k_gR hK dX12_areMixed_29 lf_X12_23 rfl (sc_80 hs) (sf_80_17 hs) ?_
    refine k_ld hK 1 dX12_areMixed_32 rfl rfl rfl rfl ?_
    refine k_iald hK dX12_areMixed_33 (sc_84 hs) sn_84 (by decide) i2 j3 rfl ?_
    refine k_ld hK 0 dX12_areMixed_34 rfl rfl rfl rfl ?_
    refine k_gR hK dX12_areMixed_35 lf_X12_26 rfl (sc_80 hs) (sf_80_18 hs) ?_
    refine k_ld hK 1 dX12_areMixed_38 rfl rfl rfl rfl ?_
    refine k_iald hK dX12_areMixed_39 (sc_85 hs) sn_85 (by decide) i2 j3 rfl ?_
    refine k_op hK dX12_areMixed_40 rfl rfl ?_
    refine k_cge hK dX12_areMixed_41 (tgt := 48) rfl (fun h8 => ?_) (fun h8 => ?_)
    · have hF := hF.1 h8
      refine k_ic hK dX12_areMixed_48 ci_0 ?_
      exact k_iret (x := b2i false) hK dX12_areMixed_49 rfl (b2i_nar _) (done_0 rfl rfl) (qP_i hF)
    · have hF := hF.2 h8
      refine k_ic hK dX12_areMixed_44 ci_1 ?_
      refine k_goto hK dX12_areMixed_45 (tgt := 49) rfl ?_
      exact k_iret (x := b2i true) hK dX12_areMixed_49 rfl (b2i_nar _) (done_0 rfl rfl) (qP_i hF)
theorem e_X12_areMixed {d : Nat} {Q : Bool → Prop} {I : HI} {J : HJ} {R : HR} {x1 : Int32} {x2 : Int32} (hs : Stat R)  (hF : (∃ n1 : Nat, x1 = nI n1 ∧ n1 < 12 ∧ (∃ n4 : Nat, x2 = nI n4 ∧ n4 < 12 ∧ ((((I 84 n4) + (I 85 n4)) ≤ (I 84 n1) → Q false) ∧ (¬ ((I 84 n4) + (I 85 n4)) ≤ (I 84 n1) → ((((I 84 n1) + (I 85 n1)) ≤ (I 84 n4) → Q false) ∧ (¬ ((I 84 n1) + (I 85 n1)) ≤ (I 84 n4) → Q true))))))) : Wp fb (d + 1) M_X12_areMixed [.ref 80, .int x1, .int x2] I J R Q := ⟨Nat.le_of_ble_eq_true rfl, fun K hK => g_X12_areMixed_0 hK hs hF⟩
set_option maxHeartbeats 4000000 in
theorem g_X12_row_0 {d : Nat} {K : KT} {Q : Int32 → HI → Prop} {I : HI} {J : HJ} {R : HR} {x1 : Int32} {x2 : Int32} (hK : am_R M_X12_row (am_W d) none R (qC fi J R Q) K) (hs : Stat R)  (hF : ((x1 < 0 → Q (-1) (up I 80 0 0)) ∧ (¬ x1 < 0 → (((I 80 33) ≤ x1 → Q (-1) (up I 80 0 0)) ∧ (¬ (I 80 33) ≤ x1 → ((x2 < 0 → Q (-1) (up I 80 0 0)) ∧ (¬ x2 < 0 → ((x2 ≤ 2 → ((2 ≤ x2 → K 58 [(0, .ref 80), (1, .int x1), (3, .int 0), (4, .int 0)] [] (up I 80 0 0) J R) ∧ (¬ 2 ≤ x2 → ((¬ x2 = 0 → (∃ n7 : Nat, x1 = nI n7 ∧ n7 < 12 ∧ Q (I 84 n7) (up I 80 0 0))) ∧ (x2 = 0 → (∃ n10 : Nat, x1 = nI n10 ∧ n10 < 12 ∧ Q (I 85 n10) (up I 80 0 0))))))) ∧ (¬ x2 ≤ 2 → Q (-1) (up I 80 0 0)))))))))) : K 0 [(0, .ref 80), (1, .int x1), (2, .int x2)] [] I J R := by
  refine k_ld hK 0 dX12_row_0 rfl rfl rfl rfl ?_
  refine k_ic hK dX12_row_1 ci_0 ?_
  refine k_pI hK dX12_row_2 lf_X12_142 rfl rfl rfl (sc_80 hs) ?_
  refine k_ld hK 1 dX12_row_5 rfl rfl rfl rfl ?_
  refine k_lt hK dX12_row_6 (tgt := 26) rfl (fun h1 => ?_) (fun h1 => ?_)
  · have hF := hF.1 h1
    refine k_ic hK dX12_row_26 ci_m1 ?_
    exact k_iret hK dX12_row_27 rfl rfl (done_0 rfl rfl) (qC_i hF)
  · have hF := hF.2 h1
    refine k_ld hK 1 dX12_row_9 rfl rfl rfl rfl ?_
    refine k_ld hK 0 dX12_row_10 rfl rfl rfl rfl ?_
    refine k_gI hK dX12_row_11 lf_X12_320 rfl (sc_80 hs) ((up_nk (by decide)).trans rfl) ?_
    refine k_cge hK dX12_row_14 (tgt := 26) rfl (fun h2 => ?_) (fun h2 => ?_)
    · have hF := hF.1 h2
      refine k_ic hK dX12_row_26 ci_m1 ?_
      exact k_iret hK dX12_row_27 rfl rfl (done_0 rfl rfl) (qC_i hF)
    · have hF := hF.2 h2
      refine k_ld hK 2 dX12_row_17 rfl rfl rfl rfl ?_
      refine k_lt hK dX12_row_18 (tgt := 26) rfl (fun h3 => ?_) (fun h3 => ?_)
      · have hF := hF.1 h3
        refine k_ic hK dX12_row_26 ci_m1 ?_
        exact k_iret hK dX12_row_27 rfl rfl (done_0 rfl rfl) (qC_i hF)
      · have hF := hF.2 h3
        refine k_ld hK 2 dX12_row_21 rfl rfl rfl rfl ?_
        refine k_ic hK dX12_row_22 ci_2 ?_
        refine k_cle hK dX12_row_23 (tgt := 28) rfl (fun h4 => ?_) (fun h4 => ?_)
        · have hF := hF.1 h4
          refine k_ld hK 2 dX12_row_28 rfl rfl rfl rfl ?_
          refine k_ic hK dX12_row_29 ci_2 ?_
          refine k_cge hK dX12_row_30 (tgt := 53) rfl (fun h5 => ?_) (fun h5 => ?_)
          · have hF := hF.1 h5
            refine k_ic hK dX12_row_53 ci_0 ?_
            refine k_st hK dX12_row_54 rfl rfl rfl (Nat.le_of_ble_eq_true rfl) rfl ?_
            refine k_ic hK dX12_row_55 ci_0 ?_
            refine k_st hK dX12_row_56 rfl rfl rfl (Nat.le_of_ble_eq_true rfl) rfl ?_
            exact k_sub hK [2, 3, 1, 0] rfl hF
          · have hF := hF.2 h5
            refine k_ld hK 2 dX12_row_33 rfl rfl rfl rfl ?_
            refine k_ne hK dX12_row_34 (tgt := 46) rfl (fun h6 => ?_) (fun h6 => ?_)
            · have hF := hF.1 h6
              refine k_ld hK 0 dX12_row_46 rfl rfl rfl rfl ?_
              refine k_gR hK dX12_row_47 lf_X12_23 rfl (sc_80 hs) (sf_80_17 hs) ?_
              refine k_ld hK 1 dX12_row_50 rfl rfl rfl rfl ?_
              obtain ⟨n7, i8, j9, hF⟩ := hF
              refine k_iald hK dX12_row_51 (sc_84 hs) sn_84 (by decide) i8 j9 ((up_na (by decide)).trans rfl) ?_
              exact k_iret hK dX12_row_52 rfl rfl (done_0 rfl rfl) (qC_i hF)
            · have hF := hF.2 h6
              refine k_ld hK 0 dX12_row_37 rfl rfl rfl rfl ?_
              refine k_gR hK dX12_row_38 lf_X12_26 rfl (sc_80 hs) (sf_80_18 hs) ?_
              refine k_ld hK 1 dX12_row_41 rfl rfl rfl rfl ?_
              obtain ⟨n10, i11, j12, hF⟩ := hF
              refine k_iald hK dX12_row_42 (sc_85 hs) sn_85 (by decide) i11 j12 ((up_na (by decide)).trans rfl) ?_
              refine k_goto hK dX12_row_43 (tgt := 52) rfl ?_
              exact k_iret hK dX12_row_52 rfl rfl (done_0 rfl rfl) (qC_i hF)
        · have hF := hF.2 h4
          refine k_ic hK dX12_row_26 ci_m1 ?_
          exact k_iret hK dX12_row_27 rfl rfl (done_0 rfl rfl) (qC_i hF)
set_option maxHeartbeats 4000000 in
theorem g_X12_row_58 {d : Nat} {K : KT} {Q : Int32 → HI → Prop} {I : HI} {J : HJ} {R : HR} {x1 : Int32} {x3 : Int32} {x4 : Int32} (hK : am_R M_X12_row (am_W d) none R (qC fi J R Q) K) (hs : Stat R)  (hF : (((I 80 33) ≤ x4 → Q x3 I) ∧ (¬ (I 80 33) ≤ x4 → Wp fb d M_X12_areMixed [.ref 80, .int x1, .int x4] I J R (fun b2 => ((b2 = false → K 58 [(0, .ref 80), (1, .int x1), (3, .int (x3 + 0)), (4, .int (x4 + 1))] [] I J R) ∧ (b2 = true → K 58 [(0, .ref 80), (1, .int x1), (3, .int (x3 + 1)), (4, .int (x4 + 1))] [] I J R)))))) : K 58 [(0, .ref 80), (1, .int x1), (3, .int x3), (4, .int x4)] [] I J R := by
  refine k_ld hK 3 dX12_row_58 rfl rfl rfl rfl ?_
  refine k_ld hK 0 dX12_row_60 rfl rfl rfl rfl ?_
  refine k_gI hK dX12_row_61 lf_X12_320 rfl (sc_80 hs) rfl ?_
  refine k_cge hK dX12_row_64 (tgt := 91) rfl (fun h1 => ?_) (fun h1 => ?_)
  · have hF := hF.1 h1
    refine k_ld hK 2 dX12_row_91 rfl rfl rfl rfl ?_
    exact k_iret hK dX12_row_92 rfl rfl (done_0 rfl rfl) (qC_i hF)
  · have hF := hF.2 h1
    refine k_ld hK 2 dX12_row_67 rfl rfl rfl rfl ?_
    refine k_ld hK 0 dX12_row_68 rfl rfl rfl rfl ?_
    refine k_ld hK 1 dX12_row_69 rfl rfl rfl rfl ?_
    refine k_ld hK 3 dX12_row_70 rfl rfl rfl rfl ?_
    refine k_cVp hK dX12_row_72 (Or.inl lm_X12_416) (As := [.int x1, .int x4]) (S := [.int x3]) rfl (sc_80 hs) (Nat.le_of_ble_eq_true rfl) (fit_0 rfl rfl) rfl hF (fun b2 hF => ?_)
    show K _ _ [.int (b2i b2), .int x3] _ _ _
    refine k_beq hK dX12_row_75 (tgt := 82) rfl (fun h3 => ?_) (fun h3 => ?_)
    · have hF := hF.1 h3
      refine k_ic hK dX12_row_82 ci_0 ?_
      refine k_op hK dX12_row_83 rfl rfl ?_
      refine k_st hK dX12_row_84 rfl rfl rfl (Nat.le_of_ble_eq_true rfl) rfl ?_
      refine k_iinc hK 3 dX12_row_85 (v := (x4 + 1)) rfl (Nat.le_of_ble_eq_true rfl) (congrArg (fun q => x4 + q) ci_1) rfl ?_
      refine k_goto hK dX12_row_88 (tgt := 58) rfl ?_
      exact k_sub hK [2, 3, 1, 0] rfl hF
    · have hF := hF.2 h3
      refine k_ic hK dX12_row_78 ci_1 ?_
      refine k_goto hK dX12_row_79 (tgt := 83) rfl ?_
      refine k_op hK dX12_row_83 rfl rfl ?_
      refine k_st hK dX12_row_84 rfl rfl rfl (Nat.le_of_ble_eq_true rfl) rfl ?_
      refine k_iinc hK 3 dX12_row_85 (v := (x4 + 1)) rfl (Nat.le_of_ble_eq_true rfl) (congrArg (fun q => x4 + q) ci_1) rfl ?_
      refine k_goto hK dX12_row_88 (tgt := 58) rfl ?_
      exact k_sub hK [2, 3, 1, 0] rfl hF
set_option maxHeartbeats 4000000 in
theorem g_X12_variable_0 {d : Nat} {K : KT} {Q : Int32 → HI → Prop} {I : HI} {J : HJ} {R : HR} {x1 : Int32} {x2 : Int32} (hK : am_R M_X12_variable (am_W d) none R (qC fi J R Q) K) (hs : Stat R)  (hF : ((x1 < 0 → Q (-10) (up I 80 0 0)) ∧ (¬ x1 < 0 → (((I 80 32) ≤ x1 → Q (-10) (up I 80 0 0)) ∧ (¬ (I 80 32) ≤ x1 → ((x2 < 0 → Q (-10) (up I 80 0 0)) ∧ (¬ x2 < 0 → ((x2 ≤ 1 → ((¬ x2 = 0 → (∃ n6 : Nat, x1 = nI n6 ∧ n6 < 8 ∧ Q (I 102 n6) (up I 80 0 0))) ∧ (x2 = 0 → (∃ n9 : Nat, x1 = nI n9 ∧ n9 < 8 ∧ Q (Int64.toInt32 (J 101 n9)) (up I 80 0 0))))) ∧ (¬ x2 ≤ 1 → Q (-10) (up I 80 0 0)))))))))) : K 0 [(0, .ref 80), (1, .int x1), (2, .int x2)] [] I J R := by
  refine k_ld hK 0 dX12_variable_0 rfl rfl rfl rfl ?_
  refine k_ic hK dX12_variable_1 ci_0 ?_
  refine k_pI hK dX12_variable_2 lf_X12_142 rfl rfl rfl (sc_80 hs) ?_
  refine k_ld hK 1 dX12_variable_5 rfl rfl rfl rfl ?_
  refine k_lt hK dX12_variable_6 (tgt := 26) rfl (fun h1 => ?_) (fun h1 => ?_)
  · have hF := hF.1 h1
    refine k_bi hK dX12_variable_26 cb_m10 ?_
    exact k_iret hK dX12_variable_28 rfl rfl (done_0 rfl rfl) (qC_i hF)
  · have hF := hF.2 h1
    refine k_ld hK 1 dX12_variable_9 rfl rfl rfl rfl ?_
    refine k_ld hK 0 dX12_variable_10 rfl rfl rfl rfl ?_
    refine k_gI hK dX12_variable_11 lf_X12_317 rfl (sc_80 hs) ((up_nk (by decide)).trans rfl) ?_
    refine k_cge hK dX12_variable_14 (tgt := 26) rfl (fun h2 => ?_) (fun h2 => ?_)
    · have hF := hF.1 h2
      refine k_bi hK dX12_variable_26 cb_m10 ?_
      exact k_iret hK dX12_variable_28 rfl rfl (done_0 rfl rfl) (qC_i hF)
    · have hF := hF.2 h2
      refine k_ld hK 2 dX12_variable_17 rfl rfl rfl rfl ?_
      refine k_lt hK dX12_variable_18 (tgt := 26) rfl (fun h3 => ?_) (fun h3 => ?_)
      · have hF := hF.1 h3
        refine k_bi hK dX12_variable_26 cb_m10 ?_
        exact k_iret hK dX12_variable_28 rfl rfl (done_0 rfl rfl) (qC_i hF)
      · have hF := hF.2 h3
        refine k_ld hK 2 dX12_variable_21 rfl rfl rfl rfl ?_
        refine k_ic hK dX12_variable_22 ci_1 ?_
        refine k_cle hK dX12_variable_23 (tgt := 29) rfl (fun h4 => ?_) (fun h4 => ?_)
        · have hF := hF.1 h4
          refine k_ld hK 2 dX12_variable_29 rfl rfl rfl rfl ?_
          refine k_ne hK dX12_variable_30 (tgt := 43) rfl (fun h5 => ?_) (fun h5 => ?_)
          · have hF := hF.1 h5
            refine k_ld hK 0 dX12_variable_43 rfl rfl rfl rfl ?_
            refine k_gR hK dX12_variable_44 lf_X12_78 rfl (sc_80 hs) (sf_80_49 hs) ?_
            refine k_ld hK 1 dX12_variable_47 rfl rfl rfl rfl ?_
            obtain ⟨n6, i7, j8, hF⟩ := hF
            refine k_iald hK dX12_variable_48 (sc_102 hs) sn_102 (by decide) i7 j8 ((up_na (by decide)).trans rfl) ?_
            exact k_iret hK dX12_variable_49 rfl rfl (done_0 rfl rfl) (qC_i hF)
          · have hF := hF.2 h5
            refine k_ld hK 0 dX12_variable_33 rfl rfl rfl rfl ?_
            refine k_gR hK dX12_variable_34 lf_X12_75 rfl (sc_80 hs) (sf_80_48 hs) ?_
            refine k_ld hK 1 dX12_variable_37 rfl rfl rfl rfl ?_
            obtain ⟨n9, i10, j11, hF⟩ := hF
            refine k_lald hK dX12_variable_38 (sc_101 hs) sn_101 (by decide) i10 j11 rfl ?_
            refine k_op hK dX12_variable_39 rfl rfl ?_
            refine k_goto hK dX12_variable_40 (tgt := 49) rfl ?_
            exact k_iret hK dX12_variable_49 rfl rfl (done_0 rfl rfl) (qC_i hF)
        · have hF := hF.2 h4
          refine k_bi hK dX12_variable_26 cb_m10 ?_
          exact k_iret hK dX12_variable_28 rfl rfl (done_0 rfl rfl) (qC_i hF)
theorem e_X12_variable {d : Nat} {Q : Int32 → HI → Prop} {I : HI} {J : HJ} {R : HR} {x1 : Int32} {x2 : Int32} (hs : Stat R)  (hF : ((x1 < 0 → Q (-10) (up I 80 0 0)) ∧ (¬ x1 < 0 → (((I 80 32) ≤ x1 → Q (-10) (up I 80 0 0)) ∧ (¬ (I 80 32) ≤ x1 → ((x2 < 0 → Q (-10) (up I 80 0 0)) ∧ (¬ x2 < 0 → ((x2 ≤ 1 → ((¬ x2 = 0 → (∃ n6 : Nat, x1 = nI n6 ∧ n6 < 8 ∧ Q (I 102 n6) (up I 80 0 0))) ∧ (x2 = 0 → (∃ n9 : Nat, x1 = nI n9 ∧ n9 < 8 ∧ Q (Int64.toInt32 (J 101 n9)) (up I 80 0 0))))) ∧ (¬ x2 ≤ 1 → Q (-10) (up I 80 0 0)))))))))) : Wc fi (d + 1) M_X12_variable [.ref 80, .int x1, .int x2] I J R Q := ⟨Nat.le_of_ble_eq_true rfl, fun K hK => g_X12_variable_0 hK hs hF⟩
set_option maxHeartbeats 4000000 in
theorem g_X12_cell_0 {d : Nat} {K : KT} {Q : Int32 → HI → Prop} {I : HI} {J : HJ} {R : HR} {x1 : Int32} {x2 : Int32} (hK : am_R M_X12_cell (am_W d) none R (qC fi J R Q) K) (hs : Stat R)  (hF : ((x1 < 0 → Q (-10) (up I 80 0 0)) ∧ (¬ x1 < 0 → (((I 80 34) ≤ x1 → Q (-10) (up I 80 0 0)) ∧ (¬ (I 80 34) ≤ x1 → ((x2 < 0 → Q (-10) (up I 80 0 0)) ∧ (¬ x2 < 0 → ((x2 ≤ 1 → ((¬ x2 = 0 → (∃ n6 : Nat, x1 = nI n6 ∧ n6 < 48 ∧ Q (I 104 n6) (up I 80 0 0))) ∧ (x2 = 0 → (∃ n9 : Nat, x1 = nI n9 ∧ n9 < 48 ∧ Q (Int64.toInt32 (J 103 n9)) (up I 80 0 0))))) ∧ (¬ x2 ≤ 1 → Q (-10) (up I 80 0 0)))))))))) : K 0 [(0, .ref 80), (1, .int x1), (2, .int x2)] [] I J R := by
  refine k_ld hK 0 dX12_cell_0 rfl rfl rfl rfl ?_
  refine k_ic hK dX12_cell_1 ci_0 ?_
  refine k_pI hK dX12_cell_2 lf_X12_142 rfl rfl rfl (sc_80 hs) ?_
  refine k_ld hK 1 dX12_cell_5 rfl rfl rfl rfl ?_
  refine k_lt hK dX12_cell_6 (tgt := 26) rfl (fun h1 => ?_) (fun h1 => ?_)
  · have hF := hF.1 h1
    refine k_bi hK dX12_cell_26 cb_m10 ?_
    exact k_iret hK dX12_cell_28 rfl rfl (done_0 rfl rfl) (qC_i hF)
  · have hF := hF.2 h1
    refine k_ld hK 1 dX12_cell_9 rfl rfl rfl rfl ?_
    refine k_ld hK 0 dX12_cell_10 rfl rfl rfl rfl ?_
    refine k_gI hK dX12_cell_11 lf_X12_323 rfl (sc_80 hs) ((up_nk (by decide)).trans rfl) ?_
    refine k_cge hK dX12_cell_14 (tgt := 26) rfl (fun h2 => ?_) (fun h2 => ?_)
    · have hF := hF.1 h2
      refine k_bi hK dX12_cell_26 cb_m10 ?_
      exact k_iret hK dX12_cell_28 rfl rfl (done_0 rfl rfl) (qC_i hF)
    · have hF := hF.2 h2
      refine k_ld hK 2 dX12_cell_17 rfl rfl rfl rfl ?_
      refine k_lt hK dX12_cell_18 (tgt := 26) rfl (fun h3 => ?_) (fun h3 => ?_)
      · have hF := hF.1 h3
        refine k_bi hK dX12_cell_26 cb_m10 ?_
        exact k_iret hK dX12_cell_28 rfl rfl (done_0 rfl rfl) (qC_i hF)
      · have hF := hF.2 h3
        refine k_ld hK 2 dX12_cell_21 rfl rfl rfl rfl ?_
        refine k_ic hK dX12_cell_22 ci_1 ?_
        refine k_cle hK dX12_cell_23 (tgt := 29) rfl (fun h4 => ?_) (fun h4 => ?_)
        · have hF := hF.1 h4
          refine k_ld hK 2 dX12_cell_29 rfl rfl rfl rfl ?_
          refine k_ne hK dX12_cell_30 (tgt := 43) rfl (fun h5 => ?_) (fun h5 => ?_)
          · have hF := hF.1 h5
            refine k_ld hK 0 dX12_cell_43 rfl rfl rfl rfl ?_
            refine k_gR hK dX12_cell_44 lf_X12_84 rfl (sc_80 hs) (sf_80_51 hs) ?_
            refine k_ld hK 1 dX12_cell_47 rfl rfl rfl rfl ?_
            obtain ⟨n6, i7, j8, hF⟩ := hF
            refine k_iald hK dX12_cell_48 (sc_104 hs) sn_104 (by decide) i7 j8 ((up_na (by decide)).trans rfl) ?_
            exact k_iret hK dX12_cell_49 rfl rfl (done_0 rfl rfl) (qC_i hF)
          · have hF := hF.2 h5
            refine k_ld hK 0 dX12_cell_33 rfl rfl rfl rfl ?_
            refine k_gR hK dX12_cell_34 lf_X12_81 rfl (sc_80 hs) (sf_80_50 hs) ?_
            refine k_ld hK 1 dX12_cell_37 rfl rfl rfl rfl ?_
            obtain ⟨n9, i10, j11, hF⟩ := hF
            refine k_lald hK dX12_cell_38 (sc_103 hs) sn_103 (by decide) i10 j11 rfl ?_
            refine k_op hK dX12_cell_39 rfl rfl ?_
            refine k_goto hK dX12_cell_40 (tgt := 49) rfl ?_
            exact k_iret hK dX12_cell_49 rfl rfl (done_0 rfl rfl) (qC_i hF)
        · have hF := hF.2 h4
          refine k_bi hK dX12_cell_26 cb_m10 ?_
          exact k_iret hK dX12_cell_28 rfl rfl (done_0 rfl rfl) (qC_i hF)
theorem e_X12_cell {d : Nat} {Q : Int32 → HI → Prop} {I : HI} {J : HJ} {R : HR} {x1 : Int32} {x2 : Int32} (hs : Stat R)  (hF : ((x1 < 0 → Q (-10) (up I 80 0 0)) ∧ (¬ x1 < 0 → (((I 80 34) ≤ x1 → Q (-10) (up I 80 0 0)) ∧ (¬ (I 80 34) ≤ x1 → ((x2 < 0 → Q (-10) (up I 80 0 0)) ∧ (¬ x2 < 0 → ((x2 ≤ 1 → ((¬ x2 = 0 → (∃ n6 : Nat, x1 = nI n6 ∧ n6 < 48 ∧ Q (I 104 n6) (up I 80 0 0))) ∧ (x2 = 0 → (∃ n9 : Nat, x1 = nI n9 ∧ n9 < 48 ∧ Q (Int64.toInt32 (J 103 n9)) (up I 80 0 0))))) ∧ (¬ x2 ≤ 1 → Q (-10) (up I 80 0 0)))))))))) : Wc fi (d + 1) M_X12_cell [.ref 80, .int x1, .int x2] I J R Q := ⟨Nat.le_of_ble_eq_true rfl, fun K hK => g_X12_cell_0 hK hs hF⟩
set_option maxHeartbeats 4000000 in
theorem g_X12_isOut_0 {d : Nat} {K : KT} {Q : Bool → Prop} {I : HI} {J : HJ} {R : HR} {x1 : Int32} (hK : am_R M_X12_isOut (am_W d) none R (qP fb I J R Q) K) (hs : Stat R)  (hF : ((x1 < 0 → Q false) ∧ (¬ x1 < 0 → (((I 80 54) ≤ x1 → Q false) ∧ (¬ (I 80 54) ≤ x1 → Q true))))) : K 0 [(0, .ref 80), (1, .int x1)] [] I J R := by
  refine k_ld hK 1 dX12_isOut_0 rfl rfl rfl rfl ?_
  refine k_lt hK dX12_isOut_1 (tgt := 16) rfl (fun h1 => ?_) (fun h1 => ?_)
  · have hF := hF.1 h1
    refine k_ic hK dX12_isOut_16 ci_0 ?_
    exact k_iret (x := b2i false) hK dX12_isOut_17 rfl (b2i_nar _) (done_0 rfl rfl) (qP_i hF)
  · have hF := hF.2 h1
    refine k_ld hK 1 dX12_isOut_4 rfl rfl rfl rfl ?_
    refine k_ld hK 0 dX12_isOut_5 rfl rfl rfl rfl ?_
    refine k_gI hK dX12_isOut_6 lf_X12_356 rfl (sc_80 hs) rfl ?_
    refine k_cge hK dX12_isOut_9 (tgt := 16) rfl (fun h2 => ?_) (fun h2 => ?_)
    · have hF := hF.1 h2
      refine k_ic hK dX12_isOut_16 ci_0 ?_
      exact k_iret (x := b2i false) hK dX12_isOut_17 rfl (b2i_nar _) (done_0 rfl rfl) (qP_i hF)
    · have hF := hF.2 h2
      refine k_ic hK dX12_isOut_12 ci_1 ?_
      refine k_goto hK dX12_isOut_13 (tgt := 17) rfl ?_
      exact k_iret (x := b2i true) hK dX12_isOut_17 rfl (b2i_nar _) (done_0 rfl rfl) (qP_i hF)
theorem e_X12_isOut {d : Nat} {Q : Bool → Prop} {I : HI} {J : HJ} {R : HR} {x1 : Int32} (hs : Stat R)  (hF : ((x1 < 0 → Q false) ∧ (¬ x1 < 0 → (((I 80 54) ≤ x1 → Q false) ∧ (¬ (I 80 54) ≤ x1 → Q true))))) : Wp fb (d + 1) M_X12_isOut [.ref 80, .int x1] I J R Q := ⟨Nat.le_of_ble_eq_true rfl, fun K hK => g_X12_isOut_0 hK hs hF⟩
set_option maxHeartbeats 4000000 in
theorem g_X12_isInput_0 {d : Nat} {K : KT} {Q : Bool → Prop} {I : HI} {J : HJ} {R : HR} {x1 : Int32} (hK : am_R M_X12_isInput (am_W d) none R (qP fb I J R Q) K) (hs : Stat R)  (hF : ((x1 < 0 → Q false) ∧ (¬ x1 < 0 → (((I 80 31) ≤ x1 → Q false) ∧ (¬ (I 80 31) ≤ x1 → Q true))))) : K 0 [(0, .ref 80), (1, .int x1)] [] I J R := by
  refine k_ld hK 1 dX12_isInput_0 rfl rfl rfl rfl ?_
  refine k_lt hK dX12_isInput_1 (tgt := 16) rfl (fun h1 => ?_) (fun h1 => ?_)
  · have hF := hF.1 h1
    refine k_ic hK dX12_isInput_16 ci_0 ?_
    exact k_iret (x := b2i false) hK dX12_isInput_17 rfl (b2i_nar _) (done_0 rfl rfl) (qP_i hF)
  · have hF := hF.2 h1
    refine k_ld hK 1 dX12_isInput_4 rfl rfl rfl rfl ?_
    refine k_ld hK 0 dX12_isInput_5 rfl rfl rfl rfl ?_
    refine k_gI hK dX12_isInput_6 lf_X12_314 rfl (sc_80 hs) rfl ?_
    refine k_cge hK dX12_isInput_9 (tgt := 16) rfl (fun h2 => ?_) (fun h2 => ?_)
    · have hF := hF.1 h2
      refine k_ic hK dX12_isInput_16 ci_0 ?_
      exact k_iret (x := b2i false) hK dX12_isInput_17 rfl (b2i_nar _) (done_0 rfl rfl) (qP_i hF)
    · have hF := hF.2 h2
      refine k_ic hK dX12_isInput_12 ci_1 ?_
      refine k_goto hK dX12_isInput_13 (tgt := 17) rfl ?_
      exact k_iret (x := b2i true) hK dX12_isInput_17 rfl (b2i_nar _) (done_0 rfl rfl) (qP_i hF)
theorem e_X12_isInput {d : Nat} {Q : Bool → Prop} {I : HI} {J : HJ} {R : HR} {x1 : Int32} (hs : Stat R)  (hF : ((x1 < 0 → Q false) ∧ (¬ x1 < 0 → (((I 80 31) ≤ x1 → Q false) ∧ (¬ (I 80 31) ≤ x1 → Q true))))) : Wp fb (d + 1) M_X12_isInput [.ref 80, .int x1] I J R Q := ⟨Nat.le_of_ble_eq_true rfl, fun K hK => g_X12_isInput_0 hK hs hF⟩
set_option maxHeartbeats 4000000 in
theorem g_X12_isEntry_0 {d : Nat} {K : KT} {Q : Bool → Prop} {I : HI} {J : HJ} {R : HR} {x1 : Int32} (hK : am_R M_X12_isEntry (am_W d) none R (qP fb I J R Q) K) (hs : Stat R)  (hF : ((x1 < 0 → Q false) ∧ (¬ x1 < 0 → (((I 80 44) ≤ x1 → Q false) ∧ (¬ (I 80 44) ≤ x1 → Q true))))) : K 0 [(0, .ref 80), (1, .int x1)] [] I J R := by
  refine k_ld hK 1 dX12_isEntry_0 rfl rfl rfl rfl ?_
  refine k_lt hK dX12_isEntry_1 (tgt := 16) rfl (fun h1 => ?_) (fun h1 => ?_)
  · have hF := hF.1 h1
    refine k_ic hK dX12_isEntry_16 ci_0 ?_
    exact k_iret (x := b2i false) hK dX12_isEntry_17 rfl (b2i_nar _) (done_0 rfl rfl) (qP_i hF)
  · have hF := hF.2 h1
    refine k_ld hK 1 dX12_isEntry_4 rfl rfl rfl rfl ?_
    refine k_ld hK 0 dX12_isEntry_5 rfl rfl rfl rfl ?_
    refine k_gI hK dX12_isEntry_6 lf_X12_353 rfl (sc_80 hs) rfl ?_
    refine k_cge hK dX12_isEntry_9 (tgt := 16) rfl (fun h2 => ?_) (fun h2 => ?_)
    · have hF := hF.1 h2
      refine k_ic hK dX12_isEntry_16 ci_0 ?_
      exact k_iret (x := b2i false) hK dX12_isEntry_17 rfl (b2i_nar _) (done_0 rfl rfl) (qP_i hF)
    · have hF := hF.2 h2
      refine k_ic hK dX12_isEntry_12 ci_1 ?_
      refine k_goto hK dX12_isEntry_13 (tgt := 17) rfl ?_
      exact k_iret (x := b2i true) hK dX12_isEntry_17 rfl (b2i_nar _) (done_0 rfl rfl) (qP_i hF)
theorem e_X12_isEntry {d : Nat} {Q : Bool → Prop} {I : HI} {J : HJ} {R : HR} {x1 : Int32} (hs : Stat R)  (hF : ((x1 < 0 → Q false) ∧ (¬ x1 < 0 → (((I 80 44) ≤ x1 → Q false) ∧ (¬ (I 80 44) ≤ x1 → Q true))))) : Wp fb (d + 1) M_X12_isEntry [.ref 80, .int x1] I J R Q := ⟨Nat.le_of_ble_eq_true rfl, fun K hK => g_X12_isEntry_0 hK hs hF⟩
set_option maxHeartbeats 4000000 in
theorem g_X12_out_0 {d : Nat} {K : KT} {Q : Int32 → HI → Prop} {I : HI} {J : HJ} {R : HR} {x1 : Int32} {x2 : Int32} (hK : am_R M_X12_out (am_W d) none R (qC fi J R Q) K) (hs : Stat R)  (hF : Wp fb d M_X12_isOut [.ref 80, .int x1] (up I 80 0 0) J R (fun b1 => ((b1 = false → Q (-10) (up I 80 0 0)) ∧ (b1 = true → ((x2 < 0 → Q (-10) (up I 80 0 0)) ∧ (¬ x2 < 0 → ((x2 ≤ 1 → ((¬ x2 = 0 → (∃ n6 : Nat, x1 = nI n6 ∧ n6 < 20 ∧ Q (I 106 n6) (up I 80 0 0))) ∧ (x2 = 0 → (∃ n9 : Nat, x1 = nI n9 ∧ n9 < 20 ∧ Q (Int64.toInt32 (J 105 n9)) (up I 80 0 0))))) ∧ (¬ x2 ≤ 1 → Q (-10) (up I 80 0 0))))))))) : K 0 [(0, .ref 80), (1, .int x1), (2, .int x2)] [] I J R := by
  refine k_ld hK 0 dX12_out_0 rfl rfl rfl rfl ?_
  refine k_ic hK dX12_out_1 ci_0 ?_
  refine k_pI hK dX12_out_2 lf_X12_142 rfl rfl rfl (sc_80 hs) ?_
  refine k_ld hK 0 dX12_out_5 rfl rfl rfl rfl ?_
  refine k_ld hK 1 dX12_out_6 rfl rfl rfl rfl ?_
  refine k_cVp hK dX12_out_7 (Or.inl lm_X12_420) (As := [.int x1]) (S := []) rfl (sc_80 hs) (Nat.le_of_ble_eq_true rfl) (fit_0 rfl rfl) rfl hF (fun b1 hF => ?_)
  show K _ _ [.int (b2i b1)] _ _ _
  refine k_beq hK dX12_out_10 (tgt := 22) rfl (fun h2 => ?_) (fun h2 => ?_)
  · have hF := hF.1 h2
    refine k_bi hK dX12_out_22 cb_m10 ?_
    exact k_iret hK dX12_out_24 rfl rfl (done_0 rfl rfl) (qC_i hF)
  · have hF := hF.2 h2
    refine k_ld hK 2 dX12_out_13 rfl rfl rfl rfl ?_
    refine k_lt hK dX12_out_14 (tgt := 22) rfl (fun h3 => ?_) (fun h3 => ?_)
    · have hF := hF.1 h3
      refine k_bi hK dX12_out_22 cb_m10 ?_
      exact k_iret hK dX12_out_24 rfl rfl (done_0 rfl rfl) (qC_i hF)
    · have hF := hF.2 h3
      refine k_ld hK 2 dX12_out_17 rfl rfl rfl rfl ?_
      refine k_ic hK dX12_out_18 ci_1 ?_
      refine k_cle hK dX12_out_19 (tgt := 25) rfl (fun h4 => ?_) (fun h4 => ?_)
      · have hF := hF.1 h4
        refine k_ld hK 2 dX12_out_25 rfl rfl rfl rfl ?_
        refine k_ne hK dX12_out_26 (tgt := 39) rfl (fun h5 => ?_) (fun h5 => ?_)
        · have hF := hF.1 h5
          refine k_ld hK 0 dX12_out_39 rfl rfl rfl rfl ?_
          refine k_gR hK dX12_out_40 lf_X12_90 rfl (sc_80 hs) (sf_80_53 hs) ?_
          refine k_ld hK 1 dX12_out_43 rfl rfl rfl rfl ?_
          obtain ⟨n6, i7, j8, hF⟩ := hF
          refine k_iald hK dX12_out_44 (sc_106 hs) sn_106 (by decide) i7 j8 ((up_na (by decide)).trans rfl) ?_
          exact k_iret hK dX12_out_45 rfl rfl (done_0 rfl rfl) (qC_i hF)
        · have hF := hF.2 h5
          refine k_ld hK 0 dX12_out_29 rfl rfl rfl rfl ?_
          refine k_gR hK dX12_out_30 lf_X12_87 rfl (sc_80 hs) (sf_80_52 hs) ?_
          refine k_ld hK 1 dX12_out_33 rfl rfl rfl rfl ?_
          obtain ⟨n9, i10, j11, hF⟩ := hF
          refine k_lald hK dX12_out_34 (sc_105 hs) sn_105 (by decide) i10 j11 rfl ?_
          refine k_op hK dX12_out_35 rfl rfl ?_
          refine k_goto hK dX12_out_36 (tgt := 45) rfl ?_
          exact k_iret hK dX12_out_45 rfl rfl (done_0 rfl rfl) (qC_i hF)
      · have hF := hF.2 h4
        refine k_bi hK dX12_out_22 cb_m10 ?_
        exact k_iret hK dX12_out_24 rfl rfl (done_0 rfl rfl) (qC_i hF)
theorem e_X12_out {d : Nat} {Q : Int32 → HI → Prop} {I : HI} {J : HJ} {R : HR} {x1 : Int32} {x2 : Int32} (hs : Stat R)  (hF : Wp fb d M_X12_isOut [.ref 80, .int x1] (up I 80 0 0) J R (fun b1 => ((b1 = false → Q (-10) (up I 80 0 0)) ∧ (b1 = true → ((x2 < 0 → Q (-10) (up I 80 0 0)) ∧ (¬ x2 < 0 → ((x2 ≤ 1 → ((¬ x2 = 0 → (∃ n6 : Nat, x1 = nI n6 ∧ n6 < 20 ∧ Q (I 106 n6) (up I 80 0 0))) ∧ (x2 = 0 → (∃ n9 : Nat, x1 = nI n9 ∧ n9 < 20 ∧ Q (Int64.toInt32 (J 105 n9)) (up I 80 0 0))))) ∧ (¬ x2 ≤ 1 → Q (-10) (up I 80 0 0))))))))) : Wc fi (d + 1) M_X12_out [.ref 80, .int x1, .int x2] I J R Q := ⟨Nat.le_of_ble_eq_true rfl, fun K hK => g_X12_out_0 hK hs hF⟩
set_option maxHeartbeats 4000000 in
theorem g_X12_run_0 {d : Nat} {K : KT} {Q : Int32 → HI → Prop} {I : HI} {J : HJ} {R : HR} {x1 : Int32} (hK : am_R M_X12_run (am_W d) none R (qC fi J R Q) K) (hs : Stat R)  (hF : ((x1 = 0 → Q (I 80 59) (up I 80 0 0)) ∧ (¬ x1 = 0 → ((x1 = 1 → Q (I 80 60) (up I 80 0 0)) ∧ (¬ x1 = 1 → ((x1 = 2 → Q (I 80 61) (up I 80 0 0)) ∧ (¬ x1 = 2 → ((x1 = 3 → Q (I 80 54) (up I 80 0 0)) ∧ (¬ x1 = 3 → ((x1 = 4 → Q (I 80 44) (up I 80 0 0)) ∧ (¬ x1 = 4 → ((x1 = 5 → Q (I 80 56) (up I 80 0 0)) ∧ (¬ x1 = 5 → ((x1 = 6 → Q (I 80 57) (up I 80 0 0)) ∧ (¬ x1 = 6 → Q (-1) (up I 80 0 0)))))))))))))))) : K 0 [(0, .ref 80), (1, .int x1)] [] I J R := by
  refine k_ld hK 0 dX12_run_0 rfl rfl rfl rfl ?_
  refine k_ic hK dX12_run_1 ci_0 ?_
  refine k_pI hK dX12_run_2 lf_X12_142 rfl rfl rfl (sc_80 hs) ?_
  refine k_ld hK 1 dX12_run_5 rfl rfl rfl rfl ?_
  refine k_tab hK dX12_run_6 (cs := [(0, 48), (1, 53), (2, 58), (3, 63), (4, 68), (5, 73), (6, 78)]) (td := 83) (by decide) (by decide) ?_
  refine swc (fun h1 => ?_) (fun h1 => ?_)
  · have hF := hF.1 h1
    refine k_ld hK 0 dX12_run_48 rfl rfl rfl rfl ?_
    refine k_gI hK dX12_run_49 lf_X12_365 rfl (sc_80 hs) ((up_nk (by decide)).trans rfl) ?_
    exact k_iret hK dX12_run_52 rfl rfl (done_0 rfl rfl) (qC_i hF)
  have hF := hF.2 h1
  refine swc (fun h2 => ?_) (fun h2 => ?_)
  · have hF := hF.1 h2
    refine k_ld hK 0 dX12_run_53 rfl rfl rfl rfl ?_
    refine k_gI hK dX12_run_54 lf_X12_368 rfl (sc_80 hs) ((up_nk (by decide)).trans rfl) ?_
    exact k_iret hK dX12_run_57 rfl rfl (done_0 rfl rfl) (qC_i hF)
  have hF := hF.2 h2
  refine swc (fun h3 => ?_) (fun h3 => ?_)
  · have hF := hF.1 h3
    refine k_ld hK 0 dX12_run_58 rfl rfl rfl rfl ?_
    refine k_gI hK dX12_run_59 lf_X12_371 rfl (sc_80 hs) ((up_nk (by decide)).trans rfl) ?_
    exact k_iret hK dX12_run_62 rfl rfl (done_0 rfl rfl) (qC_i hF)
  have hF := hF.2 h3
  refine swc (fun h4 => ?_) (fun h4 => ?_)
  · have hF := hF.1 h4
    refine k_ld hK 0 dX12_run_63 rfl rfl rfl rfl ?_
    refine k_gI hK dX12_run_64 lf_X12_356 rfl (sc_80 hs) ((up_nk (by decide)).trans rfl) ?_
    exact k_iret hK dX12_run_67 rfl rfl (done_0 rfl rfl) (qC_i hF)
  have hF := hF.2 h4
  refine swc (fun h5 => ?_) (fun h5 => ?_)
  · have hF := hF.1 h5
    refine k_ld hK 0 dX12_run_68 rfl rfl rfl rfl ?_
    refine k_gI hK dX12_run_69 lf_X12_353 rfl (sc_80 hs) ((up_nk (by decide)).trans rfl) ?_
    exact k_iret hK dX12_run_72 rfl rfl (done_0 rfl rfl) (qC_i hF)
  have hF := hF.2 h5
  refine swc (fun h6 => ?_) (fun h6 => ?_)
  · have hF := hF.1 h6
    refine k_ld hK 0 dX12_run_73 rfl rfl rfl rfl ?_
    refine k_gI hK dX12_run_74 lf_X12_359 rfl (sc_80 hs) ((up_nk (by decide)).trans rfl) ?_
    exact k_iret hK dX12_run_77 rfl rfl (done_0 rfl rfl) (qC_i hF)
  have hF := hF.2 h6
  refine swc (fun h7 => ?_) (fun h7 => ?_)
  · have hF := hF.1 h7
    refine k_ld hK 0 dX12_run_78 rfl rfl rfl rfl ?_
    refine k_gI hK dX12_run_79 lf_X12_362 rfl (sc_80 hs) ((up_nk (by decide)).trans rfl) ?_
    exact k_iret hK dX12_run_82 rfl rfl (done_0 rfl rfl) (qC_i hF)
  have hF := hF.2 h7
  refine swn ?_
  refine k_ic hK dX12_run_83 ci_m1 ?_
  exact k_iret hK dX12_run_84 rfl rfl (done_0 rfl rfl) (qC_i hF)
theorem e_X12_run {d : Nat} {Q : Int32 → HI → Prop} {I : HI} {J : HJ} {R : HR} {x1 : Int32} (hs : Stat R)  (hF : ((x1 = 0 → Q (I 80 59) (up I 80 0 0)) ∧ (¬ x1 = 0 → ((x1 = 1 → Q (I 80 60) (up I 80 0 0)) ∧ (¬ x1 = 1 → ((x1 = 2 → Q (I 80 61) (up I 80 0 0)) ∧ (¬ x1 = 2 → ((x1 = 3 → Q (I 80 54) (up I 80 0 0)) ∧ (¬ x1 = 3 → ((x1 = 4 → Q (I 80 44) (up I 80 0 0)) ∧ (¬ x1 = 4 → ((x1 = 5 → Q (I 80 56) (up I 80 0 0)) ∧ (¬ x1 = 5 → ((x1 = 6 → Q (I 80 57) (up I 80 0 0)) ∧ (¬ x1 = 6 → Q (-1) (up I 80 0 0)))))))))))))))) : Wc fi (d + 1) M_X12_run [.ref 80, .int x1] I J R Q := ⟨Nat.le_of_ble_eq_true rfl, fun K hK => g_X12_run_0 hK hs hF⟩
set_option maxHeartbeats 4000000 in
theorem g_X12_path_0 {d : Nat} {K : KT} {Q : Int32 → HI → Prop} {I : HI} {J : HJ} {R : HR} {x1 : Int32} (hK : am_R M_X12_path (am_W d) none R (qC fi J R Q) K) (hs : Stat R)  (hF : ((0 ≤ x1 → (((I 80 56) ≤ x1 → Q (-2) (up I 80 0 0)) ∧ (¬ (I 80 56) ≤ x1 → (∃ n3 : Nat, x1 = nI n3 ∧ n3 < 3000 ∧ Q (I 107 n3) (up I 80 0 0))))) ∧ (¬ 0 ≤ x1 → Q (-1) (up I 80 0 0)))) : K 0 [(0, .ref 80), (1, .int x1)] [] I J R := by
  refine k_ld hK 0 dX12_path_0 rfl rfl rfl rfl ?_
  refine k_ic hK dX12_path_1 ci_0 ?_
  refine k_pI hK dX12_path_2 lf_X12_142 rfl rfl rfl (sc_80 hs) ?_
  refine k_ld hK 1 dX12_path_5 rfl rfl rfl rfl ?_
  refine k_ge hK dX12_path_6 (tgt := 13) rfl (fun h1 => ?_) (fun h1 => ?_)
  · have hF := hF.1 h1
    refine k_ld hK 1 dX12_path_13 rfl rfl rfl rfl ?_
    refine k_ld hK 0 dX12_path_14 rfl rfl rfl rfl ?_
    refine k_gI hK dX12_path_15 lf_X12_359 rfl (sc_80 hs) ((up_nk (by decide)).trans rfl) ?_
    refine k_cge hK dX12_path_18 (tgt := 30) rfl (fun h2 => ?_) (fun h2 => ?_)
    · have hF := hF.1 h2
      refine k_bi hK dX12_path_30 cb_m2 ?_
      exact k_iret hK dX12_path_32 rfl rfl (done_0 rfl rfl) (qC_i hF)
    · have hF := hF.2 h2
      refine k_ld hK 0 dX12_path_21 rfl rfl rfl rfl ?_
      refine k_gR hK dX12_path_22 lf_X12_93 rfl (sc_80 hs) (sf_80_55 hs) ?_
      refine k_ld hK 1 dX12_path_25 rfl rfl rfl rfl ?_
      obtain ⟨n3, i4, j5, hF⟩ := hF
      refine k_iald hK dX12_path_26 (sc_107 hs) sn_107 (by decide) i4 j5 ((up_na (by decide)).trans rfl) ?_
      refine k_goto hK dX12_path_27 (tgt := 32) rfl ?_
      exact k_iret hK dX12_path_32 rfl rfl (done_0 rfl rfl) (qC_i hF)
  · have hF := hF.2 h1
    refine k_ic hK dX12_path_9 ci_m1 ?_
    refine k_goto hK dX12_path_10 (tgt := 32) rfl ?_
    exact k_iret hK dX12_path_32 rfl rfl (done_0 rfl rfl) (qC_i hF)
theorem e_X12_path {d : Nat} {Q : Int32 → HI → Prop} {I : HI} {J : HJ} {R : HR} {x1 : Int32} (hs : Stat R)  (hF : ((0 ≤ x1 → (((I 80 56) ≤ x1 → Q (-2) (up I 80 0 0)) ∧ (¬ (I 80 56) ≤ x1 → (∃ n3 : Nat, x1 = nI n3 ∧ n3 < 3000 ∧ Q (I 107 n3) (up I 80 0 0))))) ∧ (¬ 0 ≤ x1 → Q (-1) (up I 80 0 0)))) : Wc fi (d + 1) M_X12_path [.ref 80, .int x1] I J R Q := ⟨Nat.le_of_ble_eq_true rfl, fun K hK => g_X12_path_0 hK hs hF⟩
set_option maxHeartbeats 4000000 in
theorem g_X12_laysOn_0 {d : Nat} {K : KT} {Q : Unit → HI → Prop} {I : HI} {J : HJ} {R : HR} {x1 : Int32} (hK : am_R M_X12_laysOn (am_W d) none R (qC fv J R Q) K) (hs : Stat R)  (hF : K 2 [(0, .ref 80), (1, .int x1), (2, .int 0)] [] I J R) : K 0 [(0, .ref 80), (1, .int x1)] [] I J R := by
  refine k_ic hK dX12_laysOn_0 ci_0 ?_
  refine k_st hK dX12_laysOn_1 rfl rfl rfl (Nat.le_of_ble_eq_true rfl) rfl ?_
  exact k_sub hK [1, 2, 0] rfl hF
set_option maxHeartbeats 4000000 in
theorem g_X12_laysOn_2 {d : Nat} {K : KT} {Q : Unit → HI → Prop} {I : HI} {J : HJ} {R : HR} {x1 : Int32} {x2 : Int32} (hK : am_R M_X12_laysOn (am_W d) none R (qC fv J R Q) K) (hs : Stat R)  (hF : (((I 80 44) ≤ x2 → Q () I) ∧ (¬ (I 80 44) ≤ x2 → ((x2 = x1 → (∃ n3 : Nat, x2 = nI n3 ∧ n3 < 400 ∧ K 2 [(0, .ref 80), (1, .int x1), (2, .int (x2 + 1))] [] (up I 109 n3 1) J R)) ∧ (¬ x2 = x1 → (∃ n6 : Nat, x2 = nI n6 ∧ n6 < 400 ∧ Wp fb d M_X12_isOn [.ref 80, .int (I 96 n6), .int x1] I J R (fun b9 => ((b9 = true → K 2 [(0, .ref 80), (1, .int x1), (2, .int (x2 + 1))] [] (up I 109 n6 1) J R) ∧ (b9 = false → Wp fb d M_X12_isOn [.ref 80, .int (I 97 n6), .int x1] I J R (fun b11 => ((b11 = false → K 2 [(0, .ref 80), (1, .int x1), (2, .int (x2 + 1))] [] (up I 109 n6 0) J R) ∧ (b11 = true → K 2 [(0, .ref 80), (1, .int x1), (2, .int (x2 + 1))] [] (up I 109 n6 1) J R)))))))))))) : K 2 [(0, .ref 80), (1, .int x1), (2, .int x2)] [] I J R := by
  refine k_ld hK 2 dX12_laysOn_2 rfl rfl rfl rfl ?_
  refine k_ld hK 0 dX12_laysOn_3 rfl rfl rfl rfl ?_
  refine k_gI hK dX12_laysOn_4 lf_X12_353 rfl (sc_80 hs) rfl ?_
  refine k_cge hK dX12_laysOn_7 (tgt := 60) rfl (fun h1 => ?_) (fun h1 => ?_)
  · have hF := hF.1 h1
    exact k_vret hK dX12_laysOn_60 rfl (done_0 rfl rfl) (qC_i hF)
  · have hF := hF.2 h1
    refine k_ld hK 0 dX12_laysOn_10 rfl rfl rfl rfl ?_
    refine k_gR hK dX12_laysOn_11 lf_X12_99 rfl (sc_80 hs) (sf_80_62 hs) ?_
    refine k_ld hK 2 dX12_laysOn_14 rfl rfl rfl rfl ?_
    refine k_ld hK 2 dX12_laysOn_15 rfl rfl rfl rfl ?_
    refine k_ld hK 1 dX12_laysOn_16 rfl rfl rfl rfl ?_
    refine k_ceq hK dX12_laysOn_17 (tgt := 48) rfl (fun h2 => ?_) (fun h2 => ?_)
    · have hF := hF.1 h2
      refine k_ic hK dX12_laysOn_48 ci_1 ?_
      refine k_goto hK dX12_laysOn_49 (tgt := 53) rfl ?_
      obtain ⟨n3, i4, j5, hF⟩ := hF
      refine k_bast hK dX12_laysOn_53 (Or.inr ⟨(sc_109 hs), (by decide)⟩) sn_109 (by decide) i4 j5 ?_
      refine k_iinc hK 2 dX12_laysOn_54 (v := (x2 + 1)) rfl (Nat.le_of_ble_eq_true rfl) (congrArg (fun q => x2 + q) ci_1) rfl ?_
      refine k_goto hK dX12_laysOn_57 (tgt := 2) rfl ?_
      exact k_sub hK [1, 2, 0] rfl hF
    · have hF := hF.2 h2
      refine k_ld hK 0 dX12_laysOn_20 rfl rfl rfl rfl ?_
      refine k_ld hK 0 dX12_laysOn_21 rfl rfl rfl rfl ?_
      refine k_gR hK dX12_laysOn_22 lf_X12_60 rfl (sc_80 hs) (sf_80_41 hs) ?_
      refine k_ld hK 2 dX12_laysOn_25 rfl rfl rfl rfl ?_
      obtain ⟨n6, i7, j8, hF⟩ := hF
      refine k_iald hK dX12_laysOn_26 (sc_96 hs) sn_96 (by decide) i7 j8 rfl ?_
      refine k_ld hK 1 dX12_laysOn_27 rfl rfl rfl rfl ?_
      refine k_cVp hK dX12_laysOn_28 (Or.inl lm_X12_423) (As := [.int (I 96 n6), .int x1]) (S := [.int x2, .ref 109]) rfl (sc_80 hs) (Nat.le_of_ble_eq_true rfl) (fit_0 rfl rfl) rfl hF (fun b9 hF => ?_)
      show K _ _ [.int (b2i b9), .int x2, .ref 109] _ _ _
      refine k_bne hK dX12_laysOn_31 (tgt := 48) rfl (fun h10 => ?_) (fun h10 => ?_)
      · have hF := hF.1 h10
        refine k_ic hK dX12_laysOn_48 ci_1 ?_
        refine k_goto hK dX12_laysOn_49 (tgt := 53) rfl ?_
        refine k_bast hK dX12_laysOn_53 (Or.inr ⟨(sc_109 hs), (by decide)⟩) sn_109 (by decide) i7 j8 ?_
        refine k_iinc hK 2 dX12_laysOn_54 (v := (x2 + 1)) rfl (Nat.le_of_ble_eq_true rfl) (congrArg (fun q => x2 + q) ci_1) rfl ?_
        refine k_goto hK dX12_laysOn_57 (tgt := 2) rfl ?_
        exact k_sub hK [1, 2, 0] rfl hF
      · have hF := hF.2 h10
        refine k_ld hK 0 dX12_laysOn_34 rfl rfl rfl rfl ?_
        refine k_ld hK 0 dX12_laysOn_35 rfl rfl rfl rfl ?_
        refine k_gR hK dX12_laysOn_36 lf_X12_63 rfl (sc_80 hs) (sf_80_42 hs) ?_
        refine k_ld hK 2 dX12_laysOn_39 rfl rfl rfl rfl ?_
        refine k_iald hK dX12_laysOn_40 (sc_97 hs) sn_97 (by decide) i7 j8 rfl ?_
        refine k_ld hK 1 dX12_laysOn_41 rfl rfl rfl rfl ?_
        refine k_cVp hK dX12_laysOn_42 (Or.inl lm_X12_423) (As := [.int (I 97 n6), .int x1]) (S := [.int x2, .ref 109]) rfl (sc_80 hs) (Nat.le_of_ble_eq_true rfl) (fit_0 rfl rfl) rfl hF (fun b11 hF => ?_)
        show K _ _ [.int (b2i b11), .int x2, .ref 109] _ _ _
        refine k_beq hK dX12_laysOn_45 (tgt := 52) rfl (fun h12 => ?_) (fun h12 => ?_)
        · have hF := hF.1 h12
          refine k_ic hK dX12_laysOn_52 ci_0 ?_
          refine k_bast hK dX12_laysOn_53 (Or.inr ⟨(sc_109 hs), (by decide)⟩) sn_109 (by decide) i7 j8 ?_
          refine k_iinc hK 2 dX12_laysOn_54 (v := (x2 + 1)) rfl (Nat.le_of_ble_eq_true rfl) (congrArg (fun q => x2 + q) ci_1) rfl ?_
          refine k_goto hK dX12_laysOn_57 (tgt := 2) rfl ?_
          exact k_sub hK [1, 2, 0] rfl hF
        · have hF := hF.2 h12
          refine k_ic hK dX12_laysOn_48 ci_1 ?_
          refine k_goto hK dX12_laysOn_49 (tgt := 53) rfl ?_
          refine k_bast hK dX12_laysOn_53 (Or.inr ⟨(sc_109 hs), (by decide)⟩) sn_109 (by decide) i7 j8 ?_
          refine k_iinc hK 2 dX12_laysOn_54 (v := (x2 + 1)) rfl (Nat.le_of_ble_eq_true rfl) (congrArg (fun q => x2 + q) ci_1) rfl ?_
          refine k_goto hK dX12_laysOn_57 (tgt := 2) rfl ?_
          exact k_sub hK [1, 2, 0] rfl hF
set_option maxHeartbeats 4000000 in
theorem g_X12_isOn_0 {d : Nat} {K : KT} {Q : Bool → Prop} {I : HI} {J : HJ} {R : HR} {x1 : Int32} {x2 : Int32} (hK : am_R M_X12_isOn (am_W d) none R (qP fb I J R Q) K) (hs : Stat R)  (hF : ((x1 = x2 → Q true) ∧ (¬ x1 = x2 → ((x1 < 0 → Q false) ∧ (¬ x1 < 0 → ((1000 ≤ x1 → Q false) ∧ (¬ 1000 ≤ x1 → (∃ n4 : Nat, x1 = nI n4 ∧ n4 < 400 ∧ (((I 109 n4) = 0 → Q false) ∧ (¬ (I 109 n4) = 0 → Q true)))))))))) : K 0 [(0, .ref 80), (1, .int x1), (2, .int x2)] [] I J R := by
  refine k_ld hK 1 dX12_isOn_0 rfl rfl rfl rfl ?_
  refine k_ld hK 2 dX12_isOn_1 rfl rfl rfl rfl ?_
  refine k_ceq hK dX12_isOn_2 (tgt := 25) rfl (fun h1 => ?_) (fun h1 => ?_)
  · have hF := hF.1 h1
    refine k_ic hK dX12_isOn_25 ci_1 ?_
    refine k_goto hK dX12_isOn_26 (tgt := 30) rfl ?_
    exact k_iret (x := b2i true) hK dX12_isOn_30 rfl (b2i_nar _) (done_0 rfl rfl) (qP_i hF)
  · have hF := hF.2 h1
    refine k_ld hK 1 dX12_isOn_5 rfl rfl rfl rfl ?_
    refine k_lt hK dX12_isOn_6 (tgt := 29) rfl (fun h2 => ?_) (fun h2 => ?_)
    · have hF := hF.1 h2
      refine k_ic hK dX12_isOn_29 ci_0 ?_
      exact k_iret (x := b2i false) hK dX12_isOn_30 rfl (b2i_nar _) (done_0 rfl rfl) (qP_i hF)
    · have hF := hF.2 h2
      refine k_ld hK 1 dX12_isOn_9 rfl rfl rfl rfl ?_
      refine k_si hK dX12_isOn_10 cs_1000 ?_
      refine k_cge hK dX12_isOn_13 (tgt := 29) rfl (fun h3 => ?_) (fun h3 => ?_)
      · have hF := hF.1 h3
        refine k_ic hK dX12_isOn_29 ci_0 ?_
        exact k_iret (x := b2i false) hK dX12_isOn_30 rfl (b2i_nar _) (done_0 rfl rfl) (qP_i hF)
      · have hF := hF.2 h3
        refine k_ld hK 0 dX12_isOn_16 rfl rfl rfl rfl ?_
        refine k_gR hK dX12_isOn_17 lf_X12_99 rfl (sc_80 hs) (sf_80_62 hs) ?_
        refine k_ld hK 1 dX12_isOn_20 rfl rfl rfl rfl ?_
        obtain ⟨n4, i5, j6, hF⟩ := hF
        refine k_bald hK dX12_isOn_21 (Or.inr (sc_109 hs)) sn_109 (by decide) i5 j6 rfl ?_
        refine k_eq hK dX12_isOn_22 (tgt := 29) rfl (fun h7 => ?_) (fun h7 => ?_)
        · have hF := hF.1 h7
          refine k_ic hK dX12_isOn_29 ci_0 ?_
          exact k_iret (x := b2i false) hK dX12_isOn_30 rfl (b2i_nar _) (done_0 rfl rfl) (qP_i hF)
        · have hF := hF.2 h7
          refine k_ic hK dX12_isOn_25 ci_1 ?_
          refine k_goto hK dX12_isOn_26 (tgt := 30) rfl ?_
          exact k_iret (x := b2i true) hK dX12_isOn_30 rfl (b2i_nar _) (done_0 rfl rfl) (qP_i hF)
theorem e_X12_isOn {d : Nat} {Q : Bool → Prop} {I : HI} {J : HJ} {R : HR} {x1 : Int32} {x2 : Int32} (hs : Stat R)  (hF : ((x1 = x2 → Q true) ∧ (¬ x1 = x2 → ((x1 < 0 → Q false) ∧ (¬ x1 < 0 → ((1000 ≤ x1 → Q false) ∧ (¬ 1000 ≤ x1 → (∃ n4 : Nat, x1 = nI n4 ∧ n4 < 400 ∧ (((I 109 n4) = 0 → Q false) ∧ (¬ (I 109 n4) = 0 → Q true)))))))))) : Wp fb (d + 1) M_X12_isOn [.ref 80, .int x1, .int x2] I J R Q := ⟨Nat.le_of_ble_eq_true rfl, fun K hK => g_X12_isOn_0 hK hs hF⟩
set_option maxHeartbeats 4000000 in
theorem g_X12_laysBack_0 {d : Nat} {K : KT} {Q : Unit → HI → Prop} {I : HI} {J : HJ} {R : HR} {x1 : Int32} (hK : am_R M_X12_laysBack (am_W d) none R (qC fv J R Q) K) (hs : Stat R)  (hF : K 2 [(0, .ref 80), (1, .int x1), (2, .int 0)] [] I J R) : K 0 [(0, .ref 80), (1, .int x1)] [] I J R := by
  refine k_ic hK dX12_laysBack_0 ci_0 ?_
  refine k_st hK dX12_laysBack_1 rfl rfl rfl (Nat.le_of_ble_eq_true rfl) rfl ?_
  exact k_sub hK [1, 2, 0] rfl hF
set_option maxHeartbeats 4000000 in
theorem g_X12_laysBack_2 {d : Nat} {K : KT} {Q : Unit → HI → Prop} {I : HI} {J : HJ} {R : HR} {x1 : Int32} {x2 : Int32} (hK : am_R M_X12_laysBack (am_W d) none R (qC fv J R Q) K) (hs : Stat R)  (hF : (((I 80 44) ≤ x2 → K 44 [(0, .ref 80), (2, .int ((I 80 44) - 1))] [] I J R) ∧ (¬ (I 80 44) ≤ x2 → (∃ n2 : Nat, x1 = nI n2 ∧ n2 < 20 ∧ ((¬ x2 = (I 106 n2) → (∃ n6 : Nat, x2 = nI n6 ∧ n6 < 400 ∧ K 2 [(0, .ref 80), (1, .int x1), (2, .int (x2 + 1))] [] (up I 109 n6 0) J R)) ∧ (x2 = (I 106 n2) → (∃ n9 : Nat, x2 = nI n9 ∧ n9 < 400 ∧ K 2 [(0, .ref 80), (1, .int x1), (2, .int (x2 + 1))] [] (up I 109 n9 1) J R))))))) : K 2 [(0, .ref 80), (1, .int x1), (2, .int x2)] [] I J R := by
  refine k_ld hK 2 dX12_laysBack_2 rfl rfl rfl rfl ?_
  refine k_ld hK 0 dX12_laysBack_3 rfl rfl rfl rfl ?_
  refine k_gI hK dX12_laysBack_4 lf_X12_353 rfl (sc_80 hs) rfl ?_
  refine k_cge hK dX12_laysBack_7 (tgt := 37) rfl (fun h1 => ?_) (fun h1 => ?_)
  · have hF := hF.1 h1
    refine k_ld hK 0 dX12_laysBack_37 rfl rfl rfl rfl ?_
    refine k_gI hK dX12_laysBack_38 lf_X12_353 rfl (sc_80 hs) rfl ?_
    refine k_ic hK dX12_laysBack_41 ci_1 ?_
    refine k_op hK dX12_laysBack_42 rfl rfl ?_
    refine k_st hK dX12_laysBack_43 rfl rfl rfl (Nat.le_of_ble_eq_true rfl) rfl ?_
    exact k_sub hK [1, 0] rfl hF
  · have hF := hF.2 h1
    refine k_ld hK 0 dX12_laysBack_10 rfl rfl rfl rfl ?_
    refine k_gR hK dX12_laysBack_11 lf_X12_99 rfl (sc_80 hs) (sf_80_62 hs) ?_
    refine k_ld hK 2 dX12_laysBack_14 rfl rfl rfl rfl ?_
    refine k_ld hK 2 dX12_laysBack_15 rfl rfl rfl rfl ?_
    refine k_ld hK 0 dX12_laysBack_16 rfl rfl rfl rfl ?_
    refine k_gR hK dX12_laysBack_17 lf_X12_90 rfl (sc_80 hs) (sf_80_53 hs) ?_
    refine k_ld hK 1 dX12_laysBack_20 rfl rfl rfl rfl ?_
    obtain ⟨n2, i3, j4, hF⟩ := hF
    refine k_iald hK dX12_laysBack_21 (sc_106 hs) sn_106 (by decide) i3 j4 rfl ?_
    refine k_cne hK dX12_laysBack_22 (tgt := 29) rfl (fun h5 => ?_) (fun h5 => ?_)
    · have hF := hF.1 h5
      refine k_ic hK dX12_laysBack_29 ci_0 ?_
      obtain ⟨n6, i7, j8, hF⟩ := hF
      refine k_bast hK dX12_laysBack_30 (Or.inr ⟨(sc_109 hs), (by decide)⟩) sn_109 (by decide) i7 j8 ?_
      refine k_iinc hK 2 dX12_laysBack_31 (v := (x2 + 1)) rfl (Nat.le_of_ble_eq_true rfl) (congrArg (fun q => x2 + q) ci_1) rfl ?_
      refine k_goto hK dX12_laysBack_34 (tgt := 2) rfl ?_
      exact k_sub hK [1, 2, 0] rfl hF
    · have hF := hF.2 h5
      refine k_ic hK dX12_laysBack_25 ci_1 ?_
      refine k_goto hK dX12_laysBack_26 (tgt := 30) rfl ?_
      obtain ⟨n9, i10, j11, hF⟩ := hF
      refine k_bast hK dX12_laysBack_30 (Or.inr ⟨(sc_109 hs), (by decide)⟩) sn_109 (by decide) i10 j11 ?_
      refine k_iinc hK 2 dX12_laysBack_31 (v := (x2 + 1)) rfl (Nat.le_of_ble_eq_true rfl) (congrArg (fun q => x2 + q) ci_1) rfl ?_
      refine k_goto hK dX12_laysBack_34 (tgt := 2) rfl ?_
      exact k_sub hK [1, 2, 0] rfl hF
set_option maxHeartbeats 4000000 in
theorem g_X12_laysBack_44 {d : Nat} {K : KT} {Q : Unit → HI → Prop} {I : HI} {J : HJ} {R : HR} {x2 : Int32} (hK : am_R M_X12_laysBack (am_W d) none R (qC fv J R Q) K) (hs : Stat R)  (hF : ((x2 < 0 → Q () I) ∧ (¬ x2 < 0 → (∃ n2 : Nat, x2 = nI n2 ∧ n2 < 400 ∧ ((¬ (I 109 n2) = 0 → (((I 96 n2) < 0 → K 93 [(0, .ref 80), (2, .int x2)] [] I J R) ∧ (¬ (I 96 n2) < 0 → ((1000 ≤ (I 96 n2) → K 93 [(0, .ref 80), (2, .int x2)] [] I J R) ∧ (¬ 1000 ≤ (I 96 n2) → (∃ n8 : Nat, (I 96 n2) = nI n8 ∧ n8 < 400 ∧ K 93 [(0, .ref 80), (2, .int x2)] [] (up I 109 n8 1) J R)))))) ∧ ((I 109 n2) = 0 → K 44 [(0, .ref 80), (2, .int (x2 + (-1)))] [] I J R)))))) : K 44 [(0, .ref 80), (2, .int x2)] [] I J R := by
  refine k_ld hK 1 dX12_laysBack_44 rfl rfl rfl rfl ?_
  refine k_lt hK dX12_laysBack_45 (tgt := 132) rfl (fun h1 => ?_) (fun h1 => ?_)
  · have hF := hF.1 h1
    exact k_vret hK dX12_laysBack_132 rfl (done_0 rfl rfl) (qC_i hF)
  · have hF := hF.2 h1
    refine k_ld hK 0 dX12_laysBack_48 rfl rfl rfl rfl ?_
    refine k_gR hK dX12_laysBack_49 lf_X12_99 rfl (sc_80 hs) (sf_80_62 hs) ?_
    refine k_ld hK 1 dX12_laysBack_52 rfl rfl rfl rfl ?_
    obtain ⟨n2, i3, j4, hF⟩ := hF
    refine k_bald hK dX12_laysBack_53 (Or.inr (sc_109 hs)) sn_109 (by decide) i3 j4 rfl ?_
    refine k_ne hK dX12_laysBack_54 (tgt := 60) rfl (fun h5 => ?_) (fun h5 => ?_)
    · have hF := hF.1 h5
      refine k_ld hK 0 dX12_laysBack_60 rfl rfl rfl rfl ?_
      refine k_gR hK dX12_laysBack_61 lf_X12_60 rfl (sc_80 hs) (sf_80_41 hs) ?_
      refine k_ld hK 1 dX12_laysBack_64 rfl rfl rfl rfl ?_
      refine k_iald hK dX12_laysBack_65 (sc_96 hs) sn_96 (by decide) i3 j4 rfl ?_
      refine k_lt hK dX12_laysBack_66 (tgt := 93) rfl (fun h6 => ?_) (fun h6 => ?_)
      · have hF := hF.1 h6
        exact k_sub hK [0, 1] rfl hF
      · have hF := hF.2 h6
        refine k_ld hK 0 dX12_laysBack_69 rfl rfl rfl rfl ?_
        refine k_gR hK dX12_laysBack_70 lf_X12_60 rfl (sc_80 hs) (sf_80_41 hs) ?_
        refine k_ld hK 1 dX12_laysBack_73 rfl rfl rfl rfl ?_
        refine k_iald hK dX12_laysBack_74 (sc_96 hs) sn_96 (by decide) i3 j4 rfl ?_
        refine k_si hK dX12_laysBack_75 cs_1000 ?_
        refine k_cge hK dX12_laysBack_78 (tgt := 93) rfl (fun h7 => ?_) (fun h7 => ?_)
        · have hF := hF.1 h7
          exact k_sub hK [0, 1] rfl hF
        · have hF := hF.2 h7
          refine k_ld hK 0 dX12_laysBack_81 rfl rfl rfl rfl ?_
          refine k_gR hK dX12_laysBack_82 lf_X12_99 rfl (sc_80 hs) (sf_80_62 hs) ?_
          refine k_ld hK 0 dX12_laysBack_85 rfl rfl rfl rfl ?_
          refine k_gR hK dX12_laysBack_86 lf_X12_60 rfl (sc_80 hs) (sf_80_41 hs) ?_
          refine k_ld hK 1 dX12_laysBack_89 rfl rfl rfl rfl ?_
          refine k_iald hK dX12_laysBack_90 (sc_96 hs) sn_96 (by decide) i3 j4 rfl ?_
          refine k_ic hK dX12_laysBack_91 ci_1 ?_
          obtain ⟨n8, i9, j10, hF⟩ := hF
          refine k_bast hK dX12_laysBack_92 (Or.inr ⟨(sc_109 hs), (by decide)⟩) sn_109 (by decide) i9 j10 ?_
          exact k_sub hK [0, 1] rfl hF
    · have hF := hF.2 h5
      refine k_goto hK dX12_laysBack_57 (tgt := 126) rfl ?_
      refine k_iinc hK 1 dX12_laysBack_126 (v := (x2 + (-1))) rfl (Nat.le_of_ble_eq_true rfl) (congrArg (fun q => x2 + q) ci_m1) rfl ?_
      refine k_goto hK dX12_laysBack_129 (tgt := 44) rfl ?_
      exact k_sub hK [1, 0] rfl hF
set_option maxHeartbeats 4000000 in
theorem g_X12_laysBack_93 {d : Nat} {K : KT} {Q : Unit → HI → Prop} {I : HI} {J : HJ} {R : HR} {x2 : Int32} (hK : am_R M_X12_laysBack (am_W d) none R (qC fv J R Q) K) (hs : Stat R)  (hF : (∃ n1 : Nat, x2 = nI n1 ∧ n1 < 400 ∧ (((I 97 n1) < 0 → K 44 [(0, .ref 80), (2, .int (x2 + (-1)))] [] I J R) ∧ (¬ (I 97 n1) < 0 → ((1000 ≤ (I 97 n1) → K 44 [(0, .ref 80), (2, .int (x2 + (-1)))] [] I J R) ∧ (¬ 1000 ≤ (I 97 n1) → (∃ n6 : Nat, (I 97 n1) = nI n6 ∧ n6 < 400 ∧ K 44 [(0, .ref 80), (2, .int (x2 + (-1)))] [] (up I 109 n6 1) J R))))))) : K 93 [(0, .ref 80), (2, .int x2)] [] I J R := by
  refine k_ld hK 0 dX12_laysBack_93 rfl rfl rfl rfl ?_
  refine k_gR hK dX12_laysBack_94 lf_X12_63 rfl (sc_80 hs) (sf_80_42 hs) ?_
  refine k_ld hK 1 dX12_laysBack_97 rfl rfl rfl rfl ?_
  obtain ⟨n1, i2, j3, hF⟩ := hF
  refine k_iald hK dX12_laysBack_98 (sc_97 hs) sn_97 (by decide) i2 j3 rfl ?_
  refine k_lt hK dX12_laysBack_99 (tgt := 126) rfl (fun h4 => ?_) (fun h4 => ?_)
  · have hF := hF.1 h4
    refine k_iinc hK 1 dX12_laysBack_126 (v := (x2 + (-1))) rfl (Nat.le_of_ble_eq_true rfl) (congrArg (fun q => x2 + q) ci_m1) rfl ?_
    refine k_goto hK dX12_laysBack_129 (tgt := 44) rfl ?_
    exact k_sub hK [1, 0] rfl hF
  · have hF := hF.2 h4
    refine k_ld hK 0 dX12_laysBack_102 rfl rfl rfl rfl ?_
    refine k_gR hK dX12_laysBack_103 lf_X12_63 rfl (sc_80 hs) (sf_80_42 hs) ?_
    refine k_ld hK 1 dX12_laysBack_106 rfl rfl rfl rfl ?_
    refine k_iald hK dX12_laysBack_107 (sc_97 hs) sn_97 (by decide) i2 j3 rfl ?_
    refine k_si hK dX12_laysBack_108 cs_1000 ?_
    refine k_cge hK dX12_laysBack_111 (tgt := 126) rfl (fun h5 => ?_) (fun h5 => ?_)
    · have hF := hF.1 h5
      refine k_iinc hK 1 dX12_laysBack_126 (v := (x2 + (-1))) rfl (Nat.le_of_ble_eq_true rfl) (congrArg (fun q => x2 + q) ci_m1) rfl ?_
      refine k_goto hK dX12_laysBack_129 (tgt := 44) rfl ?_
      exact k_sub hK [1, 0] rfl hF
    · have hF := hF.2 h5
      refine k_ld hK 0 dX12_laysBack_114 rfl rfl rfl rfl ?_
      refine k_gR hK dX12_laysBack_115 lf_X12_99 rfl (sc_80 hs) (sf_80_62 hs) ?_
      refine k_ld hK 0 dX12_laysBack_118 rfl rfl rfl rfl ?_
      refine k_gR hK dX12_laysBack_119 lf_X12_63 rfl (sc_80 hs) (sf_80_42 hs) ?_
      refine k_ld hK 1 dX12_laysBack_122 rfl rfl rfl rfl ?_
      refine k_iald hK dX12_laysBack_123 (sc_97 hs) sn_97 (by decide) i2 j3 rfl ?_
      refine k_ic hK dX12_laysBack_124 ci_1 ?_
      obtain ⟨n6, i7, j8, hF⟩ := hF
      refine k_bast hK dX12_laysBack_125 (Or.inr ⟨(sc_109 hs), (by decide)⟩) sn_109 (by decide) i7 j8 ?_
      refine k_iinc hK 1 dX12_laysBack_126 (v := (x2 + (-1))) rfl (Nat.le_of_ble_eq_true rfl) (congrArg (fun q => x2 + q) ci_m1) rfl ?_
      refine k_goto hK dX12_laysBack_129 (tgt := 44) rfl ?_
      exact k_sub hK [1, 0] rfl hF
set_option maxHeartbeats 4000000 in
theorem g_X12_outsOn_0 {d : Nat} {K : KT} {Q : Int32 → HI → Prop} {I : HI} {J : HJ} {R : HR} {x1 : Int32} (hK : am_R M_X12_outsOn (am_W d) none R (qC fi J R Q) K) (hs : Stat R)  (hF : Wc fv d M_X12_laysOn [.ref 80, .int x1] I J R (fun u1 I2 => K 9 [(0, .ref 80), (1, .int x1), (2, .int 0), (3, .int 0)] [] I2 J R)) : K 0 [(0, .ref 80), (1, .int x1)] [] I J R := by
  refine k_ld hK 0 dX12_outsOn_0 rfl rfl rfl rfl ?_
  refine k_ld hK 1 dX12_outsOn_1 rfl rfl rfl rfl ?_
  refine k_cVc hK dX12_outsOn_2 (Or.inl lm_X12_426) (As := [.int x1]) (S := []) rfl (sc_80 hs) (Nat.le_of_ble_eq_true rfl) (fit_0 rfl rfl) rfl hF (fun u1 I2 hF => ?_)
  show K _ _ [] _ _ _
  refine k_ic hK dX12_outsOn_5 ci_0 ?_
  refine k_st hK dX12_outsOn_6 rfl rfl rfl (Nat.le_of_ble_eq_true rfl) rfl ?_
  refine k_ic hK dX12_outsOn_7 ci_0 ?_
  refine k_st hK dX12_outsOn_8 rfl rfl rfl (Nat.le_of_ble_eq_true rfl) rfl ?_
  exact k_sub hK [2, 3, 1, 0] rfl hF
set_option maxHeartbeats 4000000 in
theorem g_X12_outsOn_9 {d : Nat} {K : KT} {Q : Int32 → HI → Prop} {I : HI} {J : HJ} {R : HR} {x1 : Int32} {x2 : Int32} {x3 : Int32} (hK : am_R M_X12_outsOn (am_W d) none R (qC fi J R Q) K) (hs : Stat R)  (hF : (((I 80 54) ≤ x3 → Q x2 I) ∧ (¬ (I 80 54) ≤ x3 → (∃ n2 : Nat, x3 = nI n2 ∧ n2 < 20 ∧ Wp fb d M_X12_isOn [.ref 80, .int (I 106 n2), .int x1] I J R (fun b5 => ((b5 = false → K 9 [(0, .ref 80), (1, .int x1), (2, .int (x2 + 0)), (3, .int (x3 + 1))] [] I J R) ∧ (b5 = true → K 9 [(0, .ref 80), (1, .int x1), (2, .int (x2 + 1)), (3, .int (x3 + 1))] [] I J R))))))) : K 9 [(0, .ref 80), (1, .int x1), (2, .int x2), (3, .int x3)] [] I J R := by
  refine k_ld hK 3 dX12_outsOn_9 rfl rfl rfl rfl ?_
  refine k_ld hK 0 dX12_outsOn_10 rfl rfl rfl rfl ?_
  refine k_gI hK dX12_outsOn_11 lf_X12_356 rfl (sc_80 hs) rfl ?_
  refine k_cge hK dX12_outsOn_14 (tgt := 45) rfl (fun h1 => ?_) (fun h1 => ?_)
  · have hF := hF.1 h1
    refine k_ld hK 2 dX12_outsOn_45 rfl rfl rfl rfl ?_
    exact k_iret hK dX12_outsOn_46 rfl rfl (done_0 rfl rfl) (qC_i hF)
  · have hF := hF.2 h1
    refine k_ld hK 2 dX12_outsOn_17 rfl rfl rfl rfl ?_
    refine k_ld hK 0 dX12_outsOn_18 rfl rfl rfl rfl ?_
    refine k_ld hK 0 dX12_outsOn_19 rfl rfl rfl rfl ?_
    refine k_gR hK dX12_outsOn_20 lf_X12_90 rfl (sc_80 hs) (sf_80_53 hs) ?_
    refine k_ld hK 3 dX12_outsOn_23 rfl rfl rfl rfl ?_
    obtain ⟨n2, i3, j4, hF⟩ := hF
    refine k_iald hK dX12_outsOn_24 (sc_106 hs) sn_106 (by decide) i3 j4 rfl ?_
    refine k_ld hK 1 dX12_outsOn_25 rfl rfl rfl rfl ?_
    refine k_cVp hK dX12_outsOn_26 (Or.inl lm_X12_423) (As := [.int (I 106 n2), .int x1]) (S := [.int x2]) rfl (sc_80 hs) (Nat.le_of_ble_eq_true rfl) (fit_0 rfl rfl) rfl hF (fun b5 hF => ?_)
    show K _ _ [.int (b2i b5), .int x2] _ _ _
    refine k_beq hK dX12_outsOn_29 (tgt := 36) rfl (fun h6 => ?_) (fun h6 => ?_)
    · have hF := hF.1 h6
      refine k_ic hK dX12_outsOn_36 ci_0 ?_
      refine k_op hK dX12_outsOn_37 rfl rfl ?_
      refine k_st hK dX12_outsOn_38 rfl rfl rfl (Nat.le_of_ble_eq_true rfl) rfl ?_
      refine k_iinc hK 3 dX12_outsOn_39 (v := (x3 + 1)) rfl (Nat.le_of_ble_eq_true rfl) (congrArg (fun q => x3 + q) ci_1) rfl ?_
      refine k_goto hK dX12_outsOn_42 (tgt := 9) rfl ?_
      exact k_sub hK [2, 3, 1, 0] rfl hF
    · have hF := hF.2 h6
      refine k_ic hK dX12_outsOn_32 ci_1 ?_
      refine k_goto hK dX12_outsOn_33 (tgt := 37) rfl ?_
      refine k_op hK dX12_outsOn_37 rfl rfl ?_
      refine k_st hK dX12_outsOn_38 rfl rfl rfl (Nat.le_of_ble_eq_true rfl) rfl ?_
      refine k_iinc hK 3 dX12_outsOn_39 (v := (x3 + 1)) rfl (Nat.le_of_ble_eq_true rfl) (congrArg (fun q => x3 + q) ci_1) rfl ?_
      refine k_goto hK dX12_outsOn_42 (tgt := 9) rfl ?_
      exact k_sub hK [2, 3, 1, 0] rfl hF
set_option maxHeartbeats 4000000 in
theorem g_X12_inputsOf_0 {d : Nat} {K : KT} {Q : Int32 → HI → Prop} {I : HI} {J : HJ} {R : HR} {x1 : Int32} (hK : am_R M_X12_inputsOf (am_W d) none R (qC fi J R Q) K) (hs : Stat R)  (hF : K 4 [(0, .ref 80), (1, .int x1), (2, .int 0), (3, .int 0)] [] I J R) : K 0 [(0, .ref 80), (1, .int x1)] [] I J R := by
  refine k_ic hK dX12_inputsOf_0 ci_0 ?_
  refine k_st hK dX12_inputsOf_1 rfl rfl rfl (Nat.le_of_ble_eq_true rfl) rfl ?_
  refine k_ic hK dX12_inputsOf_2 ci_0 ?_
  refine k_st hK dX12_inputsOf_3 rfl rfl rfl (Nat.le_of_ble_eq_true rfl) rfl ?_
  exact k_sub hK [2, 3, 1, 0] rfl hF
set_option maxHeartbeats 4000000 in
theorem g_X12_inputsOf_4 {d : Nat} {K : KT} {Q : Int32 → HI → Prop} {I : HI} {J : HJ} {R : HR} {x1 : Int32} {x2 : Int32} {x3 : Int32} (hK : am_R M_X12_inputsOf (am_W d) none R (qC fi J R Q) K) (hs : Stat R)  (hF : (((I 80 31) ≤ x3 → Q x2 I) ∧ (¬ (I 80 31) ≤ x3 → Wc fv d M_X12_laysOn [.ref 80, .int (1000 + x3)] I J R (fun u2 I3 => (∃ n4 : Nat, x1 = nI n4 ∧ n4 < 400 ∧ (((I3 109 n4) = 0 → K 4 [(0, .ref 80), (1, .int x1), (2, .int x2), (3, .int (x3 + 1))] [] I3 J R) ∧ (¬ (I3 109 n4) = 0 → K 4 [(0, .ref 80), (1, .int x1), (2, .int (x2 ||| (1 <<< ((x3 : Int32) &&& 31) : Int32))), (3, .int (x3 + 1))] [] I3 J R))))))) : K 4 [(0, .ref 80), (1, .int x1), (2, .int x2), (3, .int x3)] [] I J R := by
  refine k_ld hK 3 dX12_inputsOf_4 rfl rfl rfl rfl ?_
  refine k_ld hK 0 dX12_inputsOf_5 rfl rfl rfl rfl ?_
  refine k_gI hK dX12_inputsOf_6 lf_X12_314 rfl (sc_80 hs) rfl ?_
  refine k_cge hK dX12_inputsOf_9 (tgt := 42) rfl (fun h1 => ?_) (fun h1 => ?_)
  · have hF := hF.1 h1
    refine k_ld hK 2 dX12_inputsOf_42 rfl rfl rfl rfl ?_
    exact k_iret hK dX12_inputsOf_43 rfl rfl (done_0 rfl rfl) (qC_i hF)
  · have hF := hF.2 h1
    refine k_ld hK 0 dX12_inputsOf_12 rfl rfl rfl rfl ?_
    refine k_si hK dX12_inputsOf_13 cs_1000 ?_
    refine k_ld hK 3 dX12_inputsOf_16 rfl rfl rfl rfl ?_
    refine k_op hK dX12_inputsOf_17 rfl rfl ?_
    refine k_cVc hK dX12_inputsOf_18 (Or.inl lm_X12_426) (As := [.int (1000 + x3)]) (S := []) rfl (sc_80 hs) (Nat.le_of_ble_eq_true rfl) (fit_0 rfl rfl) rfl hF (fun u2 I3 hF => ?_)
    show K _ _ [] _ _ _
    refine k_ld hK 0 dX12_inputsOf_21 rfl rfl rfl rfl ?_
    refine k_gR hK dX12_inputsOf_22 lf_X12_99 rfl (sc_80 hs) (sf_80_62 hs) ?_
    refine k_ld hK 1 dX12_inputsOf_25 rfl rfl rfl rfl ?_
    obtain ⟨n4, i5, j6, hF⟩ := hF
    refine k_bald hK dX12_inputsOf_26 (Or.inr (sc_109 hs)) sn_109 (by decide) i5 j6 rfl ?_
    refine k_eq hK dX12_inputsOf_27 (tgt := 36) rfl (fun h7 => ?_) (fun h7 => ?_)
    · have hF := hF.1 h7
      refine k_iinc hK 3 dX12_inputsOf_36 (v := (x3 + 1)) rfl (Nat.le_of_ble_eq_true rfl) (congrArg (fun q => x3 + q) ci_1) rfl ?_
      refine k_goto hK dX12_inputsOf_39 (tgt := 4) rfl ?_
      exact k_sub hK [1, 2, 3, 0] rfl hF
    · have hF := hF.2 h7
      refine k_ld hK 2 dX12_inputsOf_30 rfl rfl rfl rfl ?_
      refine k_ic hK dX12_inputsOf_31 ci_1 ?_
      refine k_ld hK 3 dX12_inputsOf_32 rfl rfl rfl rfl ?_
      refine k_op hK dX12_inputsOf_33 rfl rfl ?_
      refine k_op hK dX12_inputsOf_34 rfl rfl ?_
      refine k_st hK dX12_inputsOf_35 rfl rfl rfl (Nat.le_of_ble_eq_true rfl) rfl ?_
      refine k_iinc hK 3 dX12_inputsOf_36 (v := (x3 + 1)) rfl (Nat.le_of_ble_eq_true rfl) (congrArg (fun q => x3 + q) ci_1) rfl ?_
      refine k_goto hK dX12_inputsOf_39 (tgt := 4) rfl ?_
      exact k_sub hK [2, 3, 1, 0] rfl hF
set_option maxHeartbeats 4000000 in
theorem g_X12_entry_0 {d : Nat} {K : KT} {Q : Int32 → HI → Prop} {I : HI} {J : HJ} {R : HR} {x1 : Int32} {x2 : Int32} (hK : am_R M_X12_entry (am_W d) none R (qC fi J R Q) K) (hs : Stat R)  (hF : Wp fb d M_X12_isEntry [.ref 80, .int x1] (up I 80 0 0) J R (fun b1 => ((b1 = true → ((x2 = 0 → (∃ n4 : Nat, x1 = nI n4 ∧ n4 < 400 ∧ Q (I 92 n4) (up I 80 0 0))) ∧ (¬ x2 = 0 → ((x2 = 1 → (∃ n8 : Nat, x1 = nI n8 ∧ n8 < 400 ∧ Q (Int64.toInt32 (J 93 n8)) (up I 80 0 0))) ∧ (¬ x2 = 1 → ((x2 = 2 → (∃ n12 : Nat, x1 = nI n12 ∧ n12 < 400 ∧ Q (Int64.toInt32 (J 94 n12)) (up I 80 0 0))) ∧ (¬ x2 = 2 → ((x2 = 3 → (∃ n16 : Nat, x1 = nI n16 ∧ n16 < 400 ∧ Q (Int64.toInt32 (J 95 n16)) (up I 80 0 0))) ∧ (¬ x2 = 3 → ((x2 = 4 → (∃ n20 : Nat, x1 = nI n20 ∧ n20 < 400 ∧ Q (I 96 n20) (up I 80 0 0))) ∧ (¬ x2 = 4 → ((x2 = 5 → (∃ n24 : Nat, x1 = nI n24 ∧ n24 < 400 ∧ Q (I 97 n24) (up I 80 0 0))) ∧ (¬ x2 = 5 → ((x2 = 6 → (∃ n28 : Nat, x1 = nI n28 ∧ n28 < 400 ∧ Q (I 98 n28) (up I 80 0 0))) ∧ (¬ x2 = 6 → ((x2 = 7 → Wc fi d M_X12_outsOn [.ref 80, .int x1] (up I 80 0 0) J R (fun r32 I33 => Q r32 I33)) ∧ (¬ x2 = 7 → ((x2 = 8 → Wc fi d M_X12_inputsOf [.ref 80, .int x1] (up I 80 0 0) J R (fun r35 I36 => Q r35 I36)) ∧ (¬ x2 = 8 → Q (-10) (up I 80 0 0)))))))))))))))))))) ∧ (b1 = false → Q (-10) (up I 80 0 0))))) : K 0 [(0, .ref 80), (1, .int x1), (2, .int x2)] [] I J R := by
  refine k_ld hK 0 dX12_entry_0 rfl rfl rfl rfl ?_
  refine k_ic hK dX12_entry_1 ci_0 ?_
  refine k_pI hK dX12_entry_2 lf_X12_142 rfl rfl rfl (sc_80 hs) ?_
  refine k_ld hK 0 dX12_entry_5 rfl rfl rfl rfl ?_
  refine k_ld hK 1 dX12_entry_6 rfl rfl rfl rfl ?_
  refine k_cVp hK dX12_entry_7 (Or.inl lm_X12_429) (As := [.int x1]) (S := []) rfl (sc_80 hs) (Nat.le_of_ble_eq_true rfl) (fit_0 rfl rfl) rfl hF (fun b1 hF => ?_)
  show K _ _ [.int (b2i b1)] _ _ _
  refine k_bne hK dX12_entry_10 (tgt := 16) rfl (fun h2 => ?_) (fun h2 => ?_)
  · have hF := hF.1 h2
    refine k_ld hK 2 dX12_entry_16 rfl rfl rfl rfl ?_
    refine k_tab hK dX12_entry_17 (cs := [(0, 68), (1, 75), (2, 83), (3, 91), (4, 99), (5, 106), (6, 113), (7, 120), (8, 126)]) (td := 132) (by decide) (by decide) ?_
    refine swc (fun h3 => ?_) (fun h3 => ?_)
    · have hF := hF.1 h3
      refine k_ld hK 0 dX12_entry_68 rfl rfl rfl rfl ?_
      refine k_gR hK dX12_entry_69 lf_X12_48 rfl (sc_80 hs) (sf_80_37 hs) ?_
      refine k_ld hK 1 dX12_entry_72 rfl rfl rfl rfl ?_
      obtain ⟨n4, i5, j6, hF⟩ := hF
      refine k_iald hK dX12_entry_73 (sc_92 hs) sn_92 (by decide) i5 j6 ((up_na (by decide)).trans rfl) ?_
      exact k_iret hK dX12_entry_74 rfl rfl (done_0 rfl rfl) (qC_i hF)
    have hF := hF.2 h3
    refine swc (fun h7 => ?_) (fun h7 => ?_)
    · have hF := hF.1 h7
      refine k_ld hK 0 dX12_entry_75 rfl rfl rfl rfl ?_
      refine k_gR hK dX12_entry_76 lf_X12_51 rfl (sc_80 hs) (sf_80_38 hs) ?_
      refine k_ld hK 1 dX12_entry_79 rfl rfl rfl rfl ?_
      obtain ⟨n8, i9, j10, hF⟩ := hF
      refine k_lald hK dX12_entry_80 (sc_93 hs) sn_93 (by decide) i9 j10 rfl ?_
      refine k_op hK dX12_entry_81 rfl rfl ?_
      exact k_iret hK dX12_entry_82 rfl rfl (done_0 rfl rfl) (qC_i hF)
    have hF := hF.2 h7
    refine swc (fun h11 => ?_) (fun h11 => ?_)
    · have hF := hF.1 h11
      refine k_ld hK 0 dX12_entry_83 rfl rfl rfl rfl ?_
      refine k_gR hK dX12_entry_84 lf_X12_54 rfl (sc_80 hs) (sf_80_39 hs) ?_
      refine k_ld hK 1 dX12_entry_87 rfl rfl rfl rfl ?_
      obtain ⟨n12, i13, j14, hF⟩ := hF
      refine k_lald hK dX12_entry_88 (sc_94 hs) sn_94 (by decide) i13 j14 rfl ?_
      refine k_op hK dX12_entry_89 rfl rfl ?_
      exact k_iret hK dX12_entry_90 rfl rfl (done_0 rfl rfl) (qC_i hF)
    have hF := hF.2 h11
    refine swc (fun h15 => ?_) (fun h15 => ?_)
    · have hF := hF.1 h15
      refine k_ld hK 0 dX12_entry_91 rfl rfl rfl rfl ?_
      refine k_gR hK dX12_entry_92 lf_X12_57 rfl (sc_80 hs) (sf_80_40 hs) ?_
      refine k_ld hK 1 dX12_entry_95 rfl rfl rfl rfl ?_
      obtain ⟨n16, i17, j18, hF⟩ := hF
      refine k_lald hK dX12_entry_96 (sc_95 hs) sn_95 (by decide) i17 j18 rfl ?_
      refine k_op hK dX12_entry_97 rfl rfl ?_
      exact k_iret hK dX12_entry_98 rfl rfl (done_0 rfl rfl) (qC_i hF)
    have hF := hF.2 h15
    refine swc (fun h19 => ?_) (fun h19 => ?_)
    · have hF := hF.1 h19
      refine k_ld hK 0 dX12_entry_99 rfl rfl rfl rfl ?_
      refine k_gR hK dX12_entry_100 lf_X12_60 rfl (sc_80 hs) (sf_80_41 hs) ?_
      refine k_ld hK 1 dX12_entry_103 rfl rfl rfl rfl ?_
      obtain ⟨n20, i21, j22, hF⟩ := hF
      refine k_iald hK dX12_entry_104 (sc_96 hs) sn_96 (by decide) i21 j22 ((up_na (by decide)).trans rfl) ?_
      exact k_iret hK dX12_entry_105 rfl rfl (done_0 rfl rfl) (qC_i hF)
    have hF := hF.2 h19
    refine swc (fun h23 => ?_) (fun h23 => ?_)
    · have hF := hF.1 h23
      refine k_ld hK 0 dX12_entry_106 rfl rfl rfl rfl ?_
      refine k_gR hK dX12_entry_107 lf_X12_63 rfl (sc_80 hs) (sf_80_42 hs) ?_
      refine k_ld hK 1 dX12_entry_110 rfl rfl rfl rfl ?_
      obtain ⟨n24, i25, j26, hF⟩ := hF
      refine k_iald hK dX12_entry_111 (sc_97 hs) sn_97 (by decide) i25 j26 ((up_na (by decide)).trans rfl) ?_
      exact k_iret hK dX12_entry_112 rfl rfl (done_0 rfl rfl) (qC_i hF)
    have hF := hF.2 h23
    refine swc (fun h27 => ?_) (fun h27 => ?_)
    · have hF := hF.1 h27
      refine k_ld hK 0 dX12_entry_113 rfl rfl rfl rfl ?_
      refine k_gR hK dX12_entry_114 lf_X12_66 rfl (sc_80 hs) (sf_80_43 hs) ?_
      refine k_ld hK 1 dX12_entry_117 rfl rfl rfl rfl ?_
      obtain ⟨n28, i29, j30, hF⟩ := hF
      refine k_iald hK dX12_entry_118 (sc_98 hs) sn_98 (by decide) i29 j30 ((up_na (by decide)).trans rfl) ?_
      exact k_iret hK dX12_entry_119 rfl rfl (done_0 rfl rfl) (qC_i hF)
    have hF := hF.2 h27
    refine swc (fun h31 => ?_) (fun h31 => ?_)
    · have hF := hF.1 h31
      refine k_ld hK 0 dX12_entry_120 rfl rfl rfl rfl ?_
      refine k_ld hK 1 dX12_entry_121 rfl rfl rfl rfl ?_
      refine k_cVc hK dX12_entry_122 (Or.inl lm_X12_432) (As := [.int x1]) (S := []) rfl (sc_80 hs) (Nat.le_of_ble_eq_true rfl) (fit_0 rfl rfl) rfl hF (fun r32 I33 hF => ?_)
      show K _ _ [.int r32] _ _ _
      exact k_iret hK dX12_entry_125 rfl rfl (done_0 rfl rfl) (qC_i hF)
    have hF := hF.2 h31
    refine swc (fun h34 => ?_) (fun h34 => ?_)
    · have hF := hF.1 h34
      refine k_ld hK 0 dX12_entry_126 rfl rfl rfl rfl ?_
      refine k_ld hK 1 dX12_entry_127 rfl rfl rfl rfl ?_
      refine k_cVc hK dX12_entry_128 (Or.inl lm_X12_435) (As := [.int x1]) (S := []) rfl (sc_80 hs) (Nat.le_of_ble_eq_true rfl) (fit_0 rfl rfl) rfl hF (fun r35 I36 hF => ?_)
      show K _ _ [.int r35] _ _ _
      exact k_iret hK dX12_entry_131 rfl rfl (done_0 rfl rfl) (qC_i hF)
    have hF := hF.2 h34
    refine swn ?_
    refine k_bi hK dX12_entry_132 cb_m10 ?_
    exact k_iret hK dX12_entry_134 rfl rfl (done_0 rfl rfl) (qC_i hF)
  · have hF := hF.2 h2
    refine k_bi hK dX12_entry_13 cb_m10 ?_
    exact k_iret hK dX12_entry_15 rfl rfl (done_0 rfl rfl) (qC_i hF)
theorem e_X12_entry {d : Nat} {Q : Int32 → HI → Prop} {I : HI} {J : HJ} {R : HR} {x1 : Int32} {x2 : Int32} (hs : Stat R)  (hF : Wp fb d M_X12_isEntry [.ref 80, .int x1] (up I 80 0 0) J R (fun b1 => ((b1 = true → ((x2 = 0 → (∃ n4 : Nat, x1 = nI n4 ∧ n4 < 400 ∧ Q (I 92 n4) (up I 80 0 0))) ∧ (¬ x2 = 0 → ((x2 = 1 → (∃ n8 : Nat, x1 = nI n8 ∧ n8 < 400 ∧ Q (Int64.toInt32 (J 93 n8)) (up I 80 0 0))) ∧ (¬ x2 = 1 → ((x2 = 2 → (∃ n12 : Nat, x1 = nI n12 ∧ n12 < 400 ∧ Q (Int64.toInt32 (J 94 n12)) (up I 80 0 0))) ∧ (¬ x2 = 2 → ((x2 = 3 → (∃ n16 : Nat, x1 = nI n16 ∧ n16 < 400 ∧ Q (Int64.toInt32 (J 95 n16)) (up I 80 0 0))) ∧ (¬ x2 = 3 → ((x2 = 4 → (∃ n20 : Nat, x1 = nI n20 ∧ n20 < 400 ∧ Q (I 96 n20) (up I 80 0 0))) ∧ (¬ x2 = 4 → ((x2 = 5 → (∃ n24 : Nat, x1 = nI n24 ∧ n24 < 400 ∧ Q (I 97 n24) (up I 80 0 0))) ∧ (¬ x2 = 5 → ((x2 = 6 → (∃ n28 : Nat, x1 = nI n28 ∧ n28 < 400 ∧ Q (I 98 n28) (up I 80 0 0))) ∧ (¬ x2 = 6 → ((x2 = 7 → Wc fi d M_X12_outsOn [.ref 80, .int x1] (up I 80 0 0) J R (fun r32 I33 => Q r32 I33)) ∧ (¬ x2 = 7 → ((x2 = 8 → Wc fi d M_X12_inputsOf [.ref 80, .int x1] (up I 80 0 0) J R (fun r35 I36 => Q r35 I36)) ∧ (¬ x2 = 8 → Q (-10) (up I 80 0 0)))))))))))))))))))) ∧ (b1 = false → Q (-10) (up I 80 0 0))))) : Wc fi (d + 1) M_X12_entry [.ref 80, .int x1, .int x2] I J R Q := ⟨Nat.le_of_ble_eq_true rfl, fun K hK => g_X12_entry_0 hK hs hF⟩
set_option maxHeartbeats 4000000 in
theorem g_X12_hangs_0 {d : Nat} {K : KT} {Q : Int32 → HI → Prop} {I : HI} {J : HJ} {R : HR} {x1 : Int32} {x2 : Int32} {x3 : Int32} (hK : am_R M_X12_hangs (am_W d) none R (qC fi J R Q) K) (hs : Stat R)  (hF : Wp fb d M_X12_isOut [.ref 80, .int x1] (up I 80 0 0) J R (fun b1 => ((b1 = false → Q (-1) (up I 80 0 0)) ∧ (b1 = true → ((x3 < 0 → Q (-1) (up I 80 0 0)) ∧ (¬ x3 < 0 → ((1 < x3 → Q (-1) (up I 80 0 0)) ∧ (¬ 1 < x3 → ((¬ x3 = 1 → ((¬ x3 = 0 → Wc fv d M_X12_laysBack [.ref 80, .int x1] (up I 80 0 0) J R (fun u7 I8 => K 98 [(0, .ref 80), (2, .int x2), (4, .int (b2i false)), (5, .int 0)] [] I8 J R)) ∧ (x3 = 0 → Wc fv d M_X12_laysBack [.ref 80, .int x1] (up I 80 0 0) J R (fun u9 I10 => K 52 [(0, .ref 80), (4, .int 0), (5, .int 0)] [] I10 J R)))) ∧ (x3 = 1 → Wp fb d M_X12_isInput [.ref 80, .int x2] (up I 80 0 0) J R (fun b11 => ((b11 = true → ((¬ x3 = 0 → Wc fv d M_X12_laysBack [.ref 80, .int x1] (up I 80 0 0) J R (fun u14 I15 => K 98 [(0, .ref 80), (2, .int x2), (4, .int (b2i false)), (5, .int 0)] [] I15 J R)) ∧ (x3 = 0 → Wc fv d M_X12_laysBack [.ref 80, .int x1] (up I 80 0 0) J R (fun u16 I17 => K 52 [(0, .ref 80), (4, .int 0), (5, .int 0)] [] I17 J R)))) ∧ (b11 = false → Q (-1) (up I 80 0 0)))))))))))))) : K 0 [(0, .ref 80), (1, .int x1), (2, .int x2), (3, .int x3)] [] I J R := by
  refine k_ld hK 0 dX12_hangs_0 rfl rfl rfl rfl ?_
  refine k_ic hK dX12_hangs_1 ci_0 ?_
  refine k_pI hK dX12_hangs_2 lf_X12_142 rfl rfl rfl (sc_80 hs) ?_
  refine k_ld hK 0 dX12_hangs_5 rfl rfl rfl rfl ?_
  refine k_ld hK 1 dX12_hangs_6 rfl rfl rfl rfl ?_
  refine k_cVp hK dX12_hangs_7 (Or.inl lm_X12_420) (As := [.int x1]) (S := []) rfl (sc_80 hs) (Nat.le_of_ble_eq_true rfl) (fit_0 rfl rfl) rfl hF (fun b1 hF => ?_)
  show K _ _ [.int (b2i b1)] _ _ _
  refine k_beq hK dX12_hangs_10 (tgt := 35) rfl (fun h2 => ?_) (fun h2 => ?_)
  · have hF := hF.1 h2
    refine k_ic hK dX12_hangs_35 ci_m1 ?_
    exact k_iret hK dX12_hangs_36 rfl rfl (done_0 rfl rfl) (qC_i hF)
  · have hF := hF.2 h2
    refine k_ld hK 3 dX12_hangs_13 rfl rfl rfl rfl ?_
    refine k_lt hK dX12_hangs_14 (tgt := 35) rfl (fun h3 => ?_) (fun h3 => ?_)
    · have hF := hF.1 h3
      refine k_ic hK dX12_hangs_35 ci_m1 ?_
      exact k_iret hK dX12_hangs_36 rfl rfl (done_0 rfl rfl) (qC_i hF)
    · have hF := hF.2 h3
      refine k_ld hK 3 dX12_hangs_17 rfl rfl rfl rfl ?_
      refine k_ic hK dX12_hangs_18 ci_1 ?_
      refine k_cgt hK dX12_hangs_19 (tgt := 35) rfl (fun h4 => ?_) (fun h4 => ?_)
      · have hF := hF.1 h4
        refine k_ic hK dX12_hangs_35 ci_m1 ?_
        exact k_iret hK dX12_hangs_36 rfl rfl (done_0 rfl rfl) (qC_i hF)
      · have hF := hF.2 h4
        refine k_ld hK 3 dX12_hangs_22 rfl rfl rfl rfl ?_
        refine k_ic hK dX12_hangs_23 ci_1 ?_
        refine k_cne hK dX12_hangs_24 (tgt := 37) rfl (fun h5 => ?_) (fun h5 => ?_)
        · have hF := hF.1 h5
          refine k_ic hK dX12_hangs_37 ci_0 ?_
          refine k_st hK dX12_hangs_38 rfl rfl rfl (Nat.le_of_ble_eq_true rfl) rfl ?_
          refine k_ld hK 4 dX12_hangs_40 rfl rfl rfl rfl ?_
          refine k_ne hK dX12_hangs_41 (tgt := 90) rfl (fun h6 => ?_) (fun h6 => ?_)
          · have hF := hF.1 h6
            refine k_ld hK 1 dX12_hangs_90 rfl rfl rfl rfl ?_
            refine k_ld hK 2 dX12_hangs_91 rfl rfl rfl rfl ?_
            refine k_cVc hK dX12_hangs_92 (Or.inl lm_X12_441) (As := [.int x1]) (S := []) rfl (sc_80 hs) (Nat.le_of_ble_eq_true rfl) (fit_0 rfl rfl) rfl hF (fun u7 I8 hF => ?_)
            show K _ _ [] _ _ _
            refine k_ic hK dX12_hangs_95 ci_0 ?_
            refine k_st hK dX12_hangs_96 rfl rfl rfl (Nat.le_of_ble_eq_true rfl) rfl ?_
            exact k_sub hK [2, 4, 1, 0] rfl hF
          · have hF := hF.2 h6
            refine k_ld hK 1 dX12_hangs_44 rfl rfl rfl rfl ?_
            refine k_ld hK 2 dX12_hangs_45 rfl rfl rfl rfl ?_
            refine k_cVc hK dX12_hangs_46 (Or.inl lm_X12_441) (As := [.int x1]) (S := []) rfl (sc_80 hs) (Nat.le_of_ble_eq_true rfl) (fit_0 rfl rfl) rfl hF (fun u9 I10 hF => ?_)
            show K _ _ [] _ _ _
            refine k_ic hK dX12_hangs_49 ci_0 ?_
            refine k_st hK dX12_hangs_50 rfl rfl rfl (Nat.le_of_ble_eq_true rfl) rfl ?_
            exact k_sub hK [2, 1, 0] rfl hF
        · have hF := hF.2 h5
          refine k_ld hK 0 dX12_hangs_27 rfl rfl rfl rfl ?_
          refine k_ld hK 2 dX12_hangs_28 rfl rfl rfl rfl ?_
          refine k_cVp hK dX12_hangs_29 (Or.inl lm_X12_438) (As := [.int x2]) (S := []) rfl (sc_80 hs) (Nat.le_of_ble_eq_true rfl) (fit_0 rfl rfl) rfl hF (fun b11 hF => ?_)
          show K _ _ [.int (b2i b11)] _ _ _
          refine k_bne hK dX12_hangs_32 (tgt := 37) rfl (fun h12 => ?_) (fun h12 => ?_)
          · have hF := hF.1 h12
            refine k_ic hK dX12_hangs_37 ci_0 ?_
            refine k_st hK dX12_hangs_38 rfl rfl rfl (Nat.le_of_ble_eq_true rfl) rfl ?_
            refine k_ld hK 4 dX12_hangs_40 rfl rfl rfl rfl ?_
            refine k_ne hK dX12_hangs_41 (tgt := 90) rfl (fun h13 => ?_) (fun h13 => ?_)
            · have hF := hF.1 h13
              refine k_ld hK 1 dX12_hangs_90 rfl rfl rfl rfl ?_
              refine k_ld hK 2 dX12_hangs_91 rfl rfl rfl rfl ?_
              refine k_cVc hK dX12_hangs_92 (Or.inl lm_X12_441) (As := [.int x1]) (S := []) rfl (sc_80 hs) (Nat.le_of_ble_eq_true rfl) (fit_0 rfl rfl) rfl hF (fun u14 I15 hF => ?_)
              show K _ _ [] _ _ _
              refine k_ic hK dX12_hangs_95 ci_0 ?_
              refine k_st hK dX12_hangs_96 rfl rfl rfl (Nat.le_of_ble_eq_true rfl) rfl ?_
              exact k_sub hK [2, 4, 1, 0] rfl hF
            · have hF := hF.2 h13
              refine k_ld hK 1 dX12_hangs_44 rfl rfl rfl rfl ?_
              refine k_ld hK 2 dX12_hangs_45 rfl rfl rfl rfl ?_
              refine k_cVc hK dX12_hangs_46 (Or.inl lm_X12_441) (As := [.int x1]) (S := []) rfl (sc_80 hs) (Nat.le_of_ble_eq_true rfl) (fit_0 rfl rfl) rfl hF (fun u16 I17 hF => ?_)
              show K _ _ [] _ _ _
              refine k_ic hK dX12_hangs_49 ci_0 ?_
              refine k_st hK dX12_hangs_50 rfl rfl rfl (Nat.le_of_ble_eq_true rfl) rfl ?_
              exact k_sub hK [2, 1, 0] rfl hF
          · have hF := hF.2 h12
            refine k_ic hK dX12_hangs_35 ci_m1 ?_
            exact k_iret hK dX12_hangs_36 rfl rfl (done_0 rfl rfl) (qC_i hF)
set_option maxHeartbeats 4000000 in
theorem g_X12_hangs_52 {d : Nat} {K : KT} {Q : Int32 → HI → Prop} {I : HI} {J : HJ} {R : HR} {x4 : Int32} {x5 : Int32} (hK : am_R M_X12_hangs (am_W d) none R (qC fi J R Q) K) (hs : Stat R)  (hF : (((I 80 44) ≤ x5 → Q x4 I) ∧ (¬ (I 80 44) ≤ x5 → (∃ n2 : Nat, x5 = nI n2 ∧ n2 < 400 ∧ (((I 109 n2) = 0 → K 52 [(0, .ref 80), (4, .int (x4 + 0)), (5, .int (x5 + 1))] [] I J R) ∧ (¬ (I 109 n2) = 0 → K 52 [(0, .ref 80), (4, .int (x4 + 1)), (5, .int (x5 + 1))] [] I J R)))))) : K 52 [(0, .ref 80), (4, .int x4), (5, .int x5)] [] I J R := by
  refine k_ld hK 2 dX12_hangs_52 rfl rfl rfl rfl ?_
  refine k_ld hK 0 dX12_hangs_54 rfl rfl rfl rfl ?_
  refine k_gI hK dX12_hangs_55 lf_X12_353 rfl (sc_80 hs) rfl ?_
  refine k_cge hK dX12_hangs_58 (tgt := 87) rfl (fun h1 => ?_) (fun h1 => ?_)
  · have hF := hF.1 h1
    refine k_ld hK 1 dX12_hangs_87 rfl rfl rfl rfl ?_
    exact k_iret hK dX12_hangs_89 rfl rfl (done_0 rfl rfl) (qC_i hF)
  · have hF := hF.2 h1
    refine k_ld hK 1 dX12_hangs_61 rfl rfl rfl rfl ?_
    refine k_ld hK 0 dX12_hangs_63 rfl rfl rfl rfl ?_
    refine k_gR hK dX12_hangs_64 lf_X12_99 rfl (sc_80 hs) (sf_80_62 hs) ?_
    refine k_ld hK 2 dX12_hangs_67 rfl rfl rfl rfl ?_
    obtain ⟨n2, i3, j4, hF⟩ := hF
    refine k_bald hK dX12_hangs_69 (Or.inr (sc_109 hs)) sn_109 (by decide) i3 j4 rfl ?_
    refine k_eq hK dX12_hangs_70 (tgt := 77) rfl (fun h5 => ?_) (fun h5 => ?_)
    · have hF := hF.1 h5
      refine k_ic hK dX12_hangs_77 ci_0 ?_
      refine k_op hK dX12_hangs_78 rfl rfl ?_
      refine k_st hK dX12_hangs_79 rfl rfl rfl (Nat.le_of_ble_eq_true rfl) rfl ?_
      refine k_iinc hK 2 dX12_hangs_81 (v := (x5 + 1)) rfl (Nat.le_of_ble_eq_true rfl) (congrArg (fun q => x5 + q) ci_1) rfl ?_
      refine k_goto hK dX12_hangs_84 (tgt := 52) rfl ?_
      exact k_sub hK [2, 1, 0] rfl hF
    · have hF := hF.2 h5
      refine k_ic hK dX12_hangs_73 ci_1 ?_
      refine k_goto hK dX12_hangs_74 (tgt := 78) rfl ?_
      refine k_op hK dX12_hangs_78 rfl rfl ?_
      refine k_st hK dX12_hangs_79 rfl rfl rfl (Nat.le_of_ble_eq_true rfl) rfl ?_
      refine k_iinc hK 2 dX12_hangs_81 (v := (x5 + 1)) rfl (Nat.le_of_ble_eq_true rfl) (congrArg (fun q => x5 + q) ci_1) rfl ?_
      refine k_goto hK dX12_hangs_84 (tgt := 52) rfl ?_
      exact k_sub hK [2, 1, 0] rfl hF
set_option maxHeartbeats 4000000 in
theorem g_X12_hangs_98 {d : Nat} {K : KT} {Q : Int32 → HI → Prop} {I : HI} {J : HJ} {R : HR} {x2 : Int32} {y4 : Bool} {x5 : Int32} (hK : am_R M_X12_hangs (am_W d) none R (qC fi J R Q) K) (hs : Stat R)  (hF : (((I 80 44) ≤ x5 → Wc fv d M_X12_laysOn [.ref 80, .int (1000 + x2)] I J R (fun u2 I3 => K 139 [(0, .ref 80), (4, .int (b2i y4)), (5, .int 0)] [] I3 J R)) ∧ (¬ (I 80 44) ≤ x5 → (∃ n4 : Nat, x5 = nI n4 ∧ n4 < 400 ∧ (((I 109 n4) = 0 ∨ (I 109 n4) = 1) ∧ K 98 [(0, .ref 80), (2, .int x2), (4, .int (b2i y4)), (5, .int (x5 + 1))] [] (up I 110 n4 (I 109 n4)) J R))))) : K 98 [(0, .ref 80), (2, .int x2), (4, .int (b2i y4)), (5, .int x5)] [] I J R := by
  refine k_ld hK 3 dX12_hangs_98 rfl rfl rfl rfl ?_
  refine k_ld hK 0 dX12_hangs_100 rfl rfl rfl rfl ?_
  refine k_gI hK dX12_hangs_101 lf_X12_353 rfl (sc_80 hs) rfl ?_
  refine k_cge hK dX12_hangs_104 (tgt := 127) rfl (fun h1 => ?_) (fun h1 => ?_)
  · have hF := hF.1 h1
    refine k_ld hK 0 dX12_hangs_127 rfl rfl rfl rfl ?_
    refine k_si hK dX12_hangs_128 cs_1000 ?_
    refine k_ld hK 1 dX12_hangs_131 rfl rfl rfl rfl ?_
    refine k_op hK dX12_hangs_132 rfl rfl ?_
    refine k_cVc hK dX12_hangs_133 (Or.inl lm_X12_426) (As := [.int (1000 + x2)]) (S := []) rfl (sc_80 hs) (Nat.le_of_ble_eq_true rfl) (fit_0 rfl rfl) rfl hF (fun u2 I3 hF => ?_)
    show K _ _ [] _ _ _
    refine k_ic hK dX12_hangs_136 ci_0 ?_
    refine k_st hK dX12_hangs_137 rfl rfl rfl (Nat.le_of_ble_eq_true rfl) rfl ?_
    exact k_sub hK [1, 3, 0] rfl hF
  · have hF := hF.2 h1
    refine k_ld hK 0 dX12_hangs_107 rfl rfl rfl rfl ?_
    refine k_gR hK dX12_hangs_108 lf_X12_103 rfl (sc_80 hs) (sf_80_63 hs) ?_
    refine k_ld hK 3 dX12_hangs_111 rfl rfl rfl rfl ?_
    refine k_ld hK 0 dX12_hangs_113 rfl rfl rfl rfl ?_
    refine k_gR hK dX12_hangs_114 lf_X12_99 rfl (sc_80 hs) (sf_80_62 hs) ?_
    refine k_ld hK 3 dX12_hangs_117 rfl rfl rfl rfl ?_
    obtain ⟨n4, i5, j6, hF⟩ := hF
    refine k_bald hK dX12_hangs_119 (Or.inr (sc_109 hs)) sn_109 (by decide) i5 j6 rfl ?_
    obtain ⟨c7, hF⟩ := hF
    refine k_bast hK dX12_hangs_120 (Or.inr ⟨(sc_110 hs), c7⟩) sn_110 (by decide) i5 j6 ?_
    refine k_iinc hK 3 dX12_hangs_121 (v := (x5 + 1)) rfl (Nat.le_of_ble_eq_true rfl) (congrArg (fun q => x5 + q) ci_1) rfl ?_
    refine k_goto hK dX12_hangs_124 (tgt := 98) rfl ?_
    exact k_sub hK [1, 2, 3, 0] rfl hF
set_option maxHeartbeats 4000000 in
theorem g_X12_hangs_139 {d : Nat} {K : KT} {Q : Int32 → HI → Prop} {I : HI} {J : HJ} {R : HR} {x4 : Int32} {x5 : Int32} (hK : am_R M_X12_hangs (am_W d) none R (qC fi J R Q) K) (hs : Stat R)  (hF : (((I 80 44) ≤ x5 → Q x4 I) ∧ (¬ (I 80 44) ≤ x5 → (∃ n2 : Nat, x5 = nI n2 ∧ n2 < 400 ∧ (((I 110 n2) = 0 → K 139 [(0, .ref 80), (4, .int (x4 + 0)), (5, .int (x5 + 1))] [] I J R) ∧ (¬ (I 110 n2) = 0 → (((I 109 n2) = 0 → K 139 [(0, .ref 80), (4, .int (x4 + 0)), (5, .int (x5 + 1))] [] I J R) ∧ (¬ (I 109 n2) = 0 → K 139 [(0, .ref 80), (4, .int (x4 + 1)), (5, .int (x5 + 1))] [] I J R)))))))) : K 139 [(0, .ref 80), (4, .int x4), (5, .int x5)] [] I J R := by
  refine k_ld hK 2 dX12_hangs_139 rfl rfl rfl rfl ?_
  refine k_ld hK 0 dX12_hangs_141 rfl rfl rfl rfl ?_
  refine k_gI hK dX12_hangs_142 lf_X12_353 rfl (sc_80 hs) rfl ?_
  refine k_cge hK dX12_hangs_145 (tgt := 184) rfl (fun h1 => ?_) (fun h1 => ?_)
  · have hF := hF.1 h1
    refine k_ld hK 1 dX12_hangs_184 rfl rfl rfl rfl ?_
    exact k_iret hK dX12_hangs_186 rfl rfl (done_0 rfl rfl) (qC_i hF)
  · have hF := hF.2 h1
    refine k_ld hK 1 dX12_hangs_148 rfl rfl rfl rfl ?_
    refine k_ld hK 0 dX12_hangs_150 rfl rfl rfl rfl ?_
    refine k_gR hK dX12_hangs_151 lf_X12_103 rfl (sc_80 hs) (sf_80_63 hs) ?_
    refine k_ld hK 2 dX12_hangs_154 rfl rfl rfl rfl ?_
    obtain ⟨n2, i3, j4, hF⟩ := hF
    refine k_bald hK dX12_hangs_156 (Or.inr (sc_110 hs)) sn_110 (by decide) i3 j4 rfl ?_
    refine k_eq hK dX12_hangs_157 (tgt := 174) rfl (fun h5 => ?_) (fun h5 => ?_)
    · have hF := hF.1 h5
      refine k_ic hK dX12_hangs_174 ci_0 ?_
      refine k_op hK dX12_hangs_175 rfl rfl ?_
      refine k_st hK dX12_hangs_176 rfl rfl rfl (Nat.le_of_ble_eq_true rfl) rfl ?_
      refine k_iinc hK 2 dX12_hangs_178 (v := (x5 + 1)) rfl (Nat.le_of_ble_eq_true rfl) (congrArg (fun q => x5 + q) ci_1) rfl ?_
      refine k_goto hK dX12_hangs_181 (tgt := 139) rfl ?_
      exact k_sub hK [2, 1, 0] rfl hF
    · have hF := hF.2 h5
      refine k_ld hK 0 dX12_hangs_160 rfl rfl rfl rfl ?_
      refine k_gR hK dX12_hangs_161 lf_X12_99 rfl (sc_80 hs) (sf_80_62 hs) ?_
      refine k_ld hK 2 dX12_hangs_164 rfl rfl rfl rfl ?_
      refine k_bald hK dX12_hangs_166 (Or.inr (sc_109 hs)) sn_109 (by decide) i3 j4 rfl ?_
      refine k_eq hK dX12_hangs_167 (tgt := 174) rfl (fun h6 => ?_) (fun h6 => ?_)
      · have hF := hF.1 h6
        refine k_ic hK dX12_hangs_174 ci_0 ?_
        refine k_op hK dX12_hangs_175 rfl rfl ?_
        refine k_st hK dX12_hangs_176 rfl rfl rfl (Nat.le_of_ble_eq_true rfl) rfl ?_
        refine k_iinc hK 2 dX12_hangs_178 (v := (x5 + 1)) rfl (Nat.le_of_ble_eq_true rfl) (congrArg (fun q => x5 + q) ci_1) rfl ?_
        refine k_goto hK dX12_hangs_181 (tgt := 139) rfl ?_
        exact k_sub hK [2, 1, 0] rfl hF
      · have hF := hF.2 h6
        refine k_ic hK dX12_hangs_170 ci_1 ?_
        refine k_goto hK dX12_hangs_171 (tgt := 175) rfl ?_
        refine k_op hK dX12_hangs_175 rfl rfl ?_
        refine k_st hK dX12_hangs_176 rfl rfl rfl (Nat.le_of_ble_eq_true rfl) rfl ?_
        refine k_iinc hK 2 dX12_hangs_178 (v := (x5 + 1)) rfl (Nat.le_of_ble_eq_true rfl) (congrArg (fun q => x5 + q) ci_1) rfl ?_
        refine k_goto hK dX12_hangs_181 (tgt := 139) rfl ?_
        exact k_sub hK [2, 1, 0] rfl hF
set_option maxHeartbeats 4000000 in
theorem g_X12_back_0 {d : Nat} {K : KT} {Q : Int32 → HI → Prop} {I : HI} {J : HJ} {R : HR} {x1 : Int32} {x2 : Int32} (hK : am_R M_X12_back (am_W d) none R (qC fi J R Q) K) (hs : Stat R)  (hF : Wp fb d M_X12_isOut [.ref 80, .int x1] (up I 80 0 0) J R (fun b1 => ((b1 = false → Q (-1) (up I 80 0 0)) ∧ (b1 = true → ((0 ≤ x2 → Wc fv d M_X12_laysBack [.ref 80, .int x1] (up I 80 0 0) J R (fun u4 I5 => K 34 [(0, .ref 80), (3, .int x2), (4, .int ((I5 80 44) - 1))] [] I5 J R)) ∧ (¬ 0 ≤ x2 → Q (-1) (up I 80 0 0))))))) : K 0 [(0, .ref 80), (1, .int x1), (2, .int x2)] [] I J R := by
  refine k_ld hK 0 dX12_back_0 rfl rfl rfl rfl ?_
  refine k_ic hK dX12_back_1 ci_0 ?_
  refine k_pI hK dX12_back_2 lf_X12_142 rfl rfl rfl (sc_80 hs) ?_
  refine k_ld hK 0 dX12_back_5 rfl rfl rfl rfl ?_
  refine k_ld hK 1 dX12_back_6 rfl rfl rfl rfl ?_
  refine k_cVp hK dX12_back_7 (Or.inl lm_X12_420) (As := [.int x1]) (S := []) rfl (sc_80 hs) (Nat.le_of_ble_eq_true rfl) (fit_0 rfl rfl) rfl hF (fun b1 hF => ?_)
  show K _ _ [.int (b2i b1)] _ _ _
  refine k_beq hK dX12_back_10 (tgt := 17) rfl (fun h2 => ?_) (fun h2 => ?_)
  · have hF := hF.1 h2
    refine k_ic hK dX12_back_17 ci_m1 ?_
    exact k_iret hK dX12_back_18 rfl rfl (done_0 rfl rfl) (qC_i hF)
  · have hF := hF.2 h2
    refine k_ld hK 2 dX12_back_13 rfl rfl rfl rfl ?_
    refine k_ge hK dX12_back_14 (tgt := 19) rfl (fun h3 => ?_) (fun h3 => ?_)
    · have hF := hF.1 h3
      refine k_ld hK 0 dX12_back_19 rfl rfl rfl rfl ?_
      refine k_ld hK 1 dX12_back_20 rfl rfl rfl rfl ?_
      refine k_cVc hK dX12_back_21 (Or.inl lm_X12_441) (As := [.int x1]) (S := []) rfl (sc_80 hs) (Nat.le_of_ble_eq_true rfl) (fit_0 rfl rfl) rfl hF (fun u4 I5 hF => ?_)
      show K _ _ [] _ _ _
      refine k_ld hK 2 dX12_back_24 rfl rfl rfl rfl ?_
      refine k_st hK dX12_back_25 rfl rfl rfl (Nat.le_of_ble_eq_true rfl) rfl ?_
      refine k_ld hK 1 dX12_back_26 rfl rfl rfl rfl ?_
      refine k_gI hK dX12_back_27 lf_X12_353 rfl (sc_80 hs) rfl ?_
      refine k_ic hK dX12_back_30 ci_1 ?_
      refine k_op hK dX12_back_31 rfl rfl ?_
      refine k_st hK dX12_back_32 rfl rfl rfl (Nat.le_of_ble_eq_true rfl) rfl ?_
      exact k_sub hK [2, 1, 0] rfl hF
    · have hF := hF.2 h3
      refine k_ic hK dX12_back_17 ci_m1 ?_
      exact k_iret hK dX12_back_18 rfl rfl (done_0 rfl rfl) (qC_i hF)
set_option maxHeartbeats 4000000 in
theorem g_X12_back_34 {d : Nat} {K : KT} {Q : Int32 → HI → Prop} {I : HI} {J : HJ} {R : HR} {x3 : Int32} {x4 : Int32} (hK : am_R M_X12_back (am_W d) none R (qC fi J R Q) K) (hs : Stat R)  (hF : ((x4 < 0 → Q (-2) I) ∧ (¬ x4 < 0 → (∃ n2 : Nat, x4 = nI n2 ∧ n2 < 400 ∧ ((¬ (I 109 n2) = 0 → ((¬ x3 = 0 → K 34 [(0, .ref 80), (3, .int (x3 + (-1))), (4, .int (x4 + (-1)))] [] I J R) ∧ (x3 = 0 → Q x4 I))) ∧ ((I 109 n2) = 0 → K 34 [(0, .ref 80), (3, .int x3), (4, .int (x4 + (-1)))] [] I J R)))))) : K 34 [(0, .ref 80), (3, .int x3), (4, .int x4)] [] I J R := by
  refine k_ld hK 2 dX12_back_34 rfl rfl rfl rfl ?_
  refine k_lt hK dX12_back_36 (tgt := 68) rfl (fun h1 => ?_) (fun h1 => ?_)
  · have hF := hF.1 h1
    refine k_bi hK dX12_back_68 cb_m2 ?_
    exact k_iret hK dX12_back_70 rfl rfl (done_0 rfl rfl) (qC_i hF)
  · have hF := hF.2 h1
    refine k_ld hK 0 dX12_back_39 rfl rfl rfl rfl ?_
    refine k_gR hK dX12_back_40 lf_X12_99 rfl (sc_80 hs) (sf_80_62 hs) ?_
    refine k_ld hK 2 dX12_back_43 rfl rfl rfl rfl ?_
    obtain ⟨n2, i3, j4, hF⟩ := hF
    refine k_bald hK dX12_back_45 (Or.inr (sc_109 hs)) sn_109 (by decide) i3 j4 rfl ?_
    refine k_ne hK dX12_back_46 (tgt := 52) rfl (fun h5 => ?_) (fun h5 => ?_)
    · have hF := hF.1 h5
      refine k_ld hK 1 dX12_back_52 rfl rfl rfl rfl ?_
      refine k_ne hK dX12_back_53 (tgt := 59) rfl (fun h6 => ?_) (fun h6 => ?_)
      · have hF := hF.1 h6
        refine k_iinc hK 1 dX12_back_59 (v := (x3 + (-1))) rfl (Nat.le_of_ble_eq_true rfl) (congrArg (fun q => x3 + q) ci_m1) rfl ?_
        refine k_iinc hK 2 dX12_back_62 (v := (x4 + (-1))) rfl (Nat.le_of_ble_eq_true rfl) (congrArg (fun q => x4 + q) ci_m1) rfl ?_
        refine k_goto hK dX12_back_65 (tgt := 34) rfl ?_
        exact k_sub hK [2, 1, 0] rfl hF
      · have hF := hF.2 h6
        refine k_ld hK 2 dX12_back_56 rfl rfl rfl rfl ?_
        exact k_iret hK dX12_back_58 rfl rfl (done_0 rfl rfl) (qC_i hF)
    · have hF := hF.2 h5
      refine k_goto hK dX12_back_49 (tgt := 62) rfl ?_
      refine k_iinc hK 2 dX12_back_62 (v := (x4 + (-1))) rfl (Nat.le_of_ble_eq_true rfl) (congrArg (fun q => x4 + q) ci_m1) rfl ?_
      refine k_goto hK dX12_back_65 (tgt := 34) rfl ?_
      exact k_sub hK [1, 2, 0] rfl hF
set_option maxHeartbeats 4000000 in
theorem g_X12_forward_0 {d : Nat} {K : KT} {Q : Int32 → HI → Prop} {I : HI} {J : HJ} {R : HR} {x1 : Int32} (hK : am_R M_X12_forward (am_W d) none R (qC fi J R Q) K) (hs : Stat R)  (hF : Wc fv d M_X12_laysOn [.ref 80, .int (1000 + x1)] I J R (fun u1 I2 => K 13 [(0, .ref 80), (1, .int x1), (2, .int 0), (3, .int 0)] [] I2 J R)) : K 0 [(0, .ref 80), (1, .int x1)] [] I J R := by
  refine k_ld hK 0 dX12_forward_0 rfl rfl rfl rfl ?_
  refine k_si hK dX12_forward_1 cs_1000 ?_
  refine k_ld hK 1 dX12_forward_4 rfl rfl rfl rfl ?_
  refine k_op hK dX12_forward_5 rfl rfl ?_
  refine k_cVc hK dX12_forward_6 (Or.inl lm_X12_426) (As := [.int (1000 + x1)]) (S := []) rfl (sc_80 hs) (Nat.le_of_ble_eq_true rfl) (fit_0 rfl rfl) rfl hF (fun u1 I2 hF => ?_)
  show K _ _ [] _ _ _
  refine k_ic hK dX12_forward_9 ci_0 ?_
  refine k_st hK dX12_forward_10 rfl rfl rfl (Nat.le_of_ble_eq_true rfl) rfl ?_
  refine k_ic hK dX12_forward_11 ci_0 ?_
  refine k_st hK dX12_forward_12 rfl rfl rfl (Nat.le_of_ble_eq_true rfl) rfl ?_
  exact k_sub hK [2, 3, 1, 0] rfl hF
set_option maxHeartbeats 4000000 in
theorem g_X12_forward_13 {d : Nat} {K : KT} {Q : Int32 → HI → Prop} {I : HI} {J : HJ} {R : HR} {x1 : Int32} {x2 : Int32} {x3 : Int32} (hK : am_R M_X12_forward (am_W d) none R (qC fi J R Q) K) (hs : Stat R)  (hF : (((I 80 44) ≤ x3 → Q x2 I) ∧ (¬ (I 80 44) ≤ x3 → (∃ n2 : Nat, x3 = nI n2 ∧ n2 < 400 ∧ Wp fb d M_X12_isOn [.ref 80, .int (I 96 n2), .int (1000 + x1)] I J R (fun b5 => Wp fb d M_X12_isOn [.ref 80, .int (I 97 n2), .int (1000 + x1)] I J R (fun b6 => ((¬ (I 92 n2) = 5 → K 89 [(0, .ref 80), (1, .int x1), (2, .int x2), (3, .int x3), (4, .int (b2i b5)), (5, .int (b2i b6))] [] I J R) ∧ ((I 92 n2) = 5 → ((b5 = false → ((b6 = false → K 89 [(0, .ref 80), (1, .int x1), (2, .int (x2 + (0 + 0))), (3, .int x3), (4, .int (b2i b5)), (5, .int (b2i b6))] [] I J R) ∧ (b6 = true → K 89 [(0, .ref 80), (1, .int x1), (2, .int (x2 + (0 + 1))), (3, .int x3), (4, .int (b2i b5)), (5, .int (b2i b6))] [] I J R))) ∧ (b5 = true → ((b6 = false → K 89 [(0, .ref 80), (1, .int x1), (2, .int (x2 + (1 + 0))), (3, .int x3), (4, .int (b2i b5)), (5, .int (b2i b6))] [] I J R) ∧ (b6 = true → K 89 [(0, .ref 80), (1, .int x1), (2, .int (x2 + (1 + 1))), (3, .int x3), (4, .int (b2i b5)), (5, .int (b2i b6))] [] I J R)))))))))))) : K 13 [(0, .ref 80), (1, .int x1), (2, .int x2), (3, .int x3)] [] I J R := by
  refine k_ld hK 3 dX12_forward_13 rfl rfl rfl rfl ?_
  refine k_ld hK 0 dX12_forward_14 rfl rfl rfl rfl ?_
  refine k_gI hK dX12_forward_15 lf_X12_353 rfl (sc_80 hs) rfl ?_
  refine k_cge hK dX12_forward_18 (tgt := 135) rfl (fun h1 => ?_) (fun h1 => ?_)
  · have hF := hF.1 h1
    refine k_ld hK 2 dX12_forward_135 rfl rfl rfl rfl ?_
    exact k_iret hK dX12_forward_136 rfl rfl (done_0 rfl rfl) (qC_i hF)
  · have hF := hF.2 h1
    refine k_ld hK 0 dX12_forward_21 rfl rfl rfl rfl ?_
    refine k_ld hK 0 dX12_forward_22 rfl rfl rfl rfl ?_
    refine k_gR hK dX12_forward_23 lf_X12_60 rfl (sc_80 hs) (sf_80_41 hs) ?_
    refine k_ld hK 3 dX12_forward_26 rfl rfl rfl rfl ?_
    obtain ⟨n2, i3, j4, hF⟩ := hF
    refine k_iald hK dX12_forward_27 (sc_96 hs) sn_96 (by decide) i3 j4 rfl ?_
    refine k_si hK dX12_forward_28 cs_1000 ?_
    refine k_ld hK 1 dX12_forward_31 rfl rfl rfl rfl ?_
    refine k_op hK dX12_forward_32 rfl rfl ?_
    refine k_cVp hK dX12_forward_33 (Or.inl lm_X12_423) (As := [.int (I 96 n2), .int (1000 + x1)]) (S := []) rfl (sc_80 hs) (Nat.le_of_ble_eq_true rfl) (fit_0 rfl rfl) rfl hF (fun b5 hF => ?_)
    show K _ _ [.int (b2i b5)] _ _ _
    refine k_st hK dX12_forward_36 rfl rfl rfl (Nat.le_of_ble_eq_true rfl) rfl ?_
    refine k_ld hK 1 dX12_forward_38 rfl rfl rfl rfl ?_
    refine k_ld hK 1 dX12_forward_39 rfl rfl rfl rfl ?_
    refine k_gR hK dX12_forward_40 lf_X12_63 rfl (sc_80 hs) (sf_80_42 hs) ?_
    refine k_ld hK 4 dX12_forward_43 rfl rfl rfl rfl ?_
    refine k_iald hK dX12_forward_44 (sc_97 hs) sn_97 (by decide) i3 j4 rfl ?_
    refine k_si hK dX12_forward_45 cs_1000 ?_
    refine k_ld hK 2 dX12_forward_48 rfl rfl rfl rfl ?_
    refine k_op hK dX12_forward_49 rfl rfl ?_
    refine k_cVp hK dX12_forward_50 (Or.inl lm_X12_423) (As := [.int (I 97 n2), .int (1000 + x1)]) (S := []) rfl (sc_80 hs) (Nat.le_of_ble_eq_true rfl) (fit_0 rfl rfl) rfl hF (fun b6 hF => ?_)
    show K _ _ [.int (b2i b6)] _ _ _
    refine k_st hK dX12_forward_53 rfl rfl rfl (Nat.le_of_ble_eq_true rfl) rfl ?_
    refine k_ld hK 2 dX12_forward_55 rfl rfl rfl rfl ?_
    refine k_gR hK dX12_forward_56 lf_X12_48 rfl (sc_80 hs) (sf_80_37 hs) ?_
    refine k_ld hK 5 dX12_forward_59 rfl rfl rfl rfl ?_
    refine k_iald hK dX12_forward_60 (sc_92 hs) sn_92 (by decide) i3 j4 rfl ?_
    refine k_ic hK dX12_forward_61 ci_5 ?_
    refine k_cne hK dX12_forward_62 (tgt := 89) rfl (fun h7 => ?_) (fun h7 => ?_)
    · have hF := hF.1 h7
      exact k_sub hK [2, 3, 4, 5, 1, 0] rfl hF
    · have hF := hF.2 h7
      refine k_ld hK 4 dX12_forward_65 rfl rfl rfl rfl ?_
      refine k_ld hK 1 dX12_forward_66 rfl rfl rfl rfl ?_
      refine k_beq hK dX12_forward_68 (tgt := 75) rfl (fun h8 => ?_) (fun h8 => ?_)
      · have hF := hF.1 h8
        refine k_ic hK dX12_forward_75 ci_0 ?_
        refine k_ld hK 0 dX12_forward_76 rfl rfl rfl rfl ?_
        refine k_beq hK dX12_forward_78 (tgt := 85) rfl (fun h9 => ?_) (fun h9 => ?_)
        · have hF := hF.1 h9
          refine k_ic hK dX12_forward_85 ci_0 ?_
          refine k_op hK dX12_forward_86 rfl rfl ?_
          refine k_op hK dX12_forward_87 rfl rfl ?_
          refine k_st hK dX12_forward_88 rfl rfl rfl (Nat.le_of_ble_eq_true rfl) rfl ?_
          exact k_sub hK [3, 4, 0, 5, 2, 1] rfl hF
        · have hF := hF.2 h9
          refine k_ic hK dX12_forward_81 ci_1 ?_
          refine k_goto hK dX12_forward_82 (tgt := 86) rfl ?_
          refine k_op hK dX12_forward_86 rfl rfl ?_
          refine k_op hK dX12_forward_87 rfl rfl ?_
          refine k_st hK dX12_forward_88 rfl rfl rfl (Nat.le_of_ble_eq_true rfl) rfl ?_
          exact k_sub hK [3, 4, 0, 5, 2, 1] rfl hF
      · have hF := hF.2 h8
        refine k_ic hK dX12_forward_71 ci_1 ?_
        refine k_goto hK dX12_forward_72 (tgt := 76) rfl ?_
        refine k_ld hK 0 dX12_forward_76 rfl rfl rfl rfl ?_
        refine k_beq hK dX12_forward_78 (tgt := 85) rfl (fun h10 => ?_) (fun h10 => ?_)
        · have hF := hF.1 h10
          refine k_ic hK dX12_forward_85 ci_0 ?_
          refine k_op hK dX12_forward_86 rfl rfl ?_
          refine k_op hK dX12_forward_87 rfl rfl ?_
          refine k_st hK dX12_forward_88 rfl rfl rfl (Nat.le_of_ble_eq_true rfl) rfl ?_
          exact k_sub hK [3, 4, 0, 5, 2, 1] rfl hF
        · have hF := hF.2 h10
          refine k_ic hK dX12_forward_81 ci_1 ?_
          refine k_goto hK dX12_forward_82 (tgt := 86) rfl ?_
          refine k_op hK dX12_forward_86 rfl rfl ?_
          refine k_op hK dX12_forward_87 rfl rfl ?_
          refine k_st hK dX12_forward_88 rfl rfl rfl (Nat.le_of_ble_eq_true rfl) rfl ?_
          exact k_sub hK [3, 4, 0, 5, 2, 1] rfl hF
set_option maxHeartbeats 4000000 in
theorem g_X12_forward_89 {d : Nat} {K : KT} {Q : Int32 → HI → Prop} {I : HI} {J : HJ} {R : HR} {x1 : Int32} {x2 : Int32} {x3 : Int32} {y4 : Bool} {y5 : Bool} (hK : am_R M_X12_forward (am_W d) none R (qC fi J R Q) K) (hs : Stat R)  (hF : (∃ n1 : Nat, x3 = nI n1 ∧ n1 < 400 ∧ ((¬ (I 92 n1) = 6 → K 13 [(0, .ref 80), (1, .int x1), (2, .int x2), (3, .int (x3 + 1))] [] I J R) ∧ ((I 92 n1) = 6 → ((y4 = true → ((y5 = false → K 13 [(0, .ref 80), (1, .int x1), (2, .int (x2 + (1 + 0))), (3, .int (x3 + 1))] [] I J R) ∧ (y5 = true → K 13 [(0, .ref 80), (1, .int x1), (2, .int (x2 + (1 + 1))), (3, .int (x3 + 1))] [] I J R))) ∧ (y4 = false → ((y5 = false → ((y5 = false → K 13 [(0, .ref 80), (1, .int x1), (2, .int (x2 + (0 + 0))), (3, .int (x3 + 1))] [] I J R) ∧ (y5 = true → K 13 [(0, .ref 80), (1, .int x1), (2, .int (x2 + (0 + 1))), (3, .int (x3 + 1))] [] I J R))) ∧ (y5 = true → ((y5 = false → K 13 [(0, .ref 80), (1, .int x1), (2, .int (x2 + (1 + 0))), (3, .int (x3 + 1))] [] I J R) ∧ (y5 = true → K 13 [(0, .ref 80), (1, .int x1), (2, .int (x2 + (1 + 1))), (3, .int (x3 + 1))] [] I J R)))))))))) : K 89 [(0, .ref 80), (1, .int x1), (2, .int x2), (3, .int x3), (4, .int (b2i y4)), (5, .int (b2i y5))] [] I J R := by
  refine k_ld hK 0 dX12_forward_89 rfl rfl rfl rfl ?_
  refine k_gR hK dX12_forward_90 lf_X12_48 rfl (sc_80 hs) (sf_80_37 hs) ?_
  refine k_ld hK 3 dX12_forward_93 rfl rfl rfl rfl ?_
  obtain ⟨n1, i2, j3, hF⟩ := hF
  refine k_iald hK dX12_forward_94 (sc_92 hs) sn_92 (by decide) i2 j3 rfl ?_
  refine k_bi hK dX12_forward_95 cb_6 ?_
  refine k_cne hK dX12_forward_97 (tgt := 129) rfl (fun h4 => ?_) (fun h4 => ?_)
  · have hF := hF.1 h4
    refine k_iinc hK 3 dX12_forward_129 (v := (x3 + 1)) rfl (Nat.le_of_ble_eq_true rfl) (congrArg (fun q => x3 + q) ci_1) rfl ?_
    refine k_goto hK dX12_forward_132 (tgt := 13) rfl ?_
    exact k_sub hK [1, 2, 3, 0] rfl hF
  · have hF := hF.2 h4
    refine k_ld hK 2 dX12_forward_100 rfl rfl rfl rfl ?_
    refine k_ld hK 4 dX12_forward_101 rfl rfl rfl rfl ?_
    refine k_bne hK dX12_forward_103 (tgt := 111) rfl (fun h5 => ?_) (fun h5 => ?_)
    · have hF := hF.1 h5
      refine k_ic hK dX12_forward_111 ci_1 ?_
      refine k_goto hK dX12_forward_112 (tgt := 116) rfl ?_
      refine k_ld hK 5 dX12_forward_116 rfl rfl rfl rfl ?_
      refine k_beq hK dX12_forward_118 (tgt := 125) rfl (fun h6 => ?_) (fun h6 => ?_)
      · have hF := hF.1 h6
        refine k_ic hK dX12_forward_125 ci_0 ?_
        refine k_op hK dX12_forward_126 rfl rfl ?_
        refine k_op hK dX12_forward_127 rfl rfl ?_
        refine k_st hK dX12_forward_128 rfl rfl rfl (Nat.le_of_ble_eq_true rfl) rfl ?_
        refine k_iinc hK 3 dX12_forward_129 (v := (x3 + 1)) rfl (Nat.le_of_ble_eq_true rfl) (congrArg (fun q => x3 + q) ci_1) rfl ?_
        refine k_goto hK dX12_forward_132 (tgt := 13) rfl ?_
        exact k_sub hK [2, 3, 1, 0] rfl hF
      · have hF := hF.2 h6
        refine k_ic hK dX12_forward_121 ci_1 ?_
        refine k_goto hK dX12_forward_122 (tgt := 126) rfl ?_
        refine k_op hK dX12_forward_126 rfl rfl ?_
        refine k_op hK dX12_forward_127 rfl rfl ?_
        refine k_st hK dX12_forward_128 rfl rfl rfl (Nat.le_of_ble_eq_true rfl) rfl ?_
        refine k_iinc hK 3 dX12_forward_129 (v := (x3 + 1)) rfl (Nat.le_of_ble_eq_true rfl) (congrArg (fun q => x3 + q) ci_1) rfl ?_
        refine k_goto hK dX12_forward_132 (tgt := 13) rfl ?_
        exact k_sub hK [2, 3, 1, 0] rfl hF
    · have hF := hF.2 h5
      refine k_ld hK 5 dX12_forward_106 rfl rfl rfl rfl ?_
      refine k_beq hK dX12_forward_108 (tgt := 115) rfl (fun h7 => ?_) (fun h7 => ?_)
      · have hF := hF.1 h7
        refine k_ic hK dX12_forward_115 ci_0 ?_
        refine k_ld hK 5 dX12_forward_116 rfl rfl rfl rfl ?_
        refine k_beq hK dX12_forward_118 (tgt := 125) rfl (fun h8 => ?_) (fun h8 => ?_)
        · have hF := hF.1 h8
          refine k_ic hK dX12_forward_125 ci_0 ?_
          refine k_op hK dX12_forward_126 rfl rfl ?_
          refine k_op hK dX12_forward_127 rfl rfl ?_
          refine k_st hK dX12_forward_128 rfl rfl rfl (Nat.le_of_ble_eq_true rfl) rfl ?_
          refine k_iinc hK 3 dX12_forward_129 (v := (x3 + 1)) rfl (Nat.le_of_ble_eq_true rfl) (congrArg (fun q => x3 + q) ci_1) rfl ?_
          refine k_goto hK dX12_forward_132 (tgt := 13) rfl ?_
          exact k_sub hK [2, 3, 1, 0] rfl hF
        · have hF := hF.2 h8
          refine k_ic hK dX12_forward_121 ci_1 ?_
          refine k_goto hK dX12_forward_122 (tgt := 126) rfl ?_
          refine k_op hK dX12_forward_126 rfl rfl ?_
          refine k_op hK dX12_forward_127 rfl rfl ?_
          refine k_st hK dX12_forward_128 rfl rfl rfl (Nat.le_of_ble_eq_true rfl) rfl ?_
          refine k_iinc hK 3 dX12_forward_129 (v := (x3 + 1)) rfl (Nat.le_of_ble_eq_true rfl) (congrArg (fun q => x3 + q) ci_1) rfl ?_
          refine k_goto hK dX12_forward_132 (tgt := 13) rfl ?_
          exact k_sub hK [2, 3, 1, 0] rfl hF
      · have hF := hF.2 h7
        refine k_ic hK dX12_forward_111 ci_1 ?_
        refine k_goto hK dX12_forward_112 (tgt := 116) rfl ?_
        refine k_ld hK 5 dX12_forward_116 rfl rfl rfl rfl ?_
        refine k_beq hK dX12_forward_118 (tgt := 125) rfl (fun h9 => ?_) (fun h9 => ?_)
        · have hF := hF.1 h9
          refine k_ic hK dX12_forward_125 ci_0 ?_
          refine k_op hK dX12_forward_126 rfl rfl ?_
          refine k_op hK dX12_forward_127 rfl rfl ?_
          refine k_st hK dX12_forward_128 rfl rfl rfl (Nat.le_of_ble_eq_true rfl) rfl ?_
          refine k_iinc hK 3 dX12_forward_129 (v := (x3 + 1)) rfl (Nat.le_of_ble_eq_true rfl) (congrArg (fun q => x3 + q) ci_1) rfl ?_
          refine k_goto hK dX12_forward_132 (tgt := 13) rfl ?_
          exact k_sub hK [2, 3, 1, 0] rfl hF
        · have hF := hF.2 h9
          refine k_ic hK dX12_forward_121 ci_1 ?_
          refine k_goto hK dX12_forward_122 (tgt := 126) rfl ?_
          refine k_op hK dX12_forward_126 rfl rfl ?_
          refine k_op hK dX12_forward_127 rfl rfl ?_
          refine k_st hK dX12_forward_128 rfl rfl rfl (Nat.le_of_ble_eq_true rfl) rfl ?_
          refine k_iinc hK 3 dX12_forward_129 (v := (x3 + 1)) rfl (Nat.le_of_ble_eq_true rfl) (congrArg (fun q => x3 + q) ci_1) rfl ?_
          refine k_goto hK dX12_forward_132 (tgt := 13) rfl ?_
          exact k_sub hK [2, 3, 1, 0] rfl hF
set_option maxHeartbeats 4000000 in
theorem g_X12_isAlive_0 {d : Nat} {K : KT} {Q : Bool → Prop} {I : HI} {J : HJ} {R : HR} {x1 : Int32} (hK : am_R M_X12_isAlive (am_W d) none R (qP fb I J R Q) K) (hs : Stat R)  (hF : ((1000 ≤ x1 → Q true) ∧ (¬ 1000 ≤ x1 → ((x1 < 0 → Q false) ∧ (¬ x1 < 0 → (∃ n3 : Nat, x1 = nI n3 ∧ n3 < 400 ∧ (((I 111 n3) = 0 → Q false) ∧ (¬ (I 111 n3) = 0 → Q true)))))))) : K 0 [(0, .ref 80), (1, .int x1)] [] I J R := by
  refine k_ld hK 1 dX12_isAlive_0 rfl rfl rfl rfl ?_
  refine k_si hK dX12_isAlive_1 cs_1000 ?_
  refine k_cge hK dX12_isAlive_4 (tgt := 20) rfl (fun h1 => ?_) (fun h1 => ?_)
  · have hF := hF.1 h1
    refine k_ic hK dX12_isAlive_20 ci_1 ?_
    refine k_goto hK dX12_isAlive_21 (tgt := 25) rfl ?_
    exact k_iret (x := b2i true) hK dX12_isAlive_25 rfl (b2i_nar _) (done_0 rfl rfl) (qP_i hF)
  · have hF := hF.2 h1
    refine k_ld hK 1 dX12_isAlive_7 rfl rfl rfl rfl ?_
    refine k_lt hK dX12_isAlive_8 (tgt := 24) rfl (fun h2 => ?_) (fun h2 => ?_)
    · have hF := hF.1 h2
      refine k_ic hK dX12_isAlive_24 ci_0 ?_
      exact k_iret (x := b2i false) hK dX12_isAlive_25 rfl (b2i_nar _) (done_0 rfl rfl) (qP_i hF)
    · have hF := hF.2 h2
      refine k_ld hK 0 dX12_isAlive_11 rfl rfl rfl rfl ?_
      refine k_gR hK dX12_isAlive_12 lf_X12_106 rfl (sc_80 hs) (sf_80_64 hs) ?_
      refine k_ld hK 1 dX12_isAlive_15 rfl rfl rfl rfl ?_
      obtain ⟨n3, i4, j5, hF⟩ := hF
      refine k_bald hK dX12_isAlive_16 (Or.inr (sc_111 hs)) sn_111 (by decide) i4 j5 rfl ?_
      refine k_eq hK dX12_isAlive_17 (tgt := 24) rfl (fun h6 => ?_) (fun h6 => ?_)
      · have hF := hF.1 h6
        refine k_ic hK dX12_isAlive_24 ci_0 ?_
        exact k_iret (x := b2i false) hK dX12_isAlive_25 rfl (b2i_nar _) (done_0 rfl rfl) (qP_i hF)
      · have hF := hF.2 h6
        refine k_ic hK dX12_isAlive_20 ci_1 ?_
        refine k_goto hK dX12_isAlive_21 (tgt := 25) rfl ?_
        exact k_iret (x := b2i true) hK dX12_isAlive_25 rfl (b2i_nar _) (done_0 rfl rfl) (qP_i hF)
theorem e_X12_isAlive {d : Nat} {Q : Bool → Prop} {I : HI} {J : HJ} {R : HR} {x1 : Int32} (hs : Stat R)  (hF : ((1000 ≤ x1 → Q true) ∧ (¬ 1000 ≤ x1 → ((x1 < 0 → Q false) ∧ (¬ x1 < 0 → (∃ n3 : Nat, x1 = nI n3 ∧ n3 < 400 ∧ (((I 111 n3) = 0 → Q false) ∧ (¬ (I 111 n3) = 0 → Q true)))))))) : Wp fb (d + 1) M_X12_isAlive [.ref 80, .int x1] I J R Q := ⟨Nat.le_of_ble_eq_true rfl, fun K hK => g_X12_isAlive_0 hK hs hF⟩
set_option maxHeartbeats 4000000 in
theorem g_X12_backward_0 {d : Nat} {K : KT} {Q : Int32 → HI → Prop} {I : HI} {J : HJ} {R : HR} {x1 : Int32} (hK : am_R M_X12_backward (am_W d) none R (qC fi J R Q) K) (hs : Stat R)  (hF : K 2 [(0, .ref 80), (1, .int x1), (2, .int 0)] [] I J R) : K 0 [(0, .ref 80), (1, .int x1)] [] I J R := by
  refine k_ic hK dX12_backward_0 ci_0 ?_
  refine k_st hK dX12_backward_1 rfl rfl rfl (Nat.le_of_ble_eq_true rfl) rfl ?_
  exact k_sub hK [1, 2, 0] rfl hF
set_option maxHeartbeats 4000000 in
theorem g_X12_backward_2 {d : Nat} {K : KT} {Q : Int32 → HI → Prop} {I : HI} {J : HJ} {R : HR} {x1 : Int32} {x2 : Int32} (hK : am_R M_X12_backward (am_W d) none R (qC fi J R Q) K) (hs : Stat R)  (hF : (((I 80 44) ≤ x2 → Wc fv d M_X12_laysBack [.ref 80, .int x1] I J R (fun u2 I3 => K 62 [(0, .ref 80), (2, .int 0), (3, .int 0)] [] I3 J R)) ∧ (¬ (I 80 44) ≤ x2 → (∃ n4 : Nat, x2 = nI n4 ∧ n4 < 400 ∧ Wp fb d M_X12_isAlive [.ref 80, .int (I 96 n4)] I J R (fun b7 => ((b7 = true → K 2 [(0, .ref 80), (1, .int x1), (2, .int (x2 + 1))] [] (up I 111 n4 1) J R) ∧ (b7 = false → Wp fb d M_X12_isAlive [.ref 80, .int (I 97 n4)] I J R (fun b9 => ((b9 = false → K 2 [(0, .ref 80), (1, .int x1), (2, .int (x2 + 1))] [] (up I 111 n4 0) J R) ∧ (b9 = true → K 2 [(0, .ref 80), (1, .int x1), (2, .int (x2 + 1))] [] (up I 111 n4 1) J R)))))))))) : K 2 [(0, .ref 80), (1, .int x1), (2, .int x2)] [] I J R := by
  refine k_ld hK 2 dX12_backward_2 rfl rfl rfl rfl ?_
  refine k_ld hK 0 dX12_backward_3 rfl rfl rfl rfl ?_
  refine k_gI hK dX12_backward_4 lf_X12_353 rfl (sc_80 hs) rfl ?_
  refine k_cge hK dX12_backward_7 (tgt := 53) rfl (fun h1 => ?_) (fun h1 => ?_)
  · have hF := hF.1 h1
    refine k_ld hK 0 dX12_backward_53 rfl rfl rfl rfl ?_
    refine k_ld hK 1 dX12_backward_54 rfl rfl rfl rfl ?_
    refine k_cVc hK dX12_backward_55 (Or.inl lm_X12_441) (As := [.int x1]) (S := []) rfl (sc_80 hs) (Nat.le_of_ble_eq_true rfl) (fit_0 rfl rfl) rfl hF (fun u2 I3 hF => ?_)
    show K _ _ [] _ _ _
    refine k_ic hK dX12_backward_58 ci_0 ?_
    refine k_st hK dX12_backward_59 rfl rfl rfl (Nat.le_of_ble_eq_true rfl) rfl ?_
    refine k_ic hK dX12_backward_60 ci_0 ?_
    refine k_st hK dX12_backward_61 rfl rfl rfl (Nat.le_of_ble_eq_true rfl) rfl ?_
    exact k_sub hK [2, 1, 0] rfl hF
  · have hF := hF.2 h1
    refine k_ld hK 0 dX12_backward_10 rfl rfl rfl rfl ?_
    refine k_gR hK dX12_backward_11 lf_X12_106 rfl (sc_80 hs) (sf_80_64 hs) ?_
    refine k_ld hK 2 dX12_backward_14 rfl rfl rfl rfl ?_
    refine k_ld hK 0 dX12_backward_15 rfl rfl rfl rfl ?_
    refine k_ld hK 0 dX12_backward_16 rfl rfl rfl rfl ?_
    refine k_gR hK dX12_backward_17 lf_X12_60 rfl (sc_80 hs) (sf_80_41 hs) ?_
    refine k_ld hK 2 dX12_backward_20 rfl rfl rfl rfl ?_
    obtain ⟨n4, i5, j6, hF⟩ := hF
    refine k_iald hK dX12_backward_21 (sc_96 hs) sn_96 (by decide) i5 j6 rfl ?_
    refine k_cVp hK dX12_backward_22 (Or.inl lm_X12_444) (As := [.int (I 96 n4)]) (S := [.int x2, .ref 111]) rfl (sc_80 hs) (Nat.le_of_ble_eq_true rfl) (fit_0 rfl rfl) rfl hF (fun b7 hF => ?_)
    show K _ _ [.int (b2i b7), .int x2, .ref 111] _ _ _
    refine k_bne hK dX12_backward_25 (tgt := 41) rfl (fun h8 => ?_) (fun h8 => ?_)
    · have hF := hF.1 h8
      refine k_ic hK dX12_backward_41 ci_1 ?_
      refine k_goto hK dX12_backward_42 (tgt := 46) rfl ?_
      refine k_bast hK dX12_backward_46 (Or.inr ⟨(sc_111 hs), (by decide)⟩) sn_111 (by decide) i5 j6 ?_
      refine k_iinc hK 2 dX12_backward_47 (v := (x2 + 1)) rfl (Nat.le_of_ble_eq_true rfl) (congrArg (fun q => x2 + q) ci_1) rfl ?_
      refine k_goto hK dX12_backward_50 (tgt := 2) rfl ?_
      exact k_sub hK [1, 2, 0] rfl hF
    · have hF := hF.2 h8
      refine k_ld hK 0 dX12_backward_28 rfl rfl rfl rfl ?_
      refine k_ld hK 0 dX12_backward_29 rfl rfl rfl rfl ?_
      refine k_gR hK dX12_backward_30 lf_X12_63 rfl (sc_80 hs) (sf_80_42 hs) ?_
      refine k_ld hK 2 dX12_backward_33 rfl rfl rfl rfl ?_
      refine k_iald hK dX12_backward_34 (sc_97 hs) sn_97 (by decide) i5 j6 rfl ?_
      refine k_cVp hK dX12_backward_35 (Or.inl lm_X12_444) (As := [.int (I 97 n4)]) (S := [.int x2, .ref 111]) rfl (sc_80 hs) (Nat.le_of_ble_eq_true rfl) (fit_0 rfl rfl) rfl hF (fun b9 hF => ?_)
      show K _ _ [.int (b2i b9), .int x2, .ref 111] _ _ _
      refine k_beq hK dX12_backward_38 (tgt := 45) rfl (fun h10 => ?_) (fun h10 => ?_)
      · have hF := hF.1 h10
        refine k_ic hK dX12_backward_45 ci_0 ?_
        refine k_bast hK dX12_backward_46 (Or.inr ⟨(sc_111 hs), (by decide)⟩) sn_111 (by decide) i5 j6 ?_
        refine k_iinc hK 2 dX12_backward_47 (v := (x2 + 1)) rfl (Nat.le_of_ble_eq_true rfl) (congrArg (fun q => x2 + q) ci_1) rfl ?_
        refine k_goto hK dX12_backward_50 (tgt := 2) rfl ?_
        exact k_sub hK [1, 2, 0] rfl hF
      · have hF := hF.2 h10
        refine k_ic hK dX12_backward_41 ci_1 ?_
        refine k_goto hK dX12_backward_42 (tgt := 46) rfl ?_
        refine k_bast hK dX12_backward_46 (Or.inr ⟨(sc_111 hs), (by decide)⟩) sn_111 (by decide) i5 j6 ?_
        refine k_iinc hK 2 dX12_backward_47 (v := (x2 + 1)) rfl (Nat.le_of_ble_eq_true rfl) (congrArg (fun q => x2 + q) ci_1) rfl ?_
        refine k_goto hK dX12_backward_50 (tgt := 2) rfl ?_
        exact k_sub hK [1, 2, 0] rfl hF
set_option maxHeartbeats 4000000 in
theorem g_X12_backward_62 {d : Nat} {K : KT} {Q : Int32 → HI → Prop} {I : HI} {J : HJ} {R : HR} {x2 : Int32} {x3 : Int32} (hK : am_R M_X12_backward (am_W d) none R (qC fi J R Q) K) (hs : Stat R)  (hF : (((I 80 44) ≤ x3 → Q x2 I) ∧ (¬ (I 80 44) ≤ x3 → (∃ n2 : Nat, x3 = nI n2 ∧ n2 < 400 ∧ (((I 109 n2) = 0 → K 62 [(0, .ref 80), (2, .int x2), (3, .int (x3 + 1))] [] I J R) ∧ (¬ (I 109 n2) = 0 → ((¬ (I 111 n2) = 0 → Wp fb d M_X12_isAlive [.ref 80, .int (I 96 n2)] I J R (fun b7 => Wp fb d M_X12_isAlive [.ref 80, .int (I 97 n2)] I J R (fun b8 => ((¬ (I 92 n2) = 5 → K 149 [(0, .ref 80), (2, .int x2), (3, .int x3), (5, .int (b2i b8))] [] I J R) ∧ ((I 92 n2) = 5 → ((b7 = false → ((b8 = false → K 149 [(0, .ref 80), (2, .int (x2 + (0 + 0))), (3, .int x3), (5, .int (b2i b8))] [] I J R) ∧ (b8 = true → K 149 [(0, .ref 80), (2, .int (x2 + (0 + 1))), (3, .int x3), (5, .int (b2i b8))] [] I J R))) ∧ (b7 = true → ((b8 = false → K 149 [(0, .ref 80), (2, .int (x2 + (1 + 0))), (3, .int x3), (5, .int (b2i b8))] [] I J R) ∧ (b8 = true → K 149 [(0, .ref 80), (2, .int (x2 + (1 + 1))), (3, .int x3), (5, .int (b2i b8))] [] I J R))))))))) ∧ ((I 111 n2) = 0 → K 62 [(0, .ref 80), (2, .int x2), (3, .int (x3 + 1))] [] I J R)))))))) : K 62 [(0, .ref 80), (2, .int x2), (3, .int x3)] [] I J R := by
  refine k_ld hK 2 dX12_backward_62 rfl rfl rfl rfl ?_
  refine k_ld hK 0 dX12_backward_63 rfl rfl rfl rfl ?_
  refine k_gI hK dX12_backward_64 lf_X12_353 rfl (sc_80 hs) rfl ?_
  refine k_cge hK dX12_backward_67 (tgt := 181) rfl (fun h1 => ?_) (fun h1 => ?_)
  · have hF := hF.1 h1
    refine k_ld hK 1 dX12_backward_181 rfl rfl rfl rfl ?_
    exact k_iret hK dX12_backward_182 rfl rfl (done_0 rfl rfl) (qC_i hF)
  · have hF := hF.2 h1
    refine k_ld hK 0 dX12_backward_70 rfl rfl rfl rfl ?_
    refine k_gR hK dX12_backward_71 lf_X12_99 rfl (sc_80 hs) (sf_80_62 hs) ?_
    refine k_ld hK 2 dX12_backward_74 rfl rfl rfl rfl ?_
    obtain ⟨n2, i3, j4, hF⟩ := hF
    refine k_bald hK dX12_backward_75 (Or.inr (sc_109 hs)) sn_109 (by decide) i3 j4 rfl ?_
    refine k_eq hK dX12_backward_76 (tgt := 175) rfl (fun h5 => ?_) (fun h5 => ?_)
    · have hF := hF.1 h5
      refine k_iinc hK 2 dX12_backward_175 (v := (x3 + 1)) rfl (Nat.le_of_ble_eq_true rfl) (congrArg (fun q => x3 + q) ci_1) rfl ?_
      refine k_goto hK dX12_backward_178 (tgt := 62) rfl ?_
      exact k_sub hK [1, 2, 0] rfl hF
    · have hF := hF.2 h5
      refine k_ld hK 0 dX12_backward_79 rfl rfl rfl rfl ?_
      refine k_gR hK dX12_backward_80 lf_X12_106 rfl (sc_80 hs) (sf_80_64 hs) ?_
      refine k_ld hK 2 dX12_backward_83 rfl rfl rfl rfl ?_
      refine k_bald hK dX12_backward_84 (Or.inr (sc_111 hs)) sn_111 (by decide) i3 j4 rfl ?_
      refine k_ne hK dX12_backward_85 (tgt := 91) rfl (fun h6 => ?_) (fun h6 => ?_)
      · have hF := hF.1 h6
        refine k_ld hK 0 dX12_backward_91 rfl rfl rfl rfl ?_
        refine k_ld hK 0 dX12_backward_92 rfl rfl rfl rfl ?_
        refine k_gR hK dX12_backward_93 lf_X12_60 rfl (sc_80 hs) (sf_80_41 hs) ?_
        refine k_ld hK 2 dX12_backward_96 rfl rfl rfl rfl ?_
        refine k_iald hK dX12_backward_97 (sc_96 hs) sn_96 (by decide) i3 j4 rfl ?_
        refine k_cVp hK dX12_backward_98 (Or.inl lm_X12_444) (As := [.int (I 96 n2)]) (S := []) rfl (sc_80 hs) (Nat.le_of_ble_eq_true rfl) (fit_0 rfl rfl) rfl hF (fun b7 hF => ?_)
        show K _ _ [.int (b2i b7)] _ _ _
        refine k_st hK dX12_backward_101 rfl rfl rfl (Nat.le_of_ble_eq_true rfl) rfl ?_
        refine k_ld hK 1 dX12_backward_103 rfl rfl rfl rfl ?_
        refine k_ld hK 1 dX12_backward_104 rfl rfl rfl rfl ?_
        refine k_gR hK dX12_backward_105 lf_X12_63 rfl (sc_80 hs) (sf_80_42 hs) ?_
        refine k_ld hK 3 dX12_backward_108 rfl rfl rfl rfl ?_
        refine k_iald hK dX12_backward_109 (sc_97 hs) sn_97 (by decide) i3 j4 rfl ?_
        refine k_cVp hK dX12_backward_110 (Or.inl lm_X12_444) (As := [.int (I 97 n2)]) (S := []) rfl (sc_80 hs) (Nat.le_of_ble_eq_true rfl) (fit_0 rfl rfl) rfl hF (fun b8 hF => ?_)
        show K _ _ [.int (b2i b8)] _ _ _
        refine k_st hK dX12_backward_113 rfl rfl rfl (Nat.le_of_ble_eq_true rfl) rfl ?_
        refine k_ld hK 2 dX12_backward_115 rfl rfl rfl rfl ?_
        refine k_gR hK dX12_backward_116 lf_X12_48 rfl (sc_80 hs) (sf_80_37 hs) ?_
        refine k_ld hK 4 dX12_backward_119 rfl rfl rfl rfl ?_
        refine k_iald hK dX12_backward_120 (sc_92 hs) sn_92 (by decide) i3 j4 rfl ?_
        refine k_ic hK dX12_backward_121 ci_5 ?_
        refine k_cne hK dX12_backward_122 (tgt := 149) rfl (fun h9 => ?_) (fun h9 => ?_)
        · have hF := hF.1 h9
          exact k_sub hK [2, 3, 4, 0] rfl hF
        · have hF := hF.2 h9
          refine k_ld hK 3 dX12_backward_125 rfl rfl rfl rfl ?_
          refine k_ld hK 1 dX12_backward_126 rfl rfl rfl rfl ?_
          refine k_beq hK dX12_backward_128 (tgt := 135) rfl (fun h10 => ?_) (fun h10 => ?_)
          · have hF := hF.1 h10
            refine k_ic hK dX12_backward_135 ci_0 ?_
            refine k_ld hK 0 dX12_backward_136 rfl rfl rfl rfl ?_
            refine k_beq hK dX12_backward_138 (tgt := 145) rfl (fun h11 => ?_) (fun h11 => ?_)
            · have hF := hF.1 h11
              refine k_ic hK dX12_backward_145 ci_0 ?_
              refine k_op hK dX12_backward_146 rfl rfl ?_
              refine k_op hK dX12_backward_147 rfl rfl ?_
              refine k_st hK dX12_backward_148 rfl rfl rfl (Nat.le_of_ble_eq_true rfl) rfl ?_
              exact k_sub hK [3, 0, 4, 1] rfl hF
            · have hF := hF.2 h11
              refine k_ic hK dX12_backward_141 ci_1 ?_
              refine k_goto hK dX12_backward_142 (tgt := 146) rfl ?_
              refine k_op hK dX12_backward_146 rfl rfl ?_
              refine k_op hK dX12_backward_147 rfl rfl ?_
              refine k_st hK dX12_backward_148 rfl rfl rfl (Nat.le_of_ble_eq_true rfl) rfl ?_
              exact k_sub hK [3, 0, 4, 1] rfl hF
          · have hF := hF.2 h10
            refine k_ic hK dX12_backward_131 ci_1 ?_
            refine k_goto hK dX12_backward_132 (tgt := 136) rfl ?_
            refine k_ld hK 0 dX12_backward_136 rfl rfl rfl rfl ?_
            refine k_beq hK dX12_backward_138 (tgt := 145) rfl (fun h12 => ?_) (fun h12 => ?_)
            · have hF := hF.1 h12
              refine k_ic hK dX12_backward_145 ci_0 ?_
              refine k_op hK dX12_backward_146 rfl rfl ?_
              refine k_op hK dX12_backward_147 rfl rfl ?_
              refine k_st hK dX12_backward_148 rfl rfl rfl (Nat.le_of_ble_eq_true rfl) rfl ?_
              exact k_sub hK [3, 0, 4, 1] rfl hF
            · have hF := hF.2 h12
              refine k_ic hK dX12_backward_141 ci_1 ?_
              refine k_goto hK dX12_backward_142 (tgt := 146) rfl ?_
              refine k_op hK dX12_backward_146 rfl rfl ?_
              refine k_op hK dX12_backward_147 rfl rfl ?_
              refine k_st hK dX12_backward_148 rfl rfl rfl (Nat.le_of_ble_eq_true rfl) rfl ?_
              exact k_sub hK [3, 0, 4, 1] rfl hF
      · have hF := hF.2 h6
        refine k_goto hK dX12_backward_88 (tgt := 175) rfl ?_
        refine k_iinc hK 2 dX12_backward_175 (v := (x3 + 1)) rfl (Nat.le_of_ble_eq_true rfl) (congrArg (fun q => x3 + q) ci_1) rfl ?_
        refine k_goto hK dX12_backward_178 (tgt := 62) rfl ?_
        exact k_sub hK [1, 2, 0] rfl hF
set_option maxHeartbeats 4000000 in
theorem g_X12_backward_149 {d : Nat} {K : KT} {Q : Int32 → HI → Prop} {I : HI} {J : HJ} {R : HR} {x2 : Int32} {x3 : Int32} {y5 : Bool} (hK : am_R M_X12_backward (am_W d) none R (qC fi J R Q) K) (hs : Stat R)  (hF : (∃ n1 : Nat, x3 = nI n1 ∧ n1 < 400 ∧ ((¬ (I 92 n1) = 6 → K 62 [(0, .ref 80), (2, .int x2), (3, .int (x3 + 1))] [] I J R) ∧ ((I 92 n1) = 6 → ((y5 = false → K 62 [(0, .ref 80), (2, .int (x2 + (1 + 0))), (3, .int (x3 + 1))] [] I J R) ∧ (y5 = true → K 62 [(0, .ref 80), (2, .int (x2 + (1 + 1))), (3, .int (x3 + 1))] [] I J R)))))) : K 149 [(0, .ref 80), (2, .int x2), (3, .int x3), (5, .int (b2i y5))] [] I J R := by
  refine k_ld hK 0 dX12_backward_149 rfl rfl rfl rfl ?_
  refine k_gR hK dX12_backward_150 lf_X12_48 rfl (sc_80 hs) (sf_80_37 hs) ?_
  refine k_ld hK 2 dX12_backward_153 rfl rfl rfl rfl ?_
  obtain ⟨n1, i2, j3, hF⟩ := hF
  refine k_iald hK dX12_backward_154 (sc_92 hs) sn_92 (by decide) i2 j3 rfl ?_
  refine k_bi hK dX12_backward_155 cb_6 ?_
  refine k_cne hK dX12_backward_157 (tgt := 175) rfl (fun h4 => ?_) (fun h4 => ?_)
  · have hF := hF.1 h4
    refine k_iinc hK 2 dX12_backward_175 (v := (x3 + 1)) rfl (Nat.le_of_ble_eq_true rfl) (congrArg (fun q => x3 + q) ci_1) rfl ?_
    refine k_goto hK dX12_backward_178 (tgt := 62) rfl ?_
    exact k_sub hK [1, 2, 0] rfl hF
  · have hF := hF.2 h4
    refine k_ld hK 1 dX12_backward_160 rfl rfl rfl rfl ?_
    refine k_ic hK dX12_backward_161 ci_1 ?_
    refine k_ld hK 3 dX12_backward_162 rfl rfl rfl rfl ?_
    refine k_beq hK dX12_backward_164 (tgt := 171) rfl (fun h5 => ?_) (fun h5 => ?_)
    · have hF := hF.1 h5
      refine k_ic hK dX12_backward_171 ci_0 ?_
      refine k_op hK dX12_backward_172 rfl rfl ?_
      refine k_op hK dX12_backward_173 rfl rfl ?_
      refine k_st hK dX12_backward_174 rfl rfl rfl (Nat.le_of_ble_eq_true rfl) rfl ?_
      refine k_iinc hK 2 dX12_backward_175 (v := (x3 + 1)) rfl (Nat.le_of_ble_eq_true rfl) (congrArg (fun q => x3 + q) ci_1) rfl ?_
      refine k_goto hK dX12_backward_178 (tgt := 62) rfl ?_
      exact k_sub hK [2, 1, 0] rfl hF
    · have hF := hF.2 h5
      refine k_ic hK dX12_backward_167 ci_1 ?_
      refine k_goto hK dX12_backward_168 (tgt := 172) rfl ?_
      refine k_op hK dX12_backward_172 rfl rfl ?_
      refine k_op hK dX12_backward_173 rfl rfl ?_
      refine k_st hK dX12_backward_174 rfl rfl rfl (Nat.le_of_ble_eq_true rfl) rfl ?_
      refine k_iinc hK 2 dX12_backward_175 (v := (x3 + 1)) rfl (Nat.le_of_ble_eq_true rfl) (congrArg (fun q => x3 + q) ci_1) rfl ?_
      refine k_goto hK dX12_backward_178 (tgt := 62) rfl ?_
      exact k_sub hK [2, 1, 0] rfl hF
set_option maxHeartbeats 4000000 in
theorem g_X12_cost_0 {d : Nat} {K : KT} {Q : Int32 → HI → Prop} {I : HI} {J : HJ} {R : HR} {x1 : Int32} {x2 : Int32} (hK : am_R M_X12_cost (am_W d) none R (qC fi J R Q) K) (hs : Stat R)  (hF : ((¬ x1 = 0 → ((¬ x1 = 1 → Q (-1) (up I 80 0 0)) ∧ (x1 = 1 → Wp fb d M_X12_isOut [.ref 80, .int x2] (up I 80 0 0) J R (fun b3 => ((b3 = false → Q (-1) (up I 80 0 0)) ∧ (b3 = true → Wc fi d M_X12_backward [.ref 80, .int x2] (up I 80 0 0) J R (fun r5 I6 => Q r5 I6))))))) ∧ (x1 = 0 → Wp fb d M_X12_isInput [.ref 80, .int x2] (up I 80 0 0) J R (fun b7 => ((b7 = false → Q (-1) (up I 80 0 0)) ∧ (b7 = true → Wc fi d M_X12_forward [.ref 80, .int x2] (up I 80 0 0) J R (fun r9 I10 => Q r9 I10))))))) : K 0 [(0, .ref 80), (1, .int x1), (2, .int x2)] [] I J R := by
  refine k_ld hK 0 dX12_cost_0 rfl rfl rfl rfl ?_
  refine k_ic hK dX12_cost_1 ci_0 ?_
  refine k_pI hK dX12_cost_2 lf_X12_142 rfl rfl rfl (sc_80 hs) ?_
  refine k_ld hK 1 dX12_cost_5 rfl rfl rfl rfl ?_
  refine k_ne hK dX12_cost_6 (tgt := 27) rfl (fun h1 => ?_) (fun h1 => ?_)
  · have hF := hF.1 h1
    refine k_ld hK 1 dX12_cost_27 rfl rfl rfl rfl ?_
    refine k_ic hK dX12_cost_28 ci_1 ?_
    refine k_cne hK dX12_cost_29 (tgt := 48) rfl (fun h2 => ?_) (fun h2 => ?_)
    · have hF := hF.1 h2
      refine k_ic hK dX12_cost_48 ci_m1 ?_
      exact k_iret hK dX12_cost_49 rfl rfl (done_0 rfl rfl) (qC_i hF)
    · have hF := hF.2 h2
      refine k_ld hK 0 dX12_cost_32 rfl rfl rfl rfl ?_
      refine k_ld hK 2 dX12_cost_33 rfl rfl rfl rfl ?_
      refine k_cVp hK dX12_cost_34 (Or.inl lm_X12_420) (As := [.int x2]) (S := []) rfl (sc_80 hs) (Nat.le_of_ble_eq_true rfl) (fit_0 rfl rfl) rfl hF (fun b3 hF => ?_)
      show K _ _ [.int (b2i b3)] _ _ _
      refine k_beq hK dX12_cost_37 (tgt := 48) rfl (fun h4 => ?_) (fun h4 => ?_)
      · have hF := hF.1 h4
        refine k_ic hK dX12_cost_48 ci_m1 ?_
        exact k_iret hK dX12_cost_49 rfl rfl (done_0 rfl rfl) (qC_i hF)
      · have hF := hF.2 h4
        refine k_ld hK 0 dX12_cost_40 rfl rfl rfl rfl ?_
        refine k_ld hK 2 dX12_cost_41 rfl rfl rfl rfl ?_
        refine k_cVc hK dX12_cost_42 (Or.inl lm_X12_450) (As := [.int x2]) (S := []) rfl (sc_80 hs) (Nat.le_of_ble_eq_true rfl) (fit_0 rfl rfl) rfl hF (fun r5 I6 hF => ?_)
        show K _ _ [.int r5] _ _ _
        refine k_goto hK dX12_cost_45 (tgt := 49) rfl ?_
        exact k_iret hK dX12_cost_49 rfl rfl (done_0 rfl rfl) (qC_i hF)
  · have hF := hF.2 h1
    refine k_ld hK 0 dX12_cost_9 rfl rfl rfl rfl ?_
    refine k_ld hK 2 dX12_cost_10 rfl rfl rfl rfl ?_
    refine k_cVp hK dX12_cost_11 (Or.inl lm_X12_438) (As := [.int x2]) (S := []) rfl (sc_80 hs) (Nat.le_of_ble_eq_true rfl) (fit_0 rfl rfl) rfl hF (fun b7 hF => ?_)
    show K _ _ [.int (b2i b7)] _ _ _
    refine k_beq hK dX12_cost_14 (tgt := 25) rfl (fun h8 => ?_) (fun h8 => ?_)
    · have hF := hF.1 h8
      refine k_ic hK dX12_cost_25 ci_m1 ?_
      exact k_iret hK dX12_cost_26 rfl rfl (done_0 rfl rfl) (qC_i hF)
    · have hF := hF.2 h8
      refine k_ld hK 0 dX12_cost_17 rfl rfl rfl rfl ?_
      refine k_ld hK 2 dX12_cost_18 rfl rfl rfl rfl ?_
      refine k_cVc hK dX12_cost_19 (Or.inl lm_X12_447) (As := [.int x2]) (S := []) rfl (sc_80 hs) (Nat.le_of_ble_eq_true rfl) (fit_0 rfl rfl) rfl hF (fun r9 I10 hF => ?_)
      show K _ _ [.int r9] _ _ _
      refine k_goto hK dX12_cost_22 (tgt := 26) rfl ?_
      exact k_iret hK dX12_cost_26 rfl rfl (done_0 rfl rfl) (qC_i hF)
theorem e_X12_cost {d : Nat} {Q : Int32 → HI → Prop} {I : HI} {J : HJ} {R : HR} {x1 : Int32} {x2 : Int32} (hs : Stat R)  (hF : ((¬ x1 = 0 → ((¬ x1 = 1 → Q (-1) (up I 80 0 0)) ∧ (x1 = 1 → Wp fb d M_X12_isOut [.ref 80, .int x2] (up I 80 0 0) J R (fun b3 => ((b3 = false → Q (-1) (up I 80 0 0)) ∧ (b3 = true → Wc fi d M_X12_backward [.ref 80, .int x2] (up I 80 0 0) J R (fun r5 I6 => Q r5 I6))))))) ∧ (x1 = 0 → Wp fb d M_X12_isInput [.ref 80, .int x2] (up I 80 0 0) J R (fun b7 => ((b7 = false → Q (-1) (up I 80 0 0)) ∧ (b7 = true → Wc fi d M_X12_forward [.ref 80, .int x2] (up I 80 0 0) J R (fun r9 I10 => Q r9 I10))))))) : Wc fi (d + 1) M_X12_cost [.ref 80, .int x1, .int x2] I J R Q := ⟨Nat.le_of_ble_eq_true rfl, fun K hK => g_X12_cost_0 hK hs hF⟩
set_option maxHeartbeats 4000000 in
theorem g_X12_slopeOf_0 {d : Nat} {K : KT} {Q : Int64 → Prop} {I : HI} {J : HJ} {R : HR} {a2 : Nat} {x0 : Int32} {x1 : Int32} (hK : am_R M_X12_slopeOf (am_W d) none R (qP fl I J R Q) K) (hs : Stat R) (h_a2 : am_is R a2 14) (l_a2 : (am_T a2).2 = 400) (hF : ((¬ x0 = x1 → ((x0 < 0 → Q (0 : Int64)) ∧ (¬ x0 < 0 → ((1000 ≤ x0 → Q (0 : Int64)) ∧ (¬ 1000 ≤ x0 → (∃ n4 : Nat, x0 = nI n4 ∧ n4 < 400 ∧ Q (J a2 n4))))))) ∧ (x0 = x1 → Q (1 : Int64)))) : K 0 [(0, .int x0), (1, .int x1), (2, .ref a2)] [] I J R := by
  refine k_ld hK 0 dX12_slopeOf_0 rfl rfl rfl rfl ?_
  refine k_ld hK 1 dX12_slopeOf_1 rfl rfl rfl rfl ?_
  refine k_cne hK dX12_slopeOf_2 (tgt := 9) rfl (fun h1 => ?_) (fun h1 => ?_)
  · have hF := hF.1 h1
    refine k_ld hK 0 dX12_slopeOf_9 rfl rfl rfl rfl ?_
    refine k_lt hK dX12_slopeOf_10 (tgt := 26) rfl (fun h2 => ?_) (fun h2 => ?_)
    · have hF := hF.1 h2
      refine k_lc hK dX12_slopeOf_26 cl_0 ?_
      exact k_lret hK dX12_slopeOf_27 rfl (done_0 rfl rfl) (qP_i hF)
    · have hF := hF.2 h2
      refine k_ld hK 0 dX12_slopeOf_13 rfl rfl rfl rfl ?_
      refine k_si hK dX12_slopeOf_14 cs_1000 ?_
      refine k_cge hK dX12_slopeOf_17 (tgt := 26) rfl (fun h3 => ?_) (fun h3 => ?_)
      · have hF := hF.1 h3
        refine k_lc hK dX12_slopeOf_26 cl_0 ?_
        exact k_lret hK dX12_slopeOf_27 rfl (done_0 rfl rfl) (qP_i hF)
      · have hF := hF.2 h3
        refine k_ld hK 2 dX12_slopeOf_20 rfl rfl rfl rfl ?_
        refine k_ld hK 0 dX12_slopeOf_21 rfl rfl rfl rfl ?_
        obtain ⟨n4, i5, j6, hF⟩ := hF
        refine k_lald hK dX12_slopeOf_22 h_a2 l_a2 (by decide) i5 j6 rfl ?_
        refine k_goto hK dX12_slopeOf_23 (tgt := 27) rfl ?_
        exact k_lret hK dX12_slopeOf_27 rfl (done_0 rfl rfl) (qP_i hF)
  · have hF := hF.2 h1
    refine k_lc hK dX12_slopeOf_5 cl_1 ?_
    refine k_goto hK dX12_slopeOf_6 (tgt := 27) rfl ?_
    exact k_lret hK dX12_slopeOf_27 rfl (done_0 rfl rfl) (qP_i hF)
theorem e_X12_slopeOf {d : Nat} {Q : Int64 → Prop} {I : HI} {J : HJ} {R : HR} {a2 : Nat} {x0 : Int32} {x1 : Int32} (hs : Stat R) (h_a2 : am_is R a2 14) (l_a2 : (am_T a2).2 = 400) (hF : ((¬ x0 = x1 → ((x0 < 0 → Q (0 : Int64)) ∧ (¬ x0 < 0 → ((1000 ≤ x0 → Q (0 : Int64)) ∧ (¬ 1000 ≤ x0 → (∃ n4 : Nat, x0 = nI n4 ∧ n4 < 400 ∧ Q (J a2 n4))))))) ∧ (x0 = x1 → Q (1 : Int64)))) : Wp fl (d + 1) M_X12_slopeOf [.int x0, .int x1, .ref a2] I J R Q := ⟨Nat.le_of_ble_eq_true rfl, fun K hK => g_X12_slopeOf_0 hK hs h_a2 l_a2 hF⟩
set_option maxHeartbeats 4000000 in
theorem g_X12_lays_0 {d : Nat} {K : KT} {Q : Unit → HI → HJ → Prop} {I : HI} {J : HJ} {R : HR} {a2 : Nat} {x1 : Int32} (hK : am_R M_X12_lays (am_W d) none R (qD fv R Q) K) (hs : Stat R) (h_a2 : am_is R a2 14) (l_a2 : (am_T a2).2 = 400) (hF : K 2 [(0, .ref 80), (1, .int x1), (2, .ref a2), (3, .int 0)] [] I J R) : K 0 [(0, .ref 80), (1, .int x1), (2, .ref a2)] [] I J R := by
  refine k_ic hK dX12_lays_0 ci_0 ?_
  refine k_st hK dX12_lays_1 rfl rfl rfl (Nat.le_of_ble_eq_true rfl) rfl ?_
  exact k_sub hK [1, 2, 3, 0] rfl hF
set_option maxHeartbeats 4000000 in
theorem g_X12_lays_2 {d : Nat} {K : KT} {Q : Unit → HI → HJ → Prop} {I : HI} {J : HJ} {R : HR} {a2 : Nat} {x1 : Int32} {x3 : Int32} (hK : am_R M_X12_lays (am_W d) none R (qD fv R Q) K) (hs : Stat R) (h_a2 : am_is R a2 14) (l_a2 : (am_T a2).2 = 400) (hF : (((I 80 44) ≤ x3 → Q () I J) ∧ (¬ (I 80 44) ≤ x3 → (∃ n2 : Nat, x3 = nI n2 ∧ n2 < 400 ∧ Wp fl d M_X12_slopeOf [.int (I 96 n2), .int x1, .ref a2] I J R (fun r5 => Wp fl d M_X12_slopeOf [.int (I 97 n2), .int x1, .ref a2] I J R (fun r6 => ((¬ (I 92 n2) = 3 → ((¬ (I 92 n2) = 4 → ((¬ (I 92 n2) = 5 → Wp fl d M_X12_left [.long (r5 - (((J 93 n2) * r6) - ((J 93 n2) * r6) / (1000000007 : Int64) * (1000000007 : Int64)))] I J R (fun r10 => Wp fl d M_X12_parted [.long r10, .long (J 95 n2)] I J R (fun r11 => K 148 [(0, .ref 80), (1, .int x1), (2, .ref a2), (3, .int x3), (8, .long r11)] [] I J R))) ∧ ((I 92 n2) = 5 → K 148 [(0, .ref 80), (1, .int x1), (2, .ref a2), (3, .int x3), (8, .long (((r5 * (J 95 n2)) - (r5 * (J 95 n2)) / (1000000007 : Int64) * (1000000007 : Int64)) + ((r6 * (J 94 n2)) - (r6 * (J 94 n2)) / (1000000007 : Int64) * (1000000007 : Int64))))] [] I J R))) ∧ ((I 92 n2) = 4 → K 148 [(0, .ref 80), (1, .int x1), (2, .ref a2), (3, .int x3), (8, .long (r5 - r6))] [] I J R))) ∧ ((I 92 n2) = 3 → K 148 [(0, .ref 80), (1, .int x1), (2, .ref a2), (3, .int x3), (8, .long (r5 + r6))] [] I J R)))))))) : K 2 [(0, .ref 80), (1, .int x1), (2, .ref a2), (3, .int x3)] [] I J R := by
  refine k_ld hK 3 dX12_lays_2 rfl rfl rfl rfl ?_
  refine k_ld hK 0 dX12_lays_3 rfl rfl rfl rfl ?_
  refine k_gI hK dX12_lays_4 lf_X12_353 rfl (sc_80 hs) rfl ?_
  refine k_cge hK dX12_lays_7 (tgt := 171) rfl (fun h1 => ?_) (fun h1 => ?_)
  · have hF := hF.1 h1
    exact k_vret hK dX12_lays_171 rfl (done_0 rfl rfl) (qD_i hF)
  · have hF := hF.2 h1
    refine k_ld hK 0 dX12_lays_10 rfl rfl rfl rfl ?_
    refine k_gR hK dX12_lays_11 lf_X12_60 rfl (sc_80 hs) (sf_80_41 hs) ?_
    refine k_ld hK 3 dX12_lays_14 rfl rfl rfl rfl ?_
    obtain ⟨n2, i3, j4, hF⟩ := hF
    refine k_iald hK dX12_lays_15 (sc_96 hs) sn_96 (by decide) i3 j4 rfl ?_
    refine k_ld hK 1 dX12_lays_16 rfl rfl rfl rfl ?_
    refine k_ld hK 2 dX12_lays_17 rfl rfl rfl rfl ?_
    refine k_cSp hK dX12_lays_18 lm_X12_453 (As := [.int (I 96 n2), .int x1, .ref a2]) (S := []) rfl (Nat.le_of_ble_eq_true rfl) (fit_0 rfl rfl) rfl hF (fun r5 hF => ?_)
    show K _ _ [.long r5] _ _ _
    refine k_st hK dX12_lays_21 rfl rfl rfl (Nat.le_of_ble_eq_true rfl) rfl ?_
    refine k_ld hK 1 dX12_lays_23 rfl rfl rfl rfl ?_
    refine k_gR hK dX12_lays_24 lf_X12_63 rfl (sc_80 hs) (sf_80_42 hs) ?_
    refine k_ld hK 4 dX12_lays_27 rfl rfl rfl rfl ?_
    refine k_iald hK dX12_lays_28 (sc_97 hs) sn_97 (by decide) i3 j4 rfl ?_
    refine k_ld hK 2 dX12_lays_29 rfl rfl rfl rfl ?_
    refine k_ld hK 3 dX12_lays_30 rfl rfl rfl rfl ?_
    refine k_cSp hK dX12_lays_31 lm_X12_453 (As := [.int (I 97 n2), .int x1, .ref a2]) (S := []) rfl (Nat.le_of_ble_eq_true rfl) (fit_0 rfl rfl) rfl hF (fun r6 hF => ?_)
    show K _ _ [.long r6] _ _ _
    refine k_st hK dX12_lays_34 rfl rfl rfl (Nat.le_of_ble_eq_true rfl) rfl ?_
    refine k_ld hK 2 dX12_lays_36 rfl rfl rfl rfl ?_
    refine k_gR hK dX12_lays_37 lf_X12_48 rfl (sc_80 hs) (sf_80_37 hs) ?_
    refine k_ld hK 5 dX12_lays_40 rfl rfl rfl rfl ?_
    refine k_iald hK dX12_lays_41 (sc_92 hs) sn_92 (by decide) i3 j4 rfl ?_
    refine k_ic hK dX12_lays_42 ci_3 ?_
    refine k_cne hK dX12_lays_43 (tgt := 56) rfl (fun h7 => ?_) (fun h7 => ?_)
    · have hF := hF.1 h7
      refine k_ld hK 2 dX12_lays_56 rfl rfl rfl rfl ?_
      refine k_gR hK dX12_lays_57 lf_X12_48 rfl (sc_80 hs) (sf_80_37 hs) ?_
      refine k_ld hK 5 dX12_lays_60 rfl rfl rfl rfl ?_
      refine k_iald hK dX12_lays_61 (sc_92 hs) sn_92 (by decide) i3 j4 rfl ?_
      refine k_ic hK dX12_lays_62 ci_4 ?_
      refine k_cne hK dX12_lays_63 (tgt := 76) rfl (fun h8 => ?_) (fun h8 => ?_)
      · have hF := hF.1 h8
        refine k_ld hK 2 dX12_lays_76 rfl rfl rfl rfl ?_
        refine k_gR hK dX12_lays_77 lf_X12_48 rfl (sc_80 hs) (sf_80_37 hs) ?_
        refine k_ld hK 5 dX12_lays_80 rfl rfl rfl rfl ?_
        refine k_iald hK dX12_lays_81 (sc_92 hs) sn_92 (by decide) i3 j4 rfl ?_
        refine k_ic hK dX12_lays_82 ci_5 ?_
        refine k_cne hK dX12_lays_83 (tgt := 118) rfl (fun h9 => ?_) (fun h9 => ?_)
        · have hF := hF.1 h9
          refine k_ld hK 1 dX12_lays_118 rfl rfl rfl rfl ?_
          refine k_ld hK 2 dX12_lays_120 rfl rfl rfl rfl ?_
          refine k_gR hK dX12_lays_121 lf_X12_51 rfl (sc_80 hs) (sf_80_38 hs) ?_
          refine k_ld hK 5 dX12_lays_124 rfl rfl rfl rfl ?_
          refine k_lald hK dX12_lays_125 (sc_93 hs) sn_93 (by decide) i3 j4 rfl ?_
          refine k_ld hK 0 dX12_lays_126 rfl rfl rfl rfl ?_
          refine k_op hK dX12_lays_128 rfl rfl ?_
          refine k_ldc2 hK dX12_lays_129 lc_X12_338 ?_
          refine k_lrem hK dX12_lays_132 (by decide) ?_
          refine k_op hK dX12_lays_133 rfl rfl ?_
          refine k_cSp hK dX12_lays_134 lm_X12_408 (As := [.long (r5 - (((J 93 n2) * r6) - ((J 93 n2) * r6) / (1000000007 : Int64) * (1000000007 : Int64)))]) (S := []) rfl (Nat.le_of_ble_eq_true rfl) (fit_0 rfl rfl) rfl hF (fun r10 hF => ?_)
          show K _ _ [.long r10] _ _ _
          refine k_ld hK 2 dX12_lays_137 rfl rfl rfl rfl ?_
          refine k_gR hK dX12_lays_138 lf_X12_57 rfl (sc_80 hs) (sf_80_40 hs) ?_
          refine k_ld hK 5 dX12_lays_141 rfl rfl rfl rfl ?_
          refine k_lald hK dX12_lays_142 (sc_95 hs) sn_95 (by decide) i3 j4 rfl ?_
          refine k_cSp hK dX12_lays_143 lm_X12_411 (As := [.long r10, .long (J 95 n2)]) (S := []) rfl (Nat.le_of_ble_eq_true rfl) (fit_0 rfl rfl) rfl hF (fun r11 hF => ?_)
          show K _ _ [.long r11] _ _ _
          refine k_st hK dX12_lays_146 rfl rfl rfl (Nat.le_of_ble_eq_true rfl) rfl ?_
          exact k_sub hK [3, 4, 5, 6, 0] rfl hF
        · have hF := hF.2 h9
          refine k_ld hK 1 dX12_lays_86 rfl rfl rfl rfl ?_
          refine k_ld hK 2 dX12_lays_88 rfl rfl rfl rfl ?_
          refine k_gR hK dX12_lays_89 lf_X12_57 rfl (sc_80 hs) (sf_80_40 hs) ?_
          refine k_ld hK 5 dX12_lays_92 rfl rfl rfl rfl ?_
          refine k_lald hK dX12_lays_93 (sc_95 hs) sn_95 (by decide) i3 j4 rfl ?_
          refine k_op hK dX12_lays_94 rfl rfl ?_
          refine k_ldc2 hK dX12_lays_95 lc_X12_338 ?_
          refine k_lrem hK dX12_lays_98 (by decide) ?_
          refine k_ld hK 0 dX12_lays_99 rfl rfl rfl rfl ?_
          refine k_ld hK 2 dX12_lays_101 rfl rfl rfl rfl ?_
          refine k_gR hK dX12_lays_102 lf_X12_54 rfl (sc_80 hs) (sf_80_39 hs) ?_
          refine k_ld hK 5 dX12_lays_105 rfl rfl rfl rfl ?_
          refine k_lald hK dX12_lays_106 (sc_94 hs) sn_94 (by decide) i3 j4 rfl ?_
          refine k_op hK dX12_lays_107 rfl rfl ?_
          refine k_ldc2 hK dX12_lays_108 lc_X12_338 ?_
          refine k_lrem hK dX12_lays_111 (by decide) ?_
          refine k_op hK dX12_lays_112 rfl rfl ?_
          refine k_st hK dX12_lays_113 rfl rfl rfl (Nat.le_of_ble_eq_true rfl) rfl ?_
          refine k_goto hK dX12_lays_115 (tgt := 148) rfl ?_
          exact k_sub hK [3, 4, 5, 6, 0] rfl hF
      · have hF := hF.2 h8
        refine k_ld hK 1 dX12_lays_66 rfl rfl rfl rfl ?_
        refine k_ld hK 0 dX12_lays_68 rfl rfl rfl rfl ?_
        refine k_op hK dX12_lays_70 rfl rfl ?_
        refine k_st hK dX12_lays_71 rfl rfl rfl (Nat.le_of_ble_eq_true rfl) rfl ?_
        refine k_goto hK dX12_lays_73 (tgt := 148) rfl ?_
        exact k_sub hK [3, 4, 5, 6, 0] rfl hF
    · have hF := hF.2 h7
      refine k_ld hK 1 dX12_lays_46 rfl rfl rfl rfl ?_
      refine k_ld hK 0 dX12_lays_48 rfl rfl rfl rfl ?_
      refine k_op hK dX12_lays_50 rfl rfl ?_
      refine k_st hK dX12_lays_51 rfl rfl rfl (Nat.le_of_ble_eq_true rfl) rfl ?_
      refine k_goto hK dX12_lays_53 (tgt := 148) rfl ?_
      exact k_sub hK [3, 4, 5, 6, 0] rfl hF
set_option maxHeartbeats 4000000 in
theorem g_X12_lays_148 {d : Nat} {K : KT} {Q : Unit → HI → HJ → Prop} {I : HI} {J : HJ} {R : HR} {a2 : Nat} {x1 : Int32} {x3 : Int32} {z8 : Int64} (hK : am_R M_X12_lays (am_W d) none R (qD fv R Q) K) (hs : Stat R) (h_a2 : am_is R a2 14) (l_a2 : (am_T a2).2 = 400) (hF : ((¬ x3 = x1 → Wp fl d M_X12_left [.long z8] I J R (fun r2 => (∃ n3 : Nat, x3 = nI n3 ∧ n3 < 400 ∧ K 2 [(0, .ref 80), (1, .int x1), (2, .ref a2), (3, .int (x3 + 1))] [] I (up J a2 n3 r2) R))) ∧ (x3 = x1 → (∃ n6 : Nat, x3 = nI n6 ∧ n6 < 400 ∧ K 2 [(0, .ref 80), (1, .int x1), (2, .ref a2), (3, .int (x3 + 1))] [] I (up J a2 n6 (1 : Int64)) R)))) : K 148 [(0, .ref 80), (1, .int x1), (2, .ref a2), (3, .int x3), (8, .long z8)] [] I J R := by
  refine k_ld hK 2 dX12_lays_148 rfl rfl rfl rfl ?_
  refine k_ld hK 3 dX12_lays_149 rfl rfl rfl rfl ?_
  refine k_ld hK 3 dX12_lays_150 rfl rfl rfl rfl ?_
  refine k_ld hK 1 dX12_lays_151 rfl rfl rfl rfl ?_
  refine k_cne hK dX12_lays_152 (tgt := 159) rfl (fun h1 => ?_) (fun h1 => ?_)
  · have hF := hF.1 h1
    refine k_ld hK 4 dX12_lays_159 rfl rfl rfl rfl ?_
    refine k_cSp hK dX12_lays_161 lm_X12_408 (As := [.long z8]) (S := [.int x3, .ref a2]) rfl (Nat.le_of_ble_eq_true rfl) (fit_0 rfl rfl) rfl hF (fun r2 hF => ?_)
    show K _ _ [.long r2, .int x3, .ref a2] _ _ _
    obtain ⟨n3, i4, j5, hF⟩ := hF
    refine k_last hK dX12_lays_164 h_a2 l_a2 (by decide) i4 j5 ?_
    refine k_iinc hK 3 dX12_lays_165 (v := (x3 + 1)) rfl (Nat.le_of_ble_eq_true rfl) (congrArg (fun q => x3 + q) ci_1) rfl ?_
    refine k_goto hK dX12_lays_168 (tgt := 2) rfl ?_
    exact k_sub hK [1, 2, 3, 0] rfl hF
  · have hF := hF.2 h1
    refine k_lc hK dX12_lays_155 cl_1 ?_
    refine k_goto hK dX12_lays_156 (tgt := 164) rfl ?_
    obtain ⟨n6, i7, j8, hF⟩ := hF
    refine k_last hK dX12_lays_164 h_a2 l_a2 (by decide) i7 j8 ?_
    refine k_iinc hK 3 dX12_lays_165 (v := (x3 + 1)) rfl (Nat.le_of_ble_eq_true rfl) (congrArg (fun q => x3 + q) ci_1) rfl ?_
    refine k_goto hK dX12_lays_168 (tgt := 2) rfl ?_
    exact k_sub hK [1, 2, 3, 0] rfl hF
set_option maxHeartbeats 4000000 in
theorem g_X12_slope_0 {d : Nat} {K : KT} {Q : Int32 → HI → HJ → Prop} {I : HI} {J : HJ} {R : HR} {x1 : Int32} {x2 : Int32} (hK : am_R M_X12_slope (am_W d) none R (qD fi R Q) K) (hs : Stat R)  (hF : Wp fb d M_X12_isOut [.ref 80, .int x1] (up I 80 0 0) J R (fun b1 => ((b1 = false → Q (-1) (up I 80 0 0) J) ∧ (b1 = true → Wp fb d M_X12_isInput [.ref 80, .int x2] (up I 80 0 0) J R (fun b3 => ((b3 = false → Q (-1) (up I 80 0 0) J) ∧ (b3 = true → Wd fl d M_X12_riseOf [.ref 80, .int x1, .int x2] (up I 80 0 0) J R (fun r5 I6 J7 => Q (Int64.toInt32 r5) I6 J7)))))))) : K 0 [(0, .ref 80), (1, .int x1), (2, .int x2)] [] I J R := by
  refine k_ld hK 0 dX12_slope_0 rfl rfl rfl rfl ?_
  refine k_ic hK dX12_slope_1 ci_0 ?_
  refine k_pI hK dX12_slope_2 lf_X12_142 rfl rfl rfl (sc_80 hs) ?_
  refine k_ld hK 0 dX12_slope_5 rfl rfl rfl rfl ?_
  refine k_ld hK 1 dX12_slope_6 rfl rfl rfl rfl ?_
  refine k_cVp hK dX12_slope_7 (Or.inl lm_X12_420) (As := [.int x1]) (S := []) rfl (sc_80 hs) (Nat.le_of_ble_eq_true rfl) (fit_0 rfl rfl) rfl hF (fun b1 hF => ?_)
  show K _ _ [.int (b2i b1)] _ _ _
  refine k_beq hK dX12_slope_10 (tgt := 31) rfl (fun h2 => ?_) (fun h2 => ?_)
  · have hF := hF.1 h2
    refine k_ic hK dX12_slope_31 ci_m1 ?_
    exact k_iret hK dX12_slope_32 rfl rfl (done_0 rfl rfl) (qD_i hF)
  · have hF := hF.2 h2
    refine k_ld hK 0 dX12_slope_13 rfl rfl rfl rfl ?_
    refine k_ld hK 2 dX12_slope_14 rfl rfl rfl rfl ?_
    refine k_cVp hK dX12_slope_15 (Or.inl lm_X12_438) (As := [.int x2]) (S := []) rfl (sc_80 hs) (Nat.le_of_ble_eq_true rfl) (fit_0 rfl rfl) rfl hF (fun b3 hF => ?_)
    show K _ _ [.int (b2i b3)] _ _ _
    refine k_beq hK dX12_slope_18 (tgt := 31) rfl (fun h4 => ?_) (fun h4 => ?_)
    · have hF := hF.1 h4
      refine k_ic hK dX12_slope_31 ci_m1 ?_
      exact k_iret hK dX12_slope_32 rfl rfl (done_0 rfl rfl) (qD_i hF)
    · have hF := hF.2 h4
      refine k_ld hK 0 dX12_slope_21 rfl rfl rfl rfl ?_
      refine k_ld hK 1 dX12_slope_22 rfl rfl rfl rfl ?_
      refine k_ld hK 2 dX12_slope_23 rfl rfl rfl rfl ?_
      refine k_cVd hK dX12_slope_24 (Or.inl lm_X12_457) (As := [.int x1, .int x2]) (S := []) rfl (sc_80 hs) (Nat.le_of_ble_eq_true rfl) (fit_0 rfl rfl) rfl hF (fun r5 I6 J7 hF => ?_)
      show K _ _ [.long r5] _ _ _
      refine k_op hK dX12_slope_27 rfl rfl ?_
      refine k_goto hK dX12_slope_28 (tgt := 32) rfl ?_
      exact k_iret hK dX12_slope_32 rfl rfl (done_0 rfl rfl) (qD_i hF)
theorem e_X12_slope {d : Nat} {Q : Int32 → HI → HJ → Prop} {I : HI} {J : HJ} {R : HR} {x1 : Int32} {x2 : Int32} (hs : Stat R)  (hF : Wp fb d M_X12_isOut [.ref 80, .int x1] (up I 80 0 0) J R (fun b1 => ((b1 = false → Q (-1) (up I 80 0 0) J) ∧ (b1 = true → Wp fb d M_X12_isInput [.ref 80, .int x2] (up I 80 0 0) J R (fun b3 => ((b3 = false → Q (-1) (up I 80 0 0) J) ∧ (b3 = true → Wd fl d M_X12_riseOf [.ref 80, .int x1, .int x2] (up I 80 0 0) J R (fun r5 I6 J7 => Q (Int64.toInt32 r5) I6 J7)))))))) : Wd fi (d + 1) M_X12_slope [.ref 80, .int x1, .int x2] I J R Q := ⟨Nat.le_of_ble_eq_true rfl, fun K hK => g_X12_slope_0 hK hs hF⟩
set_option maxHeartbeats 4000000 in
theorem g_X12_riseOf_0 {d : Nat} {K : KT} {Q : Int64 → HI → HJ → Prop} {I : HI} {J : HJ} {R : HR} {x1 : Int32} {x2 : Int32} (hK : am_R M_X12_riseOf (am_W d) none R (qD fl R Q) K) (hs : Stat R)  (hF : Wd fv d M_X12_lays [.ref 80, .int (1000 + x2), .ref 112] I J R (fun u1 I2 J3 => (∃ n4 : Nat, x1 = nI n4 ∧ n4 < 20 ∧ Wp fl d M_X12_slopeOf [.int (I2 106 n4), .int (1000 + x2), .ref 112] I2 J3 R (fun r7 => Q r7 I2 J3)))) : K 0 [(0, .ref 80), (1, .int x1), (2, .int x2)] [] I J R := by
  refine k_ld hK 0 dX12_riseOf_0 rfl rfl rfl rfl ?_
  refine k_si hK dX12_riseOf_1 cs_1000 ?_
  refine k_ld hK 2 dX12_riseOf_4 rfl rfl rfl rfl ?_
  refine k_op hK dX12_riseOf_5 rfl rfl ?_
  refine k_ld hK 0 dX12_riseOf_6 rfl rfl rfl rfl ?_
  refine k_gR hK dX12_riseOf_7 lf_X12_109 rfl (sc_80 hs) (sf_80_65 hs) ?_
  refine k_cVd hK dX12_riseOf_10 (Or.inl lm_X12_461) (As := [.int (1000 + x2), .ref 112]) (S := []) rfl (sc_80 hs) (Nat.le_of_ble_eq_true rfl) (fit_0 rfl rfl) rfl hF (fun u1 I2 J3 hF => ?_)
  show K _ _ [] _ _ _
  refine k_ld hK 0 dX12_riseOf_13 rfl rfl rfl rfl ?_
  refine k_gR hK dX12_riseOf_14 lf_X12_90 rfl (sc_80 hs) (sf_80_53 hs) ?_
  refine k_ld hK 1 dX12_riseOf_17 rfl rfl rfl rfl ?_
  obtain ⟨n4, i5, j6, hF⟩ := hF
  refine k_iald hK dX12_riseOf_18 (sc_106 hs) sn_106 (by decide) i5 j6 rfl ?_
  refine k_si hK dX12_riseOf_19 cs_1000 ?_
  refine k_ld hK 2 dX12_riseOf_22 rfl rfl rfl rfl ?_
  refine k_op hK dX12_riseOf_23 rfl rfl ?_
  refine k_ld hK 0 dX12_riseOf_24 rfl rfl rfl rfl ?_
  refine k_gR hK dX12_riseOf_25 lf_X12_109 rfl (sc_80 hs) (sf_80_65 hs) ?_
  refine k_cSp hK dX12_riseOf_28 lm_X12_453 (As := [.int (I2 106 n4), .int (1000 + x2), .ref 112]) (S := []) rfl (Nat.le_of_ble_eq_true rfl) (fit_0 rfl rfl) rfl hF (fun r7 hF => ?_)
  show K _ _ [.long r7] _ _ _
  exact k_lret hK dX12_riseOf_31 rfl (done_0 rfl rfl) (qD_i hF)
theorem e_X12_riseOf {d : Nat} {Q : Int64 → HI → HJ → Prop} {I : HI} {J : HJ} {R : HR} {x1 : Int32} {x2 : Int32} (hs : Stat R)  (hF : Wd fv d M_X12_lays [.ref 80, .int (1000 + x2), .ref 112] I J R (fun u1 I2 J3 => (∃ n4 : Nat, x1 = nI n4 ∧ n4 < 20 ∧ Wp fl d M_X12_slopeOf [.int (I2 106 n4), .int (1000 + x2), .ref 112] I2 J3 R (fun r7 => Q r7 I2 J3)))) : Wd fl (d + 1) M_X12_riseOf [.ref 80, .int x1, .int x2] I J R Q := ⟨Nat.le_of_ble_eq_true rfl, fun K hK => g_X12_riseOf_0 hK hs hF⟩
set_option maxHeartbeats 4000000 in
theorem g_X12_bar_0 {d : Nat} {K : KT} {Q : Int32 → HI → HJ → Prop} {I : HI} {J : HJ} {R : HR} {x1 : Int32} {x2 : Int32} (hK : am_R M_X12_bar (am_W d) none R (qD fi R Q) K) (hs : Stat R)  (hF : Wp fb d M_X12_isOut [.ref 80, .int x1] (up I 80 0 0) J R (fun b1 => ((b1 = false → Q (-1) (up I 80 0 0) J) ∧ (b1 = true → Wp fb d M_X12_isEntry [.ref 80, .int x2] (up I 80 0 0) J R (fun b3 => ((b3 = true → Wd fv d M_X12_lays [.ref 80, .int x2, .ref 112] (up I 80 0 0) J R (fun u5 I6 J7 => (∃ n8 : Nat, x1 = nI n8 ∧ n8 < 20 ∧ Wp fl d M_X12_slopeOf [.int (I6 106 n8), .int x2, .ref 112] I6 J7 R (fun r11 => Q (Int64.toInt32 r11) I6 J7)))) ∧ (b3 = false → Q (-1) (up I 80 0 0) J))))))) : K 0 [(0, .ref 80), (1, .int x1), (2, .int x2)] [] I J R := by
  refine k_ld hK 0 dX12_bar_0 rfl rfl rfl rfl ?_
  refine k_ic hK dX12_bar_1 ci_0 ?_
  refine k_pI hK dX12_bar_2 lf_X12_142 rfl rfl rfl (sc_80 hs) ?_
  refine k_ld hK 0 dX12_bar_5 rfl rfl rfl rfl ?_
  refine k_ld hK 1 dX12_bar_6 rfl rfl rfl rfl ?_
  refine k_cVp hK dX12_bar_7 (Or.inl lm_X12_420) (As := [.int x1]) (S := []) rfl (sc_80 hs) (Nat.le_of_ble_eq_true rfl) (fit_0 rfl rfl) rfl hF (fun b1 hF => ?_)
  show K _ _ [.int (b2i b1)] _ _ _
  refine k_beq hK dX12_bar_10 (tgt := 21) rfl (fun h2 => ?_) (fun h2 => ?_)
  · have hF := hF.1 h2
    refine k_ic hK dX12_bar_21 ci_m1 ?_
    exact k_iret hK dX12_bar_22 rfl rfl (done_0 rfl rfl) (qD_i hF)
  · have hF := hF.2 h2
    refine k_ld hK 0 dX12_bar_13 rfl rfl rfl rfl ?_
    refine k_ld hK 2 dX12_bar_14 rfl rfl rfl rfl ?_
    refine k_cVp hK dX12_bar_15 (Or.inl lm_X12_429) (As := [.int x2]) (S := []) rfl (sc_80 hs) (Nat.le_of_ble_eq_true rfl) (fit_0 rfl rfl) rfl hF (fun b3 hF => ?_)
    show K _ _ [.int (b2i b3)] _ _ _
    refine k_bne hK dX12_bar_18 (tgt := 23) rfl (fun h4 => ?_) (fun h4 => ?_)
    · have hF := hF.1 h4
      refine k_ld hK 0 dX12_bar_23 rfl rfl rfl rfl ?_
      refine k_ld hK 2 dX12_bar_24 rfl rfl rfl rfl ?_
      refine k_ld hK 0 dX12_bar_25 rfl rfl rfl rfl ?_
      refine k_gR hK dX12_bar_26 lf_X12_109 rfl (sc_80 hs) (sf_80_65 hs) ?_
      refine k_cVd hK dX12_bar_29 (Or.inl lm_X12_461) (As := [.int x2, .ref 112]) (S := []) rfl (sc_80 hs) (Nat.le_of_ble_eq_true rfl) (fit_0 rfl rfl) rfl hF (fun u5 I6 J7 hF => ?_)
      show K _ _ [] _ _ _
      refine k_ld hK 0 dX12_bar_32 rfl rfl rfl rfl ?_
      refine k_gR hK dX12_bar_33 lf_X12_90 rfl (sc_80 hs) (sf_80_53 hs) ?_
      refine k_ld hK 1 dX12_bar_36 rfl rfl rfl rfl ?_
      obtain ⟨n8, i9, j10, hF⟩ := hF
      refine k_iald hK dX12_bar_37 (sc_106 hs) sn_106 (by decide) i9 j10 rfl ?_
      refine k_ld hK 2 dX12_bar_38 rfl rfl rfl rfl ?_
      refine k_ld hK 0 dX12_bar_39 rfl rfl rfl rfl ?_
      refine k_gR hK dX12_bar_40 lf_X12_109 rfl (sc_80 hs) (sf_80_65 hs) ?_
      refine k_cSp hK dX12_bar_43 lm_X12_453 (As := [.int (I6 106 n8), .int x2, .ref 112]) (S := []) rfl (Nat.le_of_ble_eq_true rfl) (fit_0 rfl rfl) rfl hF (fun r11 hF => ?_)
      show K _ _ [.long r11] _ _ _
      refine k_op hK dX12_bar_46 rfl rfl ?_
      exact k_iret hK dX12_bar_47 rfl rfl (done_0 rfl rfl) (qD_i hF)
    · have hF := hF.2 h4
      refine k_ic hK dX12_bar_21 ci_m1 ?_
      exact k_iret hK dX12_bar_22 rfl rfl (done_0 rfl rfl) (qD_i hF)
theorem e_X12_bar {d : Nat} {Q : Int32 → HI → HJ → Prop} {I : HI} {J : HJ} {R : HR} {x1 : Int32} {x2 : Int32} (hs : Stat R)  (hF : Wp fb d M_X12_isOut [.ref 80, .int x1] (up I 80 0 0) J R (fun b1 => ((b1 = false → Q (-1) (up I 80 0 0) J) ∧ (b1 = true → Wp fb d M_X12_isEntry [.ref 80, .int x2] (up I 80 0 0) J R (fun b3 => ((b3 = true → Wd fv d M_X12_lays [.ref 80, .int x2, .ref 112] (up I 80 0 0) J R (fun u5 I6 J7 => (∃ n8 : Nat, x1 = nI n8 ∧ n8 < 20 ∧ Wp fl d M_X12_slopeOf [.int (I6 106 n8), .int x2, .ref 112] I6 J7 R (fun r11 => Q (Int64.toInt32 r11) I6 J7)))) ∧ (b3 = false → Q (-1) (up I 80 0 0) J))))))) : Wd fi (d + 1) M_X12_bar [.ref 80, .int x1, .int x2] I J R Q := ⟨Nat.le_of_ble_eq_true rfl, fun K hK => g_X12_bar_0 hK hs hF⟩
set_option maxHeartbeats 4000000 in
theorem g_X12_secondOf_0 {d : Nat} {K : KT} {Q : Int64 → Prop} {I : HI} {J : HJ} {R : HR} {a1 : Nat} {x0 : Int32} (hK : am_R M_X12_secondOf (am_W d) none R (qP fl I J R Q) K) (hs : Stat R) (h_a1 : am_is R a1 14) (l_a1 : (am_T a1).2 = 400) (hF : ((x0 < 0 → Q (0 : Int64)) ∧ (¬ x0 < 0 → ((1000 ≤ x0 → Q (0 : Int64)) ∧ (¬ 1000 ≤ x0 → (∃ n3 : Nat, x0 = nI n3 ∧ n3 < 400 ∧ Q (J a1 n3))))))) : K 0 [(0, .int x0), (1, .ref a1)] [] I J R := by
  refine k_ld hK 0 dX12_secondOf_0 rfl rfl rfl rfl ?_
  refine k_lt hK dX12_secondOf_1 (tgt := 17) rfl (fun h1 => ?_) (fun h1 => ?_)
  · have hF := hF.1 h1
    refine k_lc hK dX12_secondOf_17 cl_0 ?_
    exact k_lret hK dX12_secondOf_18 rfl (done_0 rfl rfl) (qP_i hF)
  · have hF := hF.2 h1
    refine k_ld hK 0 dX12_secondOf_4 rfl rfl rfl rfl ?_
    refine k_si hK dX12_secondOf_5 cs_1000 ?_
    refine k_cge hK dX12_secondOf_8 (tgt := 17) rfl (fun h2 => ?_) (fun h2 => ?_)
    · have hF := hF.1 h2
      refine k_lc hK dX12_secondOf_17 cl_0 ?_
      exact k_lret hK dX12_secondOf_18 rfl (done_0 rfl rfl) (qP_i hF)
    · have hF := hF.2 h2
      refine k_ld hK 1 dX12_secondOf_11 rfl rfl rfl rfl ?_
      refine k_ld hK 0 dX12_secondOf_12 rfl rfl rfl rfl ?_
      obtain ⟨n3, i4, j5, hF⟩ := hF
      refine k_lald hK dX12_secondOf_13 h_a1 l_a1 (by decide) i4 j5 rfl ?_
      refine k_goto hK dX12_secondOf_14 (tgt := 18) rfl ?_
      exact k_lret hK dX12_secondOf_18 rfl (done_0 rfl rfl) (qP_i hF)
theorem e_X12_secondOf {d : Nat} {Q : Int64 → Prop} {I : HI} {J : HJ} {R : HR} {a1 : Nat} {x0 : Int32} (hs : Stat R) (h_a1 : am_is R a1 14) (l_a1 : (am_T a1).2 = 400) (hF : ((x0 < 0 → Q (0 : Int64)) ∧ (¬ x0 < 0 → ((1000 ≤ x0 → Q (0 : Int64)) ∧ (¬ 1000 ≤ x0 → (∃ n3 : Nat, x0 = nI n3 ∧ n3 < 400 ∧ Q (J a1 n3))))))) : Wp fl (d + 1) M_X12_secondOf [.int x0, .ref a1] I J R Q := ⟨Nat.le_of_ble_eq_true rfl, fun K hK => g_X12_secondOf_0 hK hs h_a1 l_a1 hF⟩
set_option maxHeartbeats 4000000 in
theorem g_X12_secondBy_0 {d : Nat} {K : KT} {Q : Int64 → HI → HJ → Prop} {I : HI} {J : HJ} {R : HR} {x1 : Int32} {x2 : Int32} {x3 : Int32} (hK : am_R M_X12_secondBy (am_W d) none R (qD fl R Q) K) (hs : Stat R)  (hF : Wd fv d M_X12_lays [.ref 80, .int (1000 + x2), .ref 112] I J R (fun u1 I2 J3 => Wd fv d M_X12_lays [.ref 80, .int (1000 + x3), .ref 113] I2 J3 R (fun u4 I5 J6 => K 29 [(0, .ref 80), (1, .int x1), (2, .int x2), (3, .int x3), (4, .int 0)] [] I5 J6 R))) : K 0 [(0, .ref 80), (1, .int x1), (2, .int x2), (3, .int x3)] [] I J R := by
  refine k_ld hK 0 dX12_secondBy_0 rfl rfl rfl rfl ?_
  refine k_si hK dX12_secondBy_1 cs_1000 ?_
  refine k_ld hK 2 dX12_secondBy_4 rfl rfl rfl rfl ?_
  refine k_op hK dX12_secondBy_5 rfl rfl ?_
  refine k_ld hK 0 dX12_secondBy_6 rfl rfl rfl rfl ?_
  refine k_gR hK dX12_secondBy_7 lf_X12_109 rfl (sc_80 hs) (sf_80_65 hs) ?_
  refine k_cVd hK dX12_secondBy_10 (Or.inl lm_X12_461) (As := [.int (1000 + x2), .ref 112]) (S := []) rfl (sc_80 hs) (Nat.le_of_ble_eq_true rfl) (fit_0 rfl rfl) rfl hF (fun u1 I2 J3 hF => ?_)
  show K _ _ [] _ _ _
  refine k_ld hK 0 dX12_secondBy_13 rfl rfl rfl rfl ?_
  refine k_si hK dX12_secondBy_14 cs_1000 ?_
  refine k_ld hK 3 dX12_secondBy_17 rfl rfl rfl rfl ?_
  refine k_op hK dX12_secondBy_18 rfl rfl ?_
  refine k_ld hK 0 dX12_secondBy_19 rfl rfl rfl rfl ?_
  refine k_gR hK dX12_secondBy_20 lf_X12_112 rfl (sc_80 hs) (sf_80_66 hs) ?_
  refine k_cVd hK dX12_secondBy_23 (Or.inl lm_X12_461) (As := [.int (1000 + x3), .ref 113]) (S := []) rfl (sc_80 hs) (Nat.le_of_ble_eq_true rfl) (fit_0 rfl rfl) rfl hF (fun u4 I5 J6 hF => ?_)
  show K _ _ [] _ _ _
  refine k_ic hK dX12_secondBy_26 ci_0 ?_
  refine k_st hK dX12_secondBy_27 rfl rfl rfl (Nat.le_of_ble_eq_true rfl) rfl ?_
  exact k_sub hK [1, 2, 3, 4, 0] rfl hF
set_option maxHeartbeats 4000000 in
theorem g_X12_secondBy_29 {d : Nat} {K : KT} {Q : Int64 → HI → HJ → Prop} {I : HI} {J : HJ} {R : HR} {x1 : Int32} {x2 : Int32} {x3 : Int32} {x4 : Int32} (hK : am_R M_X12_secondBy (am_W d) none R (qD fl R Q) K) (hs : Stat R)  (hF : (((I 80 44) ≤ x4 → (∃ n2 : Nat, x1 = nI n2 ∧ n2 < 20 ∧ Wp fl d M_X12_secondOf [.int (I 106 n2), .ref 114] I J R (fun r5 => Q r5 I J))) ∧ (¬ (I 80 44) ≤ x4 → (∃ n6 : Nat, x4 = nI n6 ∧ n6 < 400 ∧ Wp fl d M_X12_secondOf [.int (I 96 n6), .ref 114] I J R (fun r9 => Wp fl d M_X12_secondOf [.int (I 97 n6), .ref 114] I J R (fun r10 => Wp fl d M_X12_slopeOf [.int (I 96 n6), .int (1000 + x2), .ref 112] I J R (fun r11 => Wp fl d M_X12_slopeOf [.int (I 97 n6), .int (1000 + x2), .ref 112] I J R (fun r12 => Wp fl d M_X12_slopeOf [.int (I 96 n6), .int (1000 + x3), .ref 113] I J R (fun r13 => Wp fl d M_X12_slopeOf [.int (I 97 n6), .int (1000 + x3), .ref 113] I J R (fun r14 => ((¬ (I 92 n6) = 3 → ((¬ (I 92 n6) = 4 → ((¬ (I 92 n6) = 5 → Wp fl d M_X12_left [.long (((r9 - (((J 112 n6) * r14) - ((J 112 n6) * r14) / (1000000007 : Int64) * (1000000007 : Int64))) - (((J 113 n6) * r12) - ((J 113 n6) * r12) / (1000000007 : Int64) * (1000000007 : Int64))) - (((J 93 n6) * r10) - ((J 93 n6) * r10) / (1000000007 : Int64) * (1000000007 : Int64)))] I J R (fun r18 => Wp fl d M_X12_parted [.long r18, .long (J 95 n6)] I J R (fun r19 => K 323 [(0, .ref 80), (1, .int x1), (2, .int x2), (3, .int x3), (4, .int x4), (17, .long r19)] [] I J R))) ∧ ((I 92 n6) = 5 → K 323 [(0, .ref 80), (1, .int x1), (2, .int x2), (3, .int x3), (4, .int x4), (17, .long (((((r9 * (J 95 n6)) - (r9 * (J 95 n6)) / (1000000007 : Int64) * (1000000007 : Int64)) + ((r11 * r14) - (r11 * r14) / (1000000007 : Int64) * (1000000007 : Int64))) + ((r13 * r12) - (r13 * r12) / (1000000007 : Int64) * (1000000007 : Int64))) + ((r10 * (J 94 n6)) - (r10 * (J 94 n6)) / (1000000007 : Int64) * (1000000007 : Int64))))] [] I J R))) ∧ ((I 92 n6) = 4 → K 323 [(0, .ref 80), (1, .int x1), (2, .int x2), (3, .int x3), (4, .int x4), (17, .long (r9 - r10))] [] I J R))) ∧ ((I 92 n6) = 3 → K 323 [(0, .ref 80), (1, .int x1), (2, .int x2), (3, .int x3), (4, .int x4), (17, .long (r9 + r10))] [] I J R)))))))))))) : K 29 [(0, .ref 80), (1, .int x1), (2, .int x2), (3, .int x3), (4, .int x4)] [] I J R := by
  refine k_ld hK 4 dX12_secondBy_29 rfl rfl rfl rfl ?_
  refine k_ld hK 0 dX12_secondBy_31 rfl rfl rfl rfl ?_
  refine k_gI hK dX12_secondBy_32 lf_X12_353 rfl (sc_80 hs) rfl ?_
  refine k_cge hK dX12_secondBy_35 (tgt := 341) rfl (fun h1 => ?_) (fun h1 => ?_)
  · have hF := hF.1 h1
    refine k_ld hK 0 dX12_secondBy_341 rfl rfl rfl rfl ?_
    refine k_gR hK dX12_secondBy_342 lf_X12_90 rfl (sc_80 hs) (sf_80_53 hs) ?_
    refine k_ld hK 1 dX12_secondBy_345 rfl rfl rfl rfl ?_
    obtain ⟨n2, i3, j4, hF⟩ := hF
    refine k_iald hK dX12_secondBy_346 (sc_106 hs) sn_106 (by decide) i3 j4 rfl ?_
    refine k_ld hK 0 dX12_secondBy_347 rfl rfl rfl rfl ?_
    refine k_gR hK dX12_secondBy_348 lf_X12_115 rfl (sc_80 hs) (sf_80_67 hs) ?_
    refine k_cSp hK dX12_secondBy_351 lm_X12_465 (As := [.int (I 106 n2), .ref 114]) (S := []) rfl (Nat.le_of_ble_eq_true rfl) (fit_0 rfl rfl) rfl hF (fun r5 hF => ?_)
    show K _ _ [.long r5] _ _ _
    exact k_lret hK dX12_secondBy_354 rfl (done_0 rfl rfl) (qD_i hF)
  · have hF := hF.2 h1
    refine k_ld hK 0 dX12_secondBy_38 rfl rfl rfl rfl ?_
    refine k_gR hK dX12_secondBy_39 lf_X12_60 rfl (sc_80 hs) (sf_80_41 hs) ?_
    refine k_ld hK 4 dX12_secondBy_42 rfl rfl rfl rfl ?_
    obtain ⟨n6, i7, j8, hF⟩ := hF
    refine k_iald hK dX12_secondBy_44 (sc_96 hs) sn_96 (by decide) i7 j8 rfl ?_
    refine k_ld hK 0 dX12_secondBy_45 rfl rfl rfl rfl ?_
    refine k_gR hK dX12_secondBy_46 lf_X12_115 rfl (sc_80 hs) (sf_80_67 hs) ?_
    refine k_cSp hK dX12_secondBy_49 lm_X12_465 (As := [.int (I 96 n6), .ref 114]) (S := []) rfl (Nat.le_of_ble_eq_true rfl) (fit_0 rfl rfl) rfl hF (fun r9 hF => ?_)
    show K _ _ [.long r9] _ _ _
    refine k_st hK dX12_secondBy_52 rfl rfl rfl (Nat.le_of_ble_eq_true rfl) rfl ?_
    refine k_ld hK 1 dX12_secondBy_54 rfl rfl rfl rfl ?_
    refine k_gR hK dX12_secondBy_55 lf_X12_63 rfl (sc_80 hs) (sf_80_42 hs) ?_
    refine k_ld hK 5 dX12_secondBy_58 rfl rfl rfl rfl ?_
    refine k_iald hK dX12_secondBy_60 (sc_97 hs) sn_97 (by decide) i7 j8 rfl ?_
    refine k_ld hK 1 dX12_secondBy_61 rfl rfl rfl rfl ?_
    refine k_gR hK dX12_secondBy_62 lf_X12_115 rfl (sc_80 hs) (sf_80_67 hs) ?_
    refine k_cSp hK dX12_secondBy_65 lm_X12_465 (As := [.int (I 97 n6), .ref 114]) (S := []) rfl (Nat.le_of_ble_eq_true rfl) (fit_0 rfl rfl) rfl hF (fun r10 hF => ?_)
    show K _ _ [.long r10] _ _ _
    refine k_st hK dX12_secondBy_68 rfl rfl rfl (Nat.le_of_ble_eq_true rfl) rfl ?_
    refine k_ld hK 2 dX12_secondBy_70 rfl rfl rfl rfl ?_
    refine k_gR hK dX12_secondBy_71 lf_X12_60 rfl (sc_80 hs) (sf_80_41 hs) ?_
    refine k_ld hK 6 dX12_secondBy_74 rfl rfl rfl rfl ?_
    refine k_iald hK dX12_secondBy_76 (sc_96 hs) sn_96 (by decide) i7 j8 rfl ?_
    refine k_si hK dX12_secondBy_77 cs_1000 ?_
    refine k_ld hK 4 dX12_secondBy_80 rfl rfl rfl rfl ?_
    refine k_op hK dX12_secondBy_81 rfl rfl ?_
    refine k_ld hK 2 dX12_secondBy_82 rfl rfl rfl rfl ?_
    refine k_gR hK dX12_secondBy_83 lf_X12_109 rfl (sc_80 hs) (sf_80_65 hs) ?_
    refine k_cSp hK dX12_secondBy_86 lm_X12_453 (As := [.int (I 96 n6), .int (1000 + x2), .ref 112]) (S := []) rfl (Nat.le_of_ble_eq_true rfl) (fit_0 rfl rfl) rfl hF (fun r11 hF => ?_)
    show K _ _ [.long r11] _ _ _
    refine k_st hK dX12_secondBy_89 rfl rfl rfl (Nat.le_of_ble_eq_true rfl) rfl ?_
    refine k_ld hK 3 dX12_secondBy_91 rfl rfl rfl rfl ?_
    refine k_gR hK dX12_secondBy_92 lf_X12_63 rfl (sc_80 hs) (sf_80_42 hs) ?_
    refine k_ld hK 7 dX12_secondBy_95 rfl rfl rfl rfl ?_
    refine k_iald hK dX12_secondBy_97 (sc_97 hs) sn_97 (by decide) i7 j8 rfl ?_
    refine k_si hK dX12_secondBy_98 cs_1000 ?_
    refine k_ld hK 5 dX12_secondBy_101 rfl rfl rfl rfl ?_
    refine k_op hK dX12_secondBy_102 rfl rfl ?_
    refine k_ld hK 3 dX12_secondBy_103 rfl rfl rfl rfl ?_
    refine k_gR hK dX12_secondBy_104 lf_X12_109 rfl (sc_80 hs) (sf_80_65 hs) ?_
    refine k_cSp hK dX12_secondBy_107 lm_X12_453 (As := [.int (I 97 n6), .int (1000 + x2), .ref 112]) (S := []) rfl (Nat.le_of_ble_eq_true rfl) (fit_0 rfl rfl) rfl hF (fun r12 hF => ?_)
    show K _ _ [.long r12] _ _ _
    refine k_st hK dX12_secondBy_110 rfl rfl rfl (Nat.le_of_ble_eq_true rfl) rfl ?_
    refine k_ld hK 4 dX12_secondBy_112 rfl rfl rfl rfl ?_
    refine k_gR hK dX12_secondBy_113 lf_X12_60 rfl (sc_80 hs) (sf_80_41 hs) ?_
    refine k_ld hK 8 dX12_secondBy_116 rfl rfl rfl rfl ?_
    refine k_iald hK dX12_secondBy_118 (sc_96 hs) sn_96 (by decide) i7 j8 rfl ?_
    refine k_si hK dX12_secondBy_119 cs_1000 ?_
    refine k_ld hK 7 dX12_secondBy_122 rfl rfl rfl rfl ?_
    refine k_op hK dX12_secondBy_123 rfl rfl ?_
    refine k_ld hK 4 dX12_secondBy_124 rfl rfl rfl rfl ?_
    refine k_gR hK dX12_secondBy_125 lf_X12_112 rfl (sc_80 hs) (sf_80_66 hs) ?_
    refine k_cSp hK dX12_secondBy_128 lm_X12_453 (As := [.int (I 96 n6), .int (1000 + x3), .ref 113]) (S := []) rfl (Nat.le_of_ble_eq_true rfl) (fit_0 rfl rfl) rfl hF (fun r13 hF => ?_)
    show K _ _ [.long r13] _ _ _
    refine k_st hK dX12_secondBy_131 rfl rfl rfl (Nat.le_of_ble_eq_true rfl) rfl ?_
    refine k_ld hK 5 dX12_secondBy_133 rfl rfl rfl rfl ?_
    refine k_gR hK dX12_secondBy_134 lf_X12_63 rfl (sc_80 hs) (sf_80_42 hs) ?_
    refine k_ld hK 9 dX12_secondBy_137 rfl rfl rfl rfl ?_
    refine k_iald hK dX12_secondBy_139 (sc_97 hs) sn_97 (by decide) i7 j8 rfl ?_
    refine k_si hK dX12_secondBy_140 cs_1000 ?_
    refine k_ld hK 8 dX12_secondBy_143 rfl rfl rfl rfl ?_
    refine k_op hK dX12_secondBy_144 rfl rfl ?_
    refine k_ld hK 5 dX12_secondBy_145 rfl rfl rfl rfl ?_
    refine k_gR hK dX12_secondBy_146 lf_X12_112 rfl (sc_80 hs) (sf_80_66 hs) ?_
    refine k_cSp hK dX12_secondBy_149 lm_X12_453 (As := [.int (I 97 n6), .int (1000 + x3), .ref 113]) (S := []) rfl (Nat.le_of_ble_eq_true rfl) (fit_0 rfl rfl) rfl hF (fun r14 hF => ?_)
    show K _ _ [.long r14] _ _ _
    refine k_st hK dX12_secondBy_152 rfl rfl rfl (Nat.le_of_ble_eq_true rfl) rfl ?_
    refine k_ld hK 6 dX12_secondBy_154 rfl rfl rfl rfl ?_
    refine k_gR hK dX12_secondBy_155 lf_X12_48 rfl (sc_80 hs) (sf_80_37 hs) ?_
    refine k_ld hK 10 dX12_secondBy_158 rfl rfl rfl rfl ?_
    refine k_iald hK dX12_secondBy_160 (sc_92 hs) sn_92 (by decide) i7 j8 rfl ?_
    refine k_ic hK dX12_secondBy_161 ci_3 ?_
    refine k_cne hK dX12_secondBy_162 (tgt := 175) rfl (fun h15 => ?_) (fun h15 => ?_)
    · have hF := hF.1 h15
      refine k_ld hK 6 dX12_secondBy_175 rfl rfl rfl rfl ?_
      refine k_gR hK dX12_secondBy_176 lf_X12_48 rfl (sc_80 hs) (sf_80_37 hs) ?_
      refine k_ld hK 10 dX12_secondBy_179 rfl rfl rfl rfl ?_
      refine k_iald hK dX12_secondBy_181 (sc_92 hs) sn_92 (by decide) i7 j8 rfl ?_
      refine k_ic hK dX12_secondBy_182 ci_4 ?_
      refine k_cne hK dX12_secondBy_183 (tgt := 196) rfl (fun h16 => ?_) (fun h16 => ?_)
      · have hF := hF.1 h16
        refine k_ld hK 6 dX12_secondBy_196 rfl rfl rfl rfl ?_
        refine k_gR hK dX12_secondBy_197 lf_X12_48 rfl (sc_80 hs) (sf_80_37 hs) ?_
        refine k_ld hK 10 dX12_secondBy_200 rfl rfl rfl rfl ?_
        refine k_iald hK dX12_secondBy_202 (sc_92 hs) sn_92 (by decide) i7 j8 rfl ?_
        refine k_ic hK dX12_secondBy_203 ci_5 ?_
        refine k_cne hK dX12_secondBy_204 (tgt := 261) rfl (fun h17 => ?_) (fun h17 => ?_)
        · have hF := hF.1 h17
          refine k_ld hK 5 dX12_secondBy_261 rfl rfl rfl rfl ?_
          refine k_ld hK 6 dX12_secondBy_263 rfl rfl rfl rfl ?_
          refine k_gR hK dX12_secondBy_264 lf_X12_109 rfl (sc_80 hs) (sf_80_65 hs) ?_
          refine k_ld hK 10 dX12_secondBy_267 rfl rfl rfl rfl ?_
          refine k_lald hK dX12_secondBy_269 (sc_112 hs) sn_112 (by decide) i7 j8 rfl ?_
          refine k_ld hK 0 dX12_secondBy_270 rfl rfl rfl rfl ?_
          refine k_op hK dX12_secondBy_272 rfl rfl ?_
          refine k_ldc2 hK dX12_secondBy_273 lc_X12_338 ?_
          refine k_lrem hK dX12_secondBy_276 (by decide) ?_
          refine k_op hK dX12_secondBy_277 rfl rfl ?_
          refine k_ld hK 6 dX12_secondBy_278 rfl rfl rfl rfl ?_
          refine k_gR hK dX12_secondBy_279 lf_X12_112 rfl (sc_80 hs) (sf_80_66 hs) ?_
          refine k_ld hK 10 dX12_secondBy_282 rfl rfl rfl rfl ?_
          refine k_lald hK dX12_secondBy_284 (sc_113 hs) sn_113 (by decide) i7 j8 rfl ?_
          refine k_ld hK 2 dX12_secondBy_285 rfl rfl rfl rfl ?_
          refine k_op hK dX12_secondBy_287 rfl rfl ?_
          refine k_ldc2 hK dX12_secondBy_288 lc_X12_338 ?_
          refine k_lrem hK dX12_secondBy_291 (by decide) ?_
          refine k_op hK dX12_secondBy_292 rfl rfl ?_
          refine k_ld hK 6 dX12_secondBy_293 rfl rfl rfl rfl ?_
          refine k_gR hK dX12_secondBy_294 lf_X12_51 rfl (sc_80 hs) (sf_80_38 hs) ?_
          refine k_ld hK 10 dX12_secondBy_297 rfl rfl rfl rfl ?_
          refine k_lald hK dX12_secondBy_299 (sc_93 hs) sn_93 (by decide) i7 j8 rfl ?_
          refine k_ld hK 4 dX12_secondBy_300 rfl rfl rfl rfl ?_
          refine k_op hK dX12_secondBy_302 rfl rfl ?_
          refine k_ldc2 hK dX12_secondBy_303 lc_X12_338 ?_
          refine k_lrem hK dX12_secondBy_306 (by decide) ?_
          refine k_op hK dX12_secondBy_307 rfl rfl ?_
          refine k_cSp hK dX12_secondBy_308 lm_X12_408 (As := [.long (((r9 - (((J 112 n6) * r14) - ((J 112 n6) * r14) / (1000000007 : Int64) * (1000000007 : Int64))) - (((J 113 n6) * r12) - ((J 113 n6) * r12) / (1000000007 : Int64) * (1000000007 : Int64))) - (((J 93 n6) * r10) - ((J 93 n6) * r10) / (1000000007 : Int64) * (1000000007 : Int64)))]) (S := []) rfl (Nat.le_of_ble_eq_true rfl) (fit_0 rfl rfl) rfl hF (fun r18 hF => ?_)
          show K _ _ [.long r18] _ _ _
          refine k_ld hK 6 dX12_secondBy_311 rfl rfl rfl rfl ?_
          refine k_gR hK dX12_secondBy_312 lf_X12_57 rfl (sc_80 hs) (sf_80_40 hs) ?_
          refine k_ld hK 10 dX12_secondBy_315 rfl rfl rfl rfl ?_
          refine k_lald hK dX12_secondBy_317 (sc_95 hs) sn_95 (by decide) i7 j8 rfl ?_
          refine k_cSp hK dX12_secondBy_318 lm_X12_411 (As := [.long r18, .long (J 95 n6)]) (S := []) rfl (Nat.le_of_ble_eq_true rfl) (fit_0 rfl rfl) rfl hF (fun r19 hF => ?_)
          show K _ _ [.long r19] _ _ _
          refine k_st hK dX12_secondBy_321 rfl rfl rfl (Nat.le_of_ble_eq_true rfl) rfl ?_
          exact k_sub hK [7, 8, 9, 10, 11, 0] rfl hF
        · have hF := hF.2 h17
          refine k_ld hK 5 dX12_secondBy_207 rfl rfl rfl rfl ?_
          refine k_ld hK 6 dX12_secondBy_209 rfl rfl rfl rfl ?_
          refine k_gR hK dX12_secondBy_210 lf_X12_57 rfl (sc_80 hs) (sf_80_40 hs) ?_
          refine k_ld hK 10 dX12_secondBy_213 rfl rfl rfl rfl ?_
          refine k_lald hK dX12_secondBy_215 (sc_95 hs) sn_95 (by decide) i7 j8 rfl ?_
          refine k_op hK dX12_secondBy_216 rfl rfl ?_
          refine k_ldc2 hK dX12_secondBy_217 lc_X12_338 ?_
          refine k_lrem hK dX12_secondBy_220 (by decide) ?_
          refine k_ld hK 3 dX12_secondBy_221 rfl rfl rfl rfl ?_
          refine k_ld hK 0 dX12_secondBy_223 rfl rfl rfl rfl ?_
          refine k_op hK dX12_secondBy_225 rfl rfl ?_
          refine k_ldc2 hK dX12_secondBy_226 lc_X12_338 ?_
          refine k_lrem hK dX12_secondBy_229 (by decide) ?_
          refine k_op hK dX12_secondBy_230 rfl rfl ?_
          refine k_ld hK 1 dX12_secondBy_231 rfl rfl rfl rfl ?_
          refine k_ld hK 2 dX12_secondBy_233 rfl rfl rfl rfl ?_
          refine k_op hK dX12_secondBy_235 rfl rfl ?_
          refine k_ldc2 hK dX12_secondBy_236 lc_X12_338 ?_
          refine k_lrem hK dX12_secondBy_239 (by decide) ?_
          refine k_op hK dX12_secondBy_240 rfl rfl ?_
          refine k_ld hK 4 dX12_secondBy_241 rfl rfl rfl rfl ?_
          refine k_ld hK 6 dX12_secondBy_243 rfl rfl rfl rfl ?_
          refine k_gR hK dX12_secondBy_244 lf_X12_54 rfl (sc_80 hs) (sf_80_39 hs) ?_
          refine k_ld hK 10 dX12_secondBy_247 rfl rfl rfl rfl ?_
          refine k_lald hK dX12_secondBy_249 (sc_94 hs) sn_94 (by decide) i7 j8 rfl ?_
          refine k_op hK dX12_secondBy_250 rfl rfl ?_
          refine k_ldc2 hK dX12_secondBy_251 lc_X12_338 ?_
          refine k_lrem hK dX12_secondBy_254 (by decide) ?_
          refine k_op hK dX12_secondBy_255 rfl rfl ?_
          refine k_st hK dX12_secondBy_256 rfl rfl rfl (Nat.le_of_ble_eq_true rfl) rfl ?_
          refine k_goto hK dX12_secondBy_258 (tgt := 323) rfl ?_
          exact k_sub hK [7, 8, 9, 10, 11, 0] rfl hF
      · have hF := hF.2 h16
        refine k_ld hK 5 dX12_secondBy_186 rfl rfl rfl rfl ?_
        refine k_ld hK 4 dX12_secondBy_188 rfl rfl rfl rfl ?_
        refine k_op hK dX12_secondBy_190 rfl rfl ?_
        refine k_st hK dX12_secondBy_191 rfl rfl rfl (Nat.le_of_ble_eq_true rfl) rfl ?_
        refine k_goto hK dX12_secondBy_193 (tgt := 323) rfl ?_
        exact k_sub hK [7, 8, 9, 10, 11, 0] rfl hF
    · have hF := hF.2 h15
      refine k_ld hK 5 dX12_secondBy_165 rfl rfl rfl rfl ?_
      refine k_ld hK 4 dX12_secondBy_167 rfl rfl rfl rfl ?_
      refine k_op hK dX12_secondBy_169 rfl rfl ?_
      refine k_st hK dX12_secondBy_170 rfl rfl rfl (Nat.le_of_ble_eq_true rfl) rfl ?_
      refine k_goto hK dX12_secondBy_172 (tgt := 323) rfl ?_
      exact k_sub hK [7, 8, 9, 10, 11, 0] rfl hF
set_option maxHeartbeats 4000000 in
theorem g_X12_secondBy_323 {d : Nat} {K : KT} {Q : Int64 → HI → HJ → Prop} {I : HI} {J : HJ} {R : HR} {x1 : Int32} {x2 : Int32} {x3 : Int32} {x4 : Int32} {z17 : Int64} (hK : am_R M_X12_secondBy (am_W d) none R (qD fl R Q) K) (hs : Stat R)  (hF : Wp fl d M_X12_left [.long z17] I J R (fun r1 => (∃ n2 : Nat, x4 = nI n2 ∧ n2 < 400 ∧ K 29 [(0, .ref 80), (1, .int x1), (2, .int x2), (3, .int x3), (4, .int (x4 + 1))] [] I (up J 114 n2 r1) R))) : K 323 [(0, .ref 80), (1, .int x1), (2, .int x2), (3, .int x3), (4, .int x4), (17, .long z17)] [] I J R := by
  refine k_ld hK 0 dX12_secondBy_323 rfl rfl rfl rfl ?_
  refine k_gR hK dX12_secondBy_324 lf_X12_115 rfl (sc_80 hs) (sf_80_67 hs) ?_
  refine k_ld hK 4 dX12_secondBy_327 rfl rfl rfl rfl ?_
  refine k_ld hK 5 dX12_secondBy_329 rfl rfl rfl rfl ?_
  refine k_cSp hK dX12_secondBy_331 lm_X12_408 (As := [.long z17]) (S := [.int x4, .ref 114]) rfl (Nat.le_of_ble_eq_true rfl) (fit_0 rfl rfl) rfl hF (fun r1 hF => ?_)
  show K _ _ [.long r1, .int x4, .ref 114] _ _ _
  obtain ⟨n2, i3, j4, hF⟩ := hF
  refine k_last hK dX12_secondBy_334 (sc_114 hs) sn_114 (by decide) i3 j4 ?_
  refine k_iinc hK 4 dX12_secondBy_335 (v := (x4 + 1)) rfl (Nat.le_of_ble_eq_true rfl) (congrArg (fun q => x4 + q) ci_1) rfl ?_
  refine k_goto hK dX12_secondBy_338 (tgt := 29) rfl ?_
  exact k_sub hK [1, 2, 3, 4, 0] rfl hF
set_option maxHeartbeats 4000000 in
theorem g_X12_second_0 {d : Nat} {K : KT} {Q : Int32 → HI → HJ → Prop} {I : HI} {J : HJ} {R : HR} {x1 : Int32} {x2 : Int32} {x3 : Int32} (hK : am_R M_X12_second (am_W d) none R (qD fi R Q) K) (hs : Stat R)  (hF : Wp fb d M_X12_isOut [.ref 80, .int x1] (up I 80 0 0) J R (fun b1 => ((b1 = false → Q (-1) (up I 80 0 0) J) ∧ (b1 = true → Wp fb d M_X12_isInput [.ref 80, .int x2] (up I 80 0 0) J R (fun b3 => ((b3 = false → Q (-1) (up I 80 0 0) J) ∧ (b3 = true → Wp fb d M_X12_isInput [.ref 80, .int x3] (up I 80 0 0) J R (fun b5 => ((b5 = false → Q (-1) (up I 80 0 0) J) ∧ (b5 = true → Wd fl d M_X12_secondBy [.ref 80, .int x1, .int x2, .int x3] (up I 80 0 0) J R (fun r7 I8 J9 => Q (Int64.toInt32 r7) I8 J9))))))))))) : K 0 [(0, .ref 80), (1, .int x1), (2, .int x2), (3, .int x3)] [] I J R := by
  refine k_ld hK 0 dX12_second_0 rfl rfl rfl rfl ?_
  refine k_ic hK dX12_second_1 ci_0 ?_
  refine k_pI hK dX12_second_2 lf_X12_142 rfl rfl rfl (sc_80 hs) ?_
  refine k_ld hK 0 dX12_second_5 rfl rfl rfl rfl ?_
  refine k_ld hK 1 dX12_second_6 rfl rfl rfl rfl ?_
  refine k_cVp hK dX12_second_7 (Or.inl lm_X12_420) (As := [.int x1]) (S := []) rfl (sc_80 hs) (Nat.le_of_ble_eq_true rfl) (fit_0 rfl rfl) rfl hF (fun b1 hF => ?_)
  show K _ _ [.int (b2i b1)] _ _ _
  refine k_beq hK dX12_second_10 (tgt := 40) rfl (fun h2 => ?_) (fun h2 => ?_)
  · have hF := hF.1 h2
    refine k_ic hK dX12_second_40 ci_m1 ?_
    exact k_iret hK dX12_second_41 rfl rfl (done_0 rfl rfl) (qD_i hF)
  · have hF := hF.2 h2
    refine k_ld hK 0 dX12_second_13 rfl rfl rfl rfl ?_
    refine k_ld hK 2 dX12_second_14 rfl rfl rfl rfl ?_
    refine k_cVp hK dX12_second_15 (Or.inl lm_X12_438) (As := [.int x2]) (S := []) rfl (sc_80 hs) (Nat.le_of_ble_eq_true rfl) (fit_0 rfl rfl) rfl hF (fun b3 hF => ?_)
    show K _ _ [.int (b2i b3)] _ _ _
    refine k_beq hK dX12_second_18 (tgt := 40) rfl (fun h4 => ?_) (fun h4 => ?_)
    · have hF := hF.1 h4
      refine k_ic hK dX12_second_40 ci_m1 ?_
      exact k_iret hK dX12_second_41 rfl rfl (done_0 rfl rfl) (qD_i hF)
    · have hF := hF.2 h4
      refine k_ld hK 0 dX12_second_21 rfl rfl rfl rfl ?_
      refine k_ld hK 3 dX12_second_22 rfl rfl rfl rfl ?_
      refine k_cVp hK dX12_second_23 (Or.inl lm_X12_438) (As := [.int x3]) (S := []) rfl (sc_80 hs) (Nat.le_of_ble_eq_true rfl) (fit_0 rfl rfl) rfl hF (fun b5 hF => ?_)
      show K _ _ [.int (b2i b5)] _ _ _
      refine k_beq hK dX12_second_26 (tgt := 40) rfl (fun h6 => ?_) (fun h6 => ?_)
      · have hF := hF.1 h6
        refine k_ic hK dX12_second_40 ci_m1 ?_
        exact k_iret hK dX12_second_41 rfl rfl (done_0 rfl rfl) (qD_i hF)
      · have hF := hF.2 h6
        refine k_ld hK 0 dX12_second_29 rfl rfl rfl rfl ?_
        refine k_ld hK 1 dX12_second_30 rfl rfl rfl rfl ?_
        refine k_ld hK 2 dX12_second_31 rfl rfl rfl rfl ?_
        refine k_ld hK 3 dX12_second_32 rfl rfl rfl rfl ?_
        refine k_cVd hK dX12_second_33 (Or.inl lm_X12_469) (As := [.int x1, .int x2, .int x3]) (S := []) rfl (sc_80 hs) (Nat.le_of_ble_eq_true rfl) (fit_0 rfl rfl) rfl hF (fun r7 I8 J9 hF => ?_)
        show K _ _ [.long r7] _ _ _
        refine k_op hK dX12_second_36 rfl rfl ?_
        refine k_goto hK dX12_second_37 (tgt := 41) rfl ?_
        exact k_iret hK dX12_second_41 rfl rfl (done_0 rfl rfl) (qD_i hF)
theorem e_X12_second {d : Nat} {Q : Int32 → HI → HJ → Prop} {I : HI} {J : HJ} {R : HR} {x1 : Int32} {x2 : Int32} {x3 : Int32} (hs : Stat R)  (hF : Wp fb d M_X12_isOut [.ref 80, .int x1] (up I 80 0 0) J R (fun b1 => ((b1 = false → Q (-1) (up I 80 0 0) J) ∧ (b1 = true → Wp fb d M_X12_isInput [.ref 80, .int x2] (up I 80 0 0) J R (fun b3 => ((b3 = false → Q (-1) (up I 80 0 0) J) ∧ (b3 = true → Wp fb d M_X12_isInput [.ref 80, .int x3] (up I 80 0 0) J R (fun b5 => ((b5 = false → Q (-1) (up I 80 0 0) J) ∧ (b5 = true → Wd fl d M_X12_secondBy [.ref 80, .int x1, .int x2, .int x3] (up I 80 0 0) J R (fun r7 I8 J9 => Q (Int64.toInt32 r7) I8 J9))))))))))) : Wd fi (d + 1) M_X12_second [.ref 80, .int x1, .int x2, .int x3] I J R Q := ⟨Nat.le_of_ble_eq_true rfl, fun K hK => g_X12_second_0 hK hs hF⟩
set_option maxHeartbeats 4000000 in
theorem g_X12_turned_0 {d : Nat} {K : KT} {Q : Int32 → HI → HJ → Prop} {I : HI} {J : HJ} {R : HR} {x1 : Int32} {x2 : Int32} {x3 : Int32} {x4 : Int32} {x5 : Int32} {x6 : Int32} (hK : am_R M_X12_turned (am_W d) none R (qD fi R Q) K) (hs : Stat R)  (hF : Wp fb d M_X12_isOut [.ref 80, .int x1] (up I 80 0 0) J R (fun b1 => ((b1 = false → Q (-1) (up I 80 0 0) J) ∧ (b1 = true → Wp fb d M_X12_isInput [.ref 80, .int x2] (up I 80 0 0) J R (fun b3 => ((b3 = true → K 29 [(0, .ref 80), (1, .int x1), (2, .int x2), (3, .int x3), (4, .int x4), (5, .int x5), (6, .int x6), (7, .long (0 : Int64)), (9, .int 0)] [] (up I 80 0 0) J R) ∧ (b3 = false → Q (-1) (up I 80 0 0) J))))))) : K 0 [(0, .ref 80), (1, .int x1), (2, .int x2), (3, .int x3), (4, .int x4), (5, .int x5), (6, .int x6)] [] I J R := by
  refine k_ld hK 0 dX12_turned_0 rfl rfl rfl rfl ?_
  refine k_ic hK dX12_turned_1 ci_0 ?_
  refine k_pI hK dX12_turned_2 lf_X12_142 rfl rfl rfl (sc_80 hs) ?_
  refine k_ld hK 0 dX12_turned_5 rfl rfl rfl rfl ?_
  refine k_ld hK 1 dX12_turned_6 rfl rfl rfl rfl ?_
  refine k_cVp hK dX12_turned_7 (Or.inl lm_X12_420) (As := [.int x1]) (S := []) rfl (sc_80 hs) (Nat.le_of_ble_eq_true rfl) (fit_0 rfl rfl) rfl hF (fun b1 hF => ?_)
  show K _ _ [.int (b2i b1)] _ _ _
  refine k_beq hK dX12_turned_10 (tgt := 21) rfl (fun h2 => ?_) (fun h2 => ?_)
  · have hF := hF.1 h2
    refine k_ic hK dX12_turned_21 ci_m1 ?_
    exact k_iret hK dX12_turned_22 rfl rfl (done_0 rfl rfl) (qD_i hF)
  · have hF := hF.2 h2
    refine k_ld hK 0 dX12_turned_13 rfl rfl rfl rfl ?_
    refine k_ld hK 2 dX12_turned_14 rfl rfl rfl rfl ?_
    refine k_cVp hK dX12_turned_15 (Or.inl lm_X12_438) (As := [.int x2]) (S := []) rfl (sc_80 hs) (Nat.le_of_ble_eq_true rfl) (fit_0 rfl rfl) rfl hF (fun b3 hF => ?_)
    show K _ _ [.int (b2i b3)] _ _ _
    refine k_bne hK dX12_turned_18 (tgt := 23) rfl (fun h4 => ?_) (fun h4 => ?_)
    · have hF := hF.1 h4
      refine k_lc hK dX12_turned_23 cl_0 ?_
      refine k_st hK dX12_turned_24 rfl rfl rfl (Nat.le_of_ble_eq_true rfl) rfl ?_
      refine k_ic hK dX12_turned_26 ci_0 ?_
      refine k_st hK dX12_turned_27 rfl rfl rfl (Nat.le_of_ble_eq_true rfl) rfl ?_
      exact k_sub hK [2, 3, 4, 5, 6, 7, 8, 1, 0] rfl hF
    · have hF := hF.2 h4
      refine k_ic hK dX12_turned_21 ci_m1 ?_
      exact k_iret hK dX12_turned_22 rfl rfl (done_0 rfl rfl) (qD_i hF)
set_option maxHeartbeats 4000000 in
theorem g_X12_turned_29 {d : Nat} {K : KT} {Q : Int32 → HI → HJ → Prop} {I : HI} {J : HJ} {R : HR} {x1 : Int32} {x2 : Int32} {x3 : Int32} {x4 : Int32} {x5 : Int32} {x6 : Int32} {z7 : Int64} {x9 : Int32} (hK : am_R M_X12_turned (am_W d) none R (qD fi R Q) K) (hs : Stat R)  (hF : (((I 80 31) ≤ x9 → Q (Int64.toInt32 (z7 - z7 / (1000000007 : Int64) * (1000000007 : Int64))) I J) ∧ (¬ (I 80 31) ≤ x9 → ((¬ x9 = 0 → ((¬ x9 = 1 → ((¬ x9 = 2 → K 71 [(0, .ref 80), (1, .int x1), (2, .int x2), (3, .int x3), (4, .int x4), (5, .int x5), (6, .int x6), (7, .long z7), (9, .int x9)] [.int x6] I J R) ∧ (x9 = 2 → K 71 [(0, .ref 80), (1, .int x1), (2, .int x2), (3, .int x3), (4, .int x4), (5, .int x5), (6, .int x6), (7, .long z7), (9, .int x9)] [.int x5] I J R))) ∧ (x9 = 1 → K 71 [(0, .ref 80), (1, .int x1), (2, .int x2), (3, .int x3), (4, .int x4), (5, .int x5), (6, .int x6), (7, .long z7), (9, .int x9)] [.int x4] I J R))) ∧ (x9 = 0 → K 71 [(0, .ref 80), (1, .int x1), (2, .int x2), (3, .int x3), (4, .int x4), (5, .int x5), (6, .int x6), (7, .long z7), (9, .int x9)] [.int x3] I J R))))) : K 29 [(0, .ref 80), (1, .int x1), (2, .int x2), (3, .int x3), (4, .int x4), (5, .int x5), (6, .int x6), (7, .long z7), (9, .int x9)] [] I J R := by
  refine k_ld hK 8 dX12_turned_29 rfl rfl rfl rfl ?_
  refine k_ld hK 0 dX12_turned_31 rfl rfl rfl rfl ?_
  refine k_gI hK dX12_turned_32 lf_X12_314 rfl (sc_80 hs) rfl ?_
  refine k_cge hK dX12_turned_35 (tgt := 103) rfl (fun h1 => ?_) (fun h1 => ?_)
  · have hF := hF.1 h1
    refine k_ld hK 7 dX12_turned_103 rfl rfl rfl rfl ?_
    refine k_ldc2 hK dX12_turned_105 lc_X12_338 ?_
    refine k_lrem hK dX12_turned_108 (by decide) ?_
    refine k_op hK dX12_turned_109 rfl rfl ?_
    exact k_iret hK dX12_turned_110 rfl rfl (done_0 rfl rfl) (qD_i hF)
  · have hF := hF.2 h1
    refine k_ld hK 8 dX12_turned_38 rfl rfl rfl rfl ?_
    refine k_ne hK dX12_turned_40 (tgt := 47) rfl (fun h2 => ?_) (fun h2 => ?_)
    · have hF := hF.1 h2
      refine k_ld hK 8 dX12_turned_47 rfl rfl rfl rfl ?_
      refine k_ic hK dX12_turned_49 ci_1 ?_
      refine k_cne hK dX12_turned_50 (tgt := 58) rfl (fun h3 => ?_) (fun h3 => ?_)
      · have hF := hF.1 h3
        refine k_ld hK 8 dX12_turned_58 rfl rfl rfl rfl ?_
        refine k_ic hK dX12_turned_60 ci_2 ?_
        refine k_cne hK dX12_turned_61 (tgt := 69) rfl (fun h4 => ?_) (fun h4 => ?_)
        · have hF := hF.1 h4
          refine k_ld hK 6 dX12_turned_69 rfl rfl rfl rfl ?_
          exact k_sub hK [0, 1, 2, 3, 4, 5, 6, 7, 8] rfl hF
        · have hF := hF.2 h4
          refine k_ld hK 5 dX12_turned_64 rfl rfl rfl rfl ?_
          refine k_goto hK dX12_turned_66 (tgt := 71) rfl ?_
          exact k_sub hK [0, 1, 2, 3, 4, 5, 6, 7, 8] rfl hF
      · have hF := hF.2 h3
        refine k_ld hK 4 dX12_turned_53 rfl rfl rfl rfl ?_
        refine k_goto hK dX12_turned_55 (tgt := 71) rfl ?_
        exact k_sub hK [0, 1, 2, 3, 4, 5, 6, 7, 8] rfl hF
    · have hF := hF.2 h2
      refine k_ld hK 3 dX12_turned_43 rfl rfl rfl rfl ?_
      refine k_goto hK dX12_turned_44 (tgt := 71) rfl ?_
      exact k_sub hK [0, 1, 2, 3, 4, 5, 6, 7, 8] rfl hF
set_option maxHeartbeats 4000000 in
theorem g_X12_turned_71 {d : Nat} {K : KT} {Q : Int32 → HI → HJ → Prop} {I : HI} {J : HJ} {R : HR} {x1 : Int32} {x2 : Int32} {x3 : Int32} {x4 : Int32} {x5 : Int32} {x6 : Int32} {z7 : Int64} {x9 : Int32} {u0 : Int32} (hK : am_R M_X12_turned (am_W d) none R (qD fi R Q) K) (hs : Stat R)  (hF : Wd fl d M_X12_secondBy [.ref 80, .int x1, .int x2, .int x9] I J R (fun r1 I2 J3 => Wp fl d M_X12_left [.long (Int32.toInt64 u0)] I2 J3 R (fun r4 => K 29 [(0, .ref 80), (1, .int x1), (2, .int x2), (3, .int x3), (4, .int x4), (5, .int x5), (6, .int x6), (7, .long (z7 + ((r1 * r4) - (r1 * r4) / (1000000007 : Int64) * (1000000007 : Int64)))), (9, .int (x9 + 1))] [] I2 J3 R))) : K 71 [(0, .ref 80), (1, .int x1), (2, .int x2), (3, .int x3), (4, .int x4), (5, .int x5), (6, .int x6), (7, .long z7), (9, .int x9)] [.int u0] I J R := by
  refine k_st hK dX12_turned_71 rfl rfl rfl (Nat.le_of_ble_eq_true rfl) rfl ?_
  refine k_ld hK 8 dX12_turned_73 rfl rfl rfl rfl ?_
  refine k_ld hK 1 dX12_turned_75 rfl rfl rfl rfl ?_
  refine k_ld hK 2 dX12_turned_76 rfl rfl rfl rfl ?_
  refine k_ld hK 3 dX12_turned_77 rfl rfl rfl rfl ?_
  refine k_ld hK 9 dX12_turned_78 rfl rfl rfl rfl ?_
  refine k_cVd hK dX12_turned_80 (Or.inl lm_X12_469) (As := [.int x1, .int x2, .int x9]) (S := [.long z7]) rfl (sc_80 hs) (Nat.le_of_ble_eq_true rfl) (fit_0 rfl rfl) rfl hF (fun r1 I2 J3 hF => ?_)
  show K _ _ [.long r1, .long z7] _ _ _
  refine k_ld hK 0 dX12_turned_83 rfl rfl rfl rfl ?_
  refine k_op hK dX12_turned_85 rfl rfl ?_
  refine k_cSp hK dX12_turned_86 lm_X12_408 (As := [.long (Int32.toInt64 u0)]) (S := [.long r1, .long z7]) rfl (Nat.le_of_ble_eq_true rfl) (fit_0 rfl rfl) rfl hF (fun r4 hF => ?_)
  show K _ _ [.long r4, .long r1, .long z7] _ _ _
  refine k_op hK dX12_turned_89 rfl rfl ?_
  refine k_ldc2 hK dX12_turned_90 lc_X12_338 ?_
  refine k_lrem hK dX12_turned_93 (by decide) ?_
  refine k_op hK dX12_turned_94 rfl rfl ?_
  refine k_st hK dX12_turned_95 rfl rfl rfl (Nat.le_of_ble_eq_true rfl) rfl ?_
  refine k_iinc hK 9 dX12_turned_97 (v := (x9 + 1)) rfl (Nat.le_of_ble_eq_true rfl) (congrArg (fun q => x9 + q) ci_1) rfl ?_
  refine k_goto hK dX12_turned_100 (tgt := 29) rfl ?_
  exact k_sub hK [3, 4, 5, 6, 7, 8, 9, 1, 0] rfl hF
set_option maxHeartbeats 4000000 in
theorem g_X12_laysSquare_0 {d : Nat} {K : KT} {Q : Unit → HI → HJ → Prop} {I : HI} {J : HJ} {R : HR} {x1 : Int32} {x2 : Int32} (hK : am_R M_X12_laysSquare (am_W d) none R (qD fv R Q) K) (hs : Stat R)  (hF : K 2 [(0, .ref 80), (1, .int x1), (2, .int x2), (3, .int 0)] [] I J R) : K 0 [(0, .ref 80), (1, .int x1), (2, .int x2)] [] I J R := by
  refine k_ic hK dX12_laysSquare_0 ci_0 ?_
  refine k_st hK dX12_laysSquare_1 rfl rfl rfl (Nat.le_of_ble_eq_true rfl) rfl ?_
  exact k_sub hK [1, 2, 3, 0] rfl hF
set_option maxHeartbeats 4000000 in
theorem g_X12_laysSquare_2 {d : Nat} {K : KT} {Q : Unit → HI → HJ → Prop} {I : HI} {J : HJ} {R : HR} {x1 : Int32} {x2 : Int32} {x3 : Int32} (hK : am_R M_X12_laysSquare (am_W d) none R (qD fv R Q) K) (hs : Stat R)  (hF : ((x2 ≤ x3 → Q () I J) ∧ (¬ x2 ≤ x3 → Wd fv d M_X12_lays [.ref 80, .int (1000 + x3), .ref 112] I J R (fun u2 I3 J4 => K 23 [(0, .ref 80), (1, .int x1), (2, .int x2), (3, .int x3), (4, .int 0)] [] I3 J4 R)))) : K 2 [(0, .ref 80), (1, .int x1), (2, .int x2), (3, .int x3)] [] I J R := by
  refine k_ld hK 3 dX12_laysSquare_2 rfl rfl rfl rfl ?_
  refine k_ld hK 2 dX12_laysSquare_3 rfl rfl rfl rfl ?_
  refine k_cge hK dX12_laysSquare_4 (tgt := 71) rfl (fun h1 => ?_) (fun h1 => ?_)
  · have hF := hF.1 h1
    exact k_vret hK dX12_laysSquare_71 rfl (done_0 rfl rfl) (qD_i hF)
  · have hF := hF.2 h1
    refine k_ld hK 0 dX12_laysSquare_7 rfl rfl rfl rfl ?_
    refine k_si hK dX12_laysSquare_8 cs_1000 ?_
    refine k_ld hK 3 dX12_laysSquare_11 rfl rfl rfl rfl ?_
    refine k_op hK dX12_laysSquare_12 rfl rfl ?_
    refine k_ld hK 0 dX12_laysSquare_13 rfl rfl rfl rfl ?_
    refine k_gR hK dX12_laysSquare_14 lf_X12_109 rfl (sc_80 hs) (sf_80_65 hs) ?_
    refine k_cVd hK dX12_laysSquare_17 (Or.inl lm_X12_461) (As := [.int (1000 + x3), .ref 112]) (S := []) rfl (sc_80 hs) (Nat.le_of_ble_eq_true rfl) (fit_0 rfl rfl) rfl hF (fun u2 I3 J4 hF => ?_)
    show K _ _ [] _ _ _
    refine k_ic hK dX12_laysSquare_20 ci_0 ?_
    refine k_st hK dX12_laysSquare_21 rfl rfl rfl (Nat.le_of_ble_eq_true rfl) rfl ?_
    exact k_sub hK [1, 2, 3, 4, 0] rfl hF
set_option maxHeartbeats 4000000 in
theorem g_X12_laysSquare_23 {d : Nat} {K : KT} {Q : Unit → HI → HJ → Prop} {I : HI} {J : HJ} {R : HR} {x1 : Int32} {x2 : Int32} {x3 : Int32} {x4 : Int32} (hK : am_R M_X12_laysSquare (am_W d) none R (qD fv R Q) K) (hs : Stat R)  (hF : ((x1 ≤ x4 → K 2 [(0, .ref 80), (1, .int x1), (2, .int x2), (3, .int (x3 + 1))] [] I J R) ∧ (¬ x1 ≤ x4 → (∃ n2 : Nat, x4 = nI n2 ∧ n2 < 20 ∧ Wp fl d M_X12_slopeOf [.int (I 106 n2), .int (1000 + x3), .ref 112] I J R (fun r5 => (∃ n6 : Nat, ((4 * x4) + x3) = nI n6 ∧ n6 < 80 ∧ K 23 [(0, .ref 80), (1, .int x1), (2, .int x2), (3, .int x3), (4, .int (x4 + 1))] [] I (up J 115 n6 r5) R)))))) : K 23 [(0, .ref 80), (1, .int x1), (2, .int x2), (3, .int x3), (4, .int x4)] [] I J R := by
  refine k_ld hK 4 dX12_laysSquare_23 rfl rfl rfl rfl ?_
  refine k_ld hK 1 dX12_laysSquare_25 rfl rfl rfl rfl ?_
  refine k_cge hK dX12_laysSquare_26 (tgt := 65) rfl (fun h1 => ?_) (fun h1 => ?_)
  · have hF := hF.1 h1
    refine k_iinc hK 3 dX12_laysSquare_65 (v := (x3 + 1)) rfl (Nat.le_of_ble_eq_true rfl) (congrArg (fun q => x3 + q) ci_1) rfl ?_
    refine k_goto hK dX12_laysSquare_68 (tgt := 2) rfl ?_
    exact k_sub hK [1, 2, 3, 0] rfl hF
  · have hF := hF.2 h1
    refine k_ld hK 0 dX12_laysSquare_29 rfl rfl rfl rfl ?_
    refine k_gR hK dX12_laysSquare_30 lf_X12_118 rfl (sc_80 hs) (sf_80_68 hs) ?_
    refine k_ic hK dX12_laysSquare_33 ci_4 ?_
    refine k_ld hK 4 dX12_laysSquare_34 rfl rfl rfl rfl ?_
    refine k_op hK dX12_laysSquare_36 rfl rfl ?_
    refine k_ld hK 3 dX12_laysSquare_37 rfl rfl rfl rfl ?_
    refine k_op hK dX12_laysSquare_38 rfl rfl ?_
    refine k_ld hK 0 dX12_laysSquare_39 rfl rfl rfl rfl ?_
    refine k_gR hK dX12_laysSquare_40 lf_X12_90 rfl (sc_80 hs) (sf_80_53 hs) ?_
    refine k_ld hK 4 dX12_laysSquare_43 rfl rfl rfl rfl ?_
    obtain ⟨n2, i3, j4, hF⟩ := hF
    refine k_iald hK dX12_laysSquare_45 (sc_106 hs) sn_106 (by decide) i3 j4 rfl ?_
    refine k_si hK dX12_laysSquare_46 cs_1000 ?_
    refine k_ld hK 3 dX12_laysSquare_49 rfl rfl rfl rfl ?_
    refine k_op hK dX12_laysSquare_50 rfl rfl ?_
    refine k_ld hK 0 dX12_laysSquare_51 rfl rfl rfl rfl ?_
    refine k_gR hK dX12_laysSquare_52 lf_X12_109 rfl (sc_80 hs) (sf_80_65 hs) ?_
    refine k_cSp hK dX12_laysSquare_55 lm_X12_453 (As := [.int (I 106 n2), .int (1000 + x3), .ref 112]) (S := [.int ((4 * x4) + x3), .ref 115]) rfl (Nat.le_of_ble_eq_true rfl) (fit_0 rfl rfl) rfl hF (fun r5 hF => ?_)
    show K _ _ [.long r5, .int ((4 * x4) + x3), .ref 115] _ _ _
    obtain ⟨n6, i7, j8, hF⟩ := hF
    refine k_last hK dX12_laysSquare_58 (sc_115 hs) sn_115 (by decide) i7 j8 ?_
    refine k_iinc hK 4 dX12_laysSquare_59 (v := (x4 + 1)) rfl (Nat.le_of_ble_eq_true rfl) (congrArg (fun q => x4 + q) ci_1) rfl ?_
    refine k_goto hK dX12_laysSquare_62 (tgt := 23) rfl ?_
    exact k_sub hK [1, 2, 3, 4, 0] rfl hF
set_option maxHeartbeats 4000000 in
theorem g_X12_rowWith_0 {d : Nat} {K : KT} {Q : Int32 → Prop} {I : HI} {J : HJ} {R : HR} {x1 : Int32} {x2 : Int32} {x3 : Int32} (hK : am_R M_X12_rowWith (am_W d) none R (qP fi I J R Q) K) (hs : Stat R)  (hF : K 3 [(0, .ref 80), (2, .int x2), (3, .int x3), (4, .int x1)] [] I J R) : K 0 [(0, .ref 80), (1, .int x1), (2, .int x2), (3, .int x3)] [] I J R := by
  refine k_ld hK 1 dX12_rowWith_0 rfl rfl rfl rfl ?_
  refine k_st hK dX12_rowWith_1 rfl rfl rfl (Nat.le_of_ble_eq_true rfl) rfl ?_
  exact k_sub hK [1, 3, 4, 0] rfl hF
set_option maxHeartbeats 4000000 in
theorem g_X12_rowWith_3 {d : Nat} {K : KT} {Q : Int32 → Prop} {I : HI} {J : HJ} {R : HR} {x2 : Int32} {x3 : Int32} {x4 : Int32} (hK : am_R M_X12_rowWith (am_W d) none R (qP fi I J R Q) K) (hs : Stat R)  (hF : ((x2 ≤ x4 → Q (-1)) ∧ (¬ x2 ≤ x4 → (∃ n2 : Nat, ((4 * x4) + x3) = nI n2 ∧ n2 < 80 ∧ (((J 115 n2) = (0 : Int64) → K 3 [(0, .ref 80), (2, .int x2), (3, .int x3), (4, .int (x4 + 1))] [] I J R) ∧ (¬ (J 115 n2) = (0 : Int64) → Q x4)))))) : K 3 [(0, .ref 80), (2, .int x2), (3, .int x3), (4, .int x4)] [] I J R := by
  refine k_ld hK 3 dX12_rowWith_3 rfl rfl rfl rfl ?_
  refine k_ld hK 1 dX12_rowWith_5 rfl rfl rfl rfl ?_
  refine k_cge hK dX12_rowWith_6 (tgt := 34) rfl (fun h1 => ?_) (fun h1 => ?_)
  · have hF := hF.1 h1
    refine k_ic hK dX12_rowWith_34 ci_m1 ?_
    exact k_iret hK dX12_rowWith_35 rfl rfl (done_0 rfl rfl) (qP_i hF)
  · have hF := hF.2 h1
    refine k_ld hK 0 dX12_rowWith_9 rfl rfl rfl rfl ?_
    refine k_gR hK dX12_rowWith_10 lf_X12_118 rfl (sc_80 hs) (sf_80_68 hs) ?_
    refine k_ic hK dX12_rowWith_13 ci_4 ?_
    refine k_ld hK 3 dX12_rowWith_14 rfl rfl rfl rfl ?_
    refine k_op hK dX12_rowWith_16 rfl rfl ?_
    refine k_ld hK 2 dX12_rowWith_17 rfl rfl rfl rfl ?_
    refine k_op hK dX12_rowWith_18 rfl rfl ?_
    obtain ⟨n2, i3, j4, hF⟩ := hF
    refine k_lald hK dX12_rowWith_19 (sc_115 hs) sn_115 (by decide) i3 j4 rfl ?_
    refine k_lc hK dX12_rowWith_20 cl_0 ?_
    refine k_leq hK dX12_rowWith_21 dX12_rowWith_22 (tgt := 28) rfl (fun h5 => ?_) (fun h5 => ?_)
    · have hF := hF.1 h5
      refine k_iinc hK 3 dX12_rowWith_28 (v := (x4 + 1)) rfl (Nat.le_of_ble_eq_true rfl) (congrArg (fun q => x4 + q) ci_1) rfl ?_
      refine k_goto hK dX12_rowWith_31 (tgt := 3) rfl ?_
      exact k_sub hK [1, 2, 3, 0] rfl hF
    · have hF := hF.2 h5
      refine k_ld hK 3 dX12_rowWith_25 rfl rfl rfl rfl ?_
      exact k_iret hK dX12_rowWith_27 rfl rfl (done_0 rfl rfl) (qP_i hF)
set_option maxHeartbeats 4000000 in
theorem g_X12_swaps_0 {d : Nat} {K : KT} {Q : Unit → HI → HJ → Prop} {I : HI} {J : HJ} {R : HR} {x1 : Int32} {x2 : Int32} (hK : am_R M_X12_swaps (am_W d) none R (qD fv R Q) K) (hs : Stat R)  (hF : K 2 [(0, .ref 80), (1, .int x1), (2, .int x2), (3, .int 0)] [] I J R) : K 0 [(0, .ref 80), (1, .int x1), (2, .int x2)] [] I J R := by
  refine k_ic hK dX12_swaps_0 ci_0 ?_
  refine k_st hK dX12_swaps_1 rfl rfl rfl (Nat.le_of_ble_eq_true rfl) rfl ?_
  exact k_sub hK [1, 2, 3, 0] rfl hF
set_option maxHeartbeats 4000000 in
theorem g_X12_swaps_2 {d : Nat} {K : KT} {Q : Unit → HI → HJ → Prop} {I : HI} {J : HJ} {R : HR} {x1 : Int32} {x2 : Int32} {x3 : Int32} (hK : am_R M_X12_swaps (am_W d) none R (qD fv R Q) K) (hs : Stat R)  (hF : ((4 ≤ x3 → Q () I J) ∧ (¬ 4 ≤ x3 → (∃ n2 : Nat, ((4 * x1) + x3) = nI n2 ∧ n2 < 80 ∧ (∃ n5 : Nat, ((4 * x2) + x3) = nI n5 ∧ n5 < 80 ∧ K 2 [(0, .ref 80), (1, .int x1), (2, .int x2), (3, .int (x3 + 1))] [] I (up (up J 115 n2 (J 115 n5)) 115 n5 (J 115 n2)) R))))) : K 2 [(0, .ref 80), (1, .int x1), (2, .int x2), (3, .int x3)] [] I J R := by
  refine k_ld hK 3 dX12_swaps_2 rfl rfl rfl rfl ?_
  refine k_ic hK dX12_swaps_3 ci_4 ?_
  refine k_cge hK dX12_swaps_4 (tgt := 57) rfl (fun h1 => ?_) (fun h1 => ?_)
  · have hF := hF.1 h1
    exact k_vret hK dX12_swaps_57 rfl (done_0 rfl rfl) (qD_i hF)
  · have hF := hF.2 h1
    refine k_ld hK 0 dX12_swaps_7 rfl rfl rfl rfl ?_
    refine k_gR hK dX12_swaps_8 lf_X12_118 rfl (sc_80 hs) (sf_80_68 hs) ?_
    refine k_ic hK dX12_swaps_11 ci_4 ?_
    refine k_ld hK 1 dX12_swaps_12 rfl rfl rfl rfl ?_
    refine k_op hK dX12_swaps_13 rfl rfl ?_
    refine k_ld hK 3 dX12_swaps_14 rfl rfl rfl rfl ?_
    refine k_op hK dX12_swaps_15 rfl rfl ?_
    obtain ⟨n2, i3, j4, hF⟩ := hF
    refine k_lald hK dX12_swaps_16 (sc_115 hs) sn_115 (by decide) i3 j4 rfl ?_
    refine k_st hK dX12_swaps_17 rfl rfl rfl (Nat.le_of_ble_eq_true rfl) rfl ?_
    refine k_ld hK 1 dX12_swaps_19 rfl rfl rfl rfl ?_
    refine k_gR hK dX12_swaps_20 lf_X12_118 rfl (sc_80 hs) (sf_80_68 hs) ?_
    refine k_ic hK dX12_swaps_23 ci_4 ?_
    refine k_ld hK 2 dX12_swaps_24 rfl rfl rfl rfl ?_
    refine k_op hK dX12_swaps_25 rfl rfl ?_
    refine k_ld hK 4 dX12_swaps_26 rfl rfl rfl rfl ?_
    refine k_op hK dX12_swaps_27 rfl rfl ?_
    refine k_ld hK 1 dX12_swaps_28 rfl rfl rfl rfl ?_
    refine k_gR hK dX12_swaps_29 lf_X12_118 rfl (sc_80 hs) (sf_80_68 hs) ?_
    refine k_ic hK dX12_swaps_32 ci_4 ?_
    refine k_ld hK 3 dX12_swaps_33 rfl rfl rfl rfl ?_
    refine k_op hK dX12_swaps_34 rfl rfl ?_
    refine k_ld hK 4 dX12_swaps_35 rfl rfl rfl rfl ?_
    refine k_op hK dX12_swaps_36 rfl rfl ?_
    obtain ⟨n5, i6, j7, hF⟩ := hF
    refine k_lald hK dX12_swaps_37 (sc_115 hs) sn_115 (by decide) i6 j7 rfl ?_
    refine k_last hK dX12_swaps_38 (sc_115 hs) sn_115 (by decide) i3 j4 ?_
    refine k_ld hK 1 dX12_swaps_39 rfl rfl rfl rfl ?_
    refine k_gR hK dX12_swaps_40 lf_X12_118 rfl (sc_80 hs) (sf_80_68 hs) ?_
    refine k_ic hK dX12_swaps_43 ci_4 ?_
    refine k_ld hK 3 dX12_swaps_44 rfl rfl rfl rfl ?_
    refine k_op hK dX12_swaps_45 rfl rfl ?_
    refine k_ld hK 4 dX12_swaps_46 rfl rfl rfl rfl ?_
    refine k_op hK dX12_swaps_47 rfl rfl ?_
    refine k_ld hK 0 dX12_swaps_48 rfl rfl rfl rfl ?_
    refine k_last hK dX12_swaps_50 (sc_115 hs) sn_115 (by decide) i6 j7 ?_
    refine k_iinc hK 4 dX12_swaps_51 (v := (x3 + 1)) rfl (Nat.le_of_ble_eq_true rfl) (congrArg (fun q => x3 + q) ci_1) rfl ?_
    refine k_goto hK dX12_swaps_54 (tgt := 2) rfl ?_
    exact k_sub hK [2, 3, 4, 0] rfl hF
set_option maxHeartbeats 4000000 in
theorem g_X12_takesOff_0 {d : Nat} {K : KT} {Q : Unit → HI → HJ → Prop} {I : HI} {J : HJ} {R : HR} {x1 : Int32} {x2 : Int32} {x3 : Int32} {x4 : Int32} (hK : am_R M_X12_takesOff (am_W d) none R (qD fv R Q) K) (hs : Stat R)  (hF : K 5 [(0, .ref 80), (1, .int x1), (2, .int x2), (3, .int x3), (4, .int x4), (5, .int (x1 + 1))] [] I J R) : K 0 [(0, .ref 80), (1, .int x1), (2, .int x2), (3, .int x3), (4, .int x4)] [] I J R := by
  refine k_ld hK 1 dX12_takesOff_0 rfl rfl rfl rfl ?_
  refine k_ic hK dX12_takesOff_1 ci_1 ?_
  refine k_op hK dX12_takesOff_2 rfl rfl ?_
  refine k_st hK dX12_takesOff_3 rfl rfl rfl (Nat.le_of_ble_eq_true rfl) rfl ?_
  exact k_sub hK [1, 2, 3, 4, 5, 0] rfl hF
set_option maxHeartbeats 4000000 in
theorem g_X12_takesOff_5 {d : Nat} {K : KT} {Q : Unit → HI → HJ → Prop} {I : HI} {J : HJ} {R : HR} {x1 : Int32} {x2 : Int32} {x3 : Int32} {x4 : Int32} {x5 : Int32} (hK : am_R M_X12_takesOff (am_W d) none R (qD fv R Q) K) (hs : Stat R)  (hF : ((x2 ≤ x5 → Q () I J) ∧ (¬ x2 ≤ x5 → (∃ n2 : Nat, ((4 * x5) + x3) = nI n2 ∧ n2 < 80 ∧ (∃ n5 : Nat, ((4 * x1) + x3) = nI n5 ∧ n5 < 80 ∧ Wp fl d M_X12_parted [.long (J 115 n2), .long (J 115 n5)] I J R (fun r8 => K 40 [(0, .ref 80), (1, .int x1), (2, .int x2), (3, .int x3), (4, .int x4), (5, .int x5), (6, .long r8), (8, .int x3)] [] I J R)))))) : K 5 [(0, .ref 80), (1, .int x1), (2, .int x2), (3, .int x3), (4, .int x4), (5, .int x5)] [] I J R := by
  refine k_ld hK 5 dX12_takesOff_5 rfl rfl rfl rfl ?_
  refine k_ld hK 2 dX12_takesOff_7 rfl rfl rfl rfl ?_
  refine k_cge hK dX12_takesOff_8 (tgt := 105) rfl (fun h1 => ?_) (fun h1 => ?_)
  · have hF := hF.1 h1
    exact k_vret hK dX12_takesOff_105 rfl (done_0 rfl rfl) (qD_i hF)
  · have hF := hF.2 h1
    refine k_ld hK 0 dX12_takesOff_11 rfl rfl rfl rfl ?_
    refine k_gR hK dX12_takesOff_12 lf_X12_118 rfl (sc_80 hs) (sf_80_68 hs) ?_
    refine k_ic hK dX12_takesOff_15 ci_4 ?_
    refine k_ld hK 5 dX12_takesOff_16 rfl rfl rfl rfl ?_
    refine k_op hK dX12_takesOff_18 rfl rfl ?_
    refine k_ld hK 3 dX12_takesOff_19 rfl rfl rfl rfl ?_
    refine k_op hK dX12_takesOff_20 rfl rfl ?_
    obtain ⟨n2, i3, j4, hF⟩ := hF
    refine k_lald hK dX12_takesOff_21 (sc_115 hs) sn_115 (by decide) i3 j4 rfl ?_
    refine k_ld hK 0 dX12_takesOff_22 rfl rfl rfl rfl ?_
    refine k_gR hK dX12_takesOff_23 lf_X12_118 rfl (sc_80 hs) (sf_80_68 hs) ?_
    refine k_ic hK dX12_takesOff_26 ci_4 ?_
    refine k_ld hK 1 dX12_takesOff_27 rfl rfl rfl rfl ?_
    refine k_op hK dX12_takesOff_28 rfl rfl ?_
    refine k_ld hK 3 dX12_takesOff_29 rfl rfl rfl rfl ?_
    refine k_op hK dX12_takesOff_30 rfl rfl ?_
    obtain ⟨n5, i6, j7, hF⟩ := hF
    refine k_lald hK dX12_takesOff_31 (sc_115 hs) sn_115 (by decide) i6 j7 rfl ?_
    refine k_cSp hK dX12_takesOff_32 lm_X12_411 (As := [.long (J 115 n2), .long (J 115 n5)]) (S := []) rfl (Nat.le_of_ble_eq_true rfl) (fit_0 rfl rfl) rfl hF (fun r8 hF => ?_)
    show K _ _ [.long r8] _ _ _
    refine k_st hK dX12_takesOff_35 rfl rfl rfl (Nat.le_of_ble_eq_true rfl) rfl ?_
    refine k_ld hK 4 dX12_takesOff_37 rfl rfl rfl rfl ?_
    refine k_st hK dX12_takesOff_38 rfl rfl rfl (Nat.le_of_ble_eq_true rfl) rfl ?_
    exact k_sub hK [2, 3, 4, 5, 6, 7, 1, 0] rfl hF
set_option maxHeartbeats 4000000 in
theorem g_X12_takesOff_40 {d : Nat} {K : KT} {Q : Unit → HI → HJ → Prop} {I : HI} {J : HJ} {R : HR} {x1 : Int32} {x2 : Int32} {x3 : Int32} {x4 : Int32} {x5 : Int32} {z6 : Int64} {x8 : Int32} (hK : am_R M_X12_takesOff (am_W d) none R (qD fv R Q) K) (hs : Stat R)  (hF : ((x4 ≤ x8 → K 5 [(0, .ref 80), (1, .int x1), (2, .int x2), (3, .int x3), (4, .int x4), (5, .int (x5 + 1))] [] I J R) ∧ (¬ x4 ≤ x8 → (∃ n2 : Nat, ((4 * x5) + x8) = nI n2 ∧ n2 < 80 ∧ (∃ n5 : Nat, ((4 * x1) + x8) = nI n5 ∧ n5 < 80 ∧ Wp fl d M_X12_left [.long ((J 115 n2) - ((z6 * (J 115 n5)) - (z6 * (J 115 n5)) / (1000000007 : Int64) * (1000000007 : Int64)))] I J R (fun r8 => K 40 [(0, .ref 80), (1, .int x1), (2, .int x2), (3, .int x3), (4, .int x4), (5, .int x5), (6, .long z6), (8, .int (x8 + 1))] [] I (up J 115 n2 r8) R)))))) : K 40 [(0, .ref 80), (1, .int x1), (2, .int x2), (3, .int x3), (4, .int x4), (5, .int x5), (6, .long z6), (8, .int x8)] [] I J R := by
  refine k_ld hK 7 dX12_takesOff_40 rfl rfl rfl rfl ?_
  refine k_ld hK 4 dX12_takesOff_42 rfl rfl rfl rfl ?_
  refine k_cge hK dX12_takesOff_44 (tgt := 99) rfl (fun h1 => ?_) (fun h1 => ?_)
  · have hF := hF.1 h1
    refine k_iinc hK 5 dX12_takesOff_99 (v := (x5 + 1)) rfl (Nat.le_of_ble_eq_true rfl) (congrArg (fun q => x5 + q) ci_1) rfl ?_
    refine k_goto hK dX12_takesOff_102 (tgt := 5) rfl ?_
    exact k_sub hK [1, 2, 3, 4, 5, 0] rfl hF
  · have hF := hF.2 h1
    refine k_ld hK 0 dX12_takesOff_47 rfl rfl rfl rfl ?_
    refine k_gR hK dX12_takesOff_48 lf_X12_118 rfl (sc_80 hs) (sf_80_68 hs) ?_
    refine k_ic hK dX12_takesOff_51 ci_4 ?_
    refine k_ld hK 5 dX12_takesOff_52 rfl rfl rfl rfl ?_
    refine k_op hK dX12_takesOff_54 rfl rfl ?_
    refine k_ld hK 7 dX12_takesOff_55 rfl rfl rfl rfl ?_
    refine k_op hK dX12_takesOff_57 rfl rfl ?_
    refine k_ld hK 0 dX12_takesOff_58 rfl rfl rfl rfl ?_
    refine k_gR hK dX12_takesOff_59 lf_X12_118 rfl (sc_80 hs) (sf_80_68 hs) ?_
    refine k_ic hK dX12_takesOff_62 ci_4 ?_
    refine k_ld hK 5 dX12_takesOff_63 rfl rfl rfl rfl ?_
    refine k_op hK dX12_takesOff_65 rfl rfl ?_
    refine k_ld hK 7 dX12_takesOff_66 rfl rfl rfl rfl ?_
    refine k_op hK dX12_takesOff_68 rfl rfl ?_
    obtain ⟨n2, i3, j4, hF⟩ := hF
    refine k_lald hK dX12_takesOff_69 (sc_115 hs) sn_115 (by decide) i3 j4 rfl ?_
    refine k_ld hK 6 dX12_takesOff_70 rfl rfl rfl rfl ?_
    refine k_ld hK 0 dX12_takesOff_72 rfl rfl rfl rfl ?_
    refine k_gR hK dX12_takesOff_73 lf_X12_118 rfl (sc_80 hs) (sf_80_68 hs) ?_
    refine k_ic hK dX12_takesOff_76 ci_4 ?_
    refine k_ld hK 1 dX12_takesOff_77 rfl rfl rfl rfl ?_
    refine k_op hK dX12_takesOff_78 rfl rfl ?_
    refine k_ld hK 7 dX12_takesOff_79 rfl rfl rfl rfl ?_
    refine k_op hK dX12_takesOff_81 rfl rfl ?_
    obtain ⟨n5, i6, j7, hF⟩ := hF
    refine k_lald hK dX12_takesOff_82 (sc_115 hs) sn_115 (by decide) i6 j7 rfl ?_
    refine k_op hK dX12_takesOff_83 rfl rfl ?_
    refine k_ldc2 hK dX12_takesOff_84 lc_X12_338 ?_
    refine k_lrem hK dX12_takesOff_87 (by decide) ?_
    refine k_op hK dX12_takesOff_88 rfl rfl ?_
    refine k_cSp hK dX12_takesOff_89 lm_X12_408 (As := [.long ((J 115 n2) - ((z6 * (J 115 n5)) - (z6 * (J 115 n5)) / (1000000007 : Int64) * (1000000007 : Int64)))]) (S := [.int ((4 * x5) + x8), .ref 115]) rfl (Nat.le_of_ble_eq_true rfl) (fit_0 rfl rfl) rfl hF (fun r8 hF => ?_)
    show K _ _ [.long r8, .int ((4 * x5) + x8), .ref 115] _ _ _
    refine k_last hK dX12_takesOff_92 (sc_115 hs) sn_115 (by decide) i3 j4 ?_
    refine k_iinc hK 7 dX12_takesOff_93 (v := (x8 + 1)) rfl (Nat.le_of_ble_eq_true rfl) (congrArg (fun q => x8 + q) ci_1) rfl ?_
    refine k_goto hK dX12_takesOff_96 (tgt := 40) rfl ?_
    exact k_sub hK [1, 2, 3, 4, 5, 6, 7, 0] rfl hF
set_option maxHeartbeats 4000000 in
theorem g_X12_determinant_0 {d : Nat} {K : KT} {Q : Int32 → HI → HJ → Prop} {I : HI} {J : HJ} {R : HR} {x1 : Int32} (hK : am_R M_X12_determinant (am_W d) none R (qD fi R Q) K) (hs : Stat R)  (hF : ((x1 < 1 → Q (-1) (up I 80 0 0) J) ∧ (¬ x1 < 1 → ((4 < x1 → Q (-1) (up I 80 0 0) J) ∧ (¬ 4 < x1 → (((I 80 31) < x1 → Q (-1) (up I 80 0 0) J) ∧ (¬ (I 80 31) < x1 → ((x1 ≤ (I 80 54) → Wd fv d M_X12_laysSquare [.ref 80, .int x1, .int x1] (up I 80 0 0) J R (fun u5 I6 J7 => K 44 [(0, .ref 80), (1, .int x1), (2, .long (1 : Int64)), (4, .int 0)] [] I6 J7 R)) ∧ (¬ x1 ≤ (I 80 54) → Q (-1) (up I 80 0 0) J))))))))) : K 0 [(0, .ref 80), (1, .int x1)] [] I J R := by
  refine k_ld hK 0 dX12_determinant_0 rfl rfl rfl rfl ?_
  refine k_ic hK dX12_determinant_1 ci_0 ?_
  refine k_pI hK dX12_determinant_2 lf_X12_142 rfl rfl rfl (sc_80 hs) ?_
  refine k_ld hK 1 dX12_determinant_5 rfl rfl rfl rfl ?_
  refine k_ic hK dX12_determinant_6 ci_1 ?_
  refine k_clt hK dX12_determinant_7 (tgt := 31) rfl (fun h1 => ?_) (fun h1 => ?_)
  · have hF := hF.1 h1
    refine k_ic hK dX12_determinant_31 ci_m1 ?_
    exact k_iret hK dX12_determinant_32 rfl rfl (done_0 rfl rfl) (qD_i hF)
  · have hF := hF.2 h1
    refine k_ld hK 1 dX12_determinant_10 rfl rfl rfl rfl ?_
    refine k_ic hK dX12_determinant_11 ci_4 ?_
    refine k_cgt hK dX12_determinant_12 (tgt := 31) rfl (fun h2 => ?_) (fun h2 => ?_)
    · have hF := hF.1 h2
      refine k_ic hK dX12_determinant_31 ci_m1 ?_
      exact k_iret hK dX12_determinant_32 rfl rfl (done_0 rfl rfl) (qD_i hF)
    · have hF := hF.2 h2
      refine k_ld hK 1 dX12_determinant_15 rfl rfl rfl rfl ?_
      refine k_ld hK 0 dX12_determinant_16 rfl rfl rfl rfl ?_
      refine k_gI hK dX12_determinant_17 lf_X12_314 rfl (sc_80 hs) ((up_nk (by decide)).trans rfl) ?_
      refine k_cgt hK dX12_determinant_20 (tgt := 31) rfl (fun h3 => ?_) (fun h3 => ?_)
      · have hF := hF.1 h3
        refine k_ic hK dX12_determinant_31 ci_m1 ?_
        exact k_iret hK dX12_determinant_32 rfl rfl (done_0 rfl rfl) (qD_i hF)
      · have hF := hF.2 h3
        refine k_ld hK 1 dX12_determinant_23 rfl rfl rfl rfl ?_
        refine k_ld hK 0 dX12_determinant_24 rfl rfl rfl rfl ?_
        refine k_gI hK dX12_determinant_25 lf_X12_356 rfl (sc_80 hs) ((up_nk (by decide)).trans rfl) ?_
        refine k_cle hK dX12_determinant_28 (tgt := 33) rfl (fun h4 => ?_) (fun h4 => ?_)
        · have hF := hF.1 h4
          refine k_ld hK 0 dX12_determinant_33 rfl rfl rfl rfl ?_
          refine k_ld hK 1 dX12_determinant_34 rfl rfl rfl rfl ?_
          refine k_ld hK 1 dX12_determinant_35 rfl rfl rfl rfl ?_
          refine k_cVd hK dX12_determinant_36 (Or.inl lm_X12_473) (As := [.int x1, .int x1]) (S := []) rfl (sc_80 hs) (Nat.le_of_ble_eq_true rfl) (fit_0 rfl rfl) rfl hF (fun u5 I6 J7 hF => ?_)
          show K _ _ [] _ _ _
          refine k_lc hK dX12_determinant_39 cl_1 ?_
          refine k_st hK dX12_determinant_40 rfl rfl rfl (Nat.le_of_ble_eq_true rfl) rfl ?_
          refine k_ic hK dX12_determinant_41 ci_0 ?_
          refine k_st hK dX12_determinant_42 rfl rfl rfl (Nat.le_of_ble_eq_true rfl) rfl ?_
          exact k_sub hK [2, 3, 1, 0] rfl hF
        · have hF := hF.2 h4
          refine k_ic hK dX12_determinant_31 ci_m1 ?_
          exact k_iret hK dX12_determinant_32 rfl rfl (done_0 rfl rfl) (qD_i hF)
set_option maxHeartbeats 4000000 in
theorem g_X12_determinant_44 {d : Nat} {K : KT} {Q : Int32 → HI → HJ → Prop} {I : HI} {J : HJ} {R : HR} {x1 : Int32} {z2 : Int64} {x4 : Int32} (hK : am_R M_X12_determinant (am_W d) none R (qD fi R Q) K) (hs : Stat R)  (hF : ((x1 ≤ x4 → Q (Int64.toInt32 z2) I J) ∧ (¬ x1 ≤ x4 → Wp fi d M_X12_rowWith [.ref 80, .int x4, .int x1, .int x4] I J R (fun r2 => ((¬ r2 = (-1) → ((r2 = x4 → Wd fv d M_X12_takesOff [.ref 80, .int x4, .int x1, .int x4, .int x1] I J R (fun u5 I6 J7 => (∃ n8 : Nat, ((4 * x4) + x4) = nI n8 ∧ n8 < 80 ∧ K 44 [(0, .ref 80), (1, .int x1), (2, .long ((z2 * (J7 115 n8)) - (z2 * (J7 115 n8)) / (1000000007 : Int64) * (1000000007 : Int64))), (4, .int (x4 + 1))] [] I6 J7 R))) ∧ (¬ r2 = x4 → Wd fv d M_X12_swaps [.ref 80, .int r2, .int x4] I J R (fun u11 I12 J13 => Wp fl d M_X12_left [.long (-z2)] I12 J13 R (fun r14 => Wd fv d M_X12_takesOff [.ref 80, .int x4, .int x1, .int x4, .int x1] I12 J13 R (fun u15 I16 J17 => (∃ n18 : Nat, ((4 * x4) + x4) = nI n18 ∧ n18 < 80 ∧ K 44 [(0, .ref 80), (1, .int x1), (2, .long ((r14 * (J17 115 n18)) - (r14 * (J17 115 n18)) / (1000000007 : Int64) * (1000000007 : Int64))), (4, .int (x4 + 1))] [] I16 J17 R))))))) ∧ (r2 = (-1) → Q 0 I J)))))) : K 44 [(0, .ref 80), (1, .int x1), (2, .long z2), (4, .int x4)] [] I J R := by
  refine k_ld hK 3 dX12_determinant_44 rfl rfl rfl rfl ?_
  refine k_ld hK 1 dX12_determinant_46 rfl rfl rfl rfl ?_
  refine k_cge hK dX12_determinant_47 (tgt := 125) rfl (fun h1 => ?_) (fun h1 => ?_)
  · have hF := hF.1 h1
    refine k_ld hK 2 dX12_determinant_125 rfl rfl rfl rfl ?_
    refine k_op hK dX12_determinant_126 rfl rfl ?_
    exact k_iret hK dX12_determinant_127 rfl rfl (done_0 rfl rfl) (qD_i hF)
  · have hF := hF.2 h1
    refine k_ld hK 0 dX12_determinant_50 rfl rfl rfl rfl ?_
    refine k_ld hK 3 dX12_determinant_51 rfl rfl rfl rfl ?_
    refine k_ld hK 1 dX12_determinant_53 rfl rfl rfl rfl ?_
    refine k_ld hK 3 dX12_determinant_54 rfl rfl rfl rfl ?_
    refine k_cVp hK dX12_determinant_56 (Or.inl lm_X12_476) (As := [.int x4, .int x1, .int x4]) (S := []) rfl (sc_80 hs) (Nat.le_of_ble_eq_true rfl) (fit_0 rfl rfl) rfl hF (fun r2 hF => ?_)
    show K _ _ [.int r2] _ _ _
    refine k_st hK dX12_determinant_59 rfl rfl rfl (Nat.le_of_ble_eq_true rfl) rfl ?_
    refine k_ld hK 0 dX12_determinant_61 rfl rfl rfl rfl ?_
    refine k_ic hK dX12_determinant_63 ci_m1 ?_
    refine k_cne hK dX12_determinant_64 (tgt := 69) rfl (fun h3 => ?_) (fun h3 => ?_)
    · have hF := hF.1 h3
      refine k_ld hK 0 dX12_determinant_69 rfl rfl rfl rfl ?_
      refine k_ld hK 4 dX12_determinant_71 rfl rfl rfl rfl ?_
      refine k_ceq hK dX12_determinant_73 (tgt := 90) rfl (fun h4 => ?_) (fun h4 => ?_)
      · have hF := hF.1 h4
        refine k_ld hK 1 dX12_determinant_90 rfl rfl rfl rfl ?_
        refine k_ld hK 4 dX12_determinant_91 rfl rfl rfl rfl ?_
        refine k_ld hK 2 dX12_determinant_93 rfl rfl rfl rfl ?_
        refine k_ld hK 4 dX12_determinant_94 rfl rfl rfl rfl ?_
        refine k_ld hK 2 dX12_determinant_96 rfl rfl rfl rfl ?_
        refine k_cVd hK dX12_determinant_97 (Or.inl lm_X12_483) (As := [.int x4, .int x1, .int x4, .int x1]) (S := []) rfl (sc_80 hs) (Nat.le_of_ble_eq_true rfl) (fit_0 rfl rfl) rfl hF (fun u5 I6 J7 hF => ?_)
        show K _ _ [] _ _ _
        refine k_ld hK 3 dX12_determinant_100 rfl rfl rfl rfl ?_
        refine k_ld hK 1 dX12_determinant_101 rfl rfl rfl rfl ?_
        refine k_gR hK dX12_determinant_102 lf_X12_118 rfl (sc_80 hs) (sf_80_68 hs) ?_
        refine k_ic hK dX12_determinant_105 ci_4 ?_
        refine k_ld hK 4 dX12_determinant_106 rfl rfl rfl rfl ?_
        refine k_op hK dX12_determinant_108 rfl rfl ?_
        refine k_ld hK 4 dX12_determinant_109 rfl rfl rfl rfl ?_
        refine k_op hK dX12_determinant_111 rfl rfl ?_
        obtain ⟨n8, i9, j10, hF⟩ := hF
        refine k_lald hK dX12_determinant_112 (sc_115 hs) sn_115 (by decide) i9 j10 rfl ?_
        refine k_op hK dX12_determinant_113 rfl rfl ?_
        refine k_ldc2 hK dX12_determinant_114 lc_X12_338 ?_
        refine k_lrem hK dX12_determinant_117 (by decide) ?_
        refine k_st hK dX12_determinant_118 rfl rfl rfl (Nat.le_of_ble_eq_true rfl) rfl ?_
        refine k_iinc hK 4 dX12_determinant_119 (v := (x4 + 1)) rfl (Nat.le_of_ble_eq_true rfl) (congrArg (fun q => x4 + q) ci_1) rfl ?_
        refine k_goto hK dX12_determinant_122 (tgt := 44) rfl ?_
        exact k_sub hK [3, 4, 1, 0] rfl hF
      · have hF := hF.2 h4
        refine k_ld hK 1 dX12_determinant_76 rfl rfl rfl rfl ?_
        refine k_ld hK 0 dX12_determinant_77 rfl rfl rfl rfl ?_
        refine k_ld hK 4 dX12_determinant_79 rfl rfl rfl rfl ?_
        refine k_cVd hK dX12_determinant_81 (Or.inl lm_X12_480) (As := [.int r2, .int x4]) (S := []) rfl (sc_80 hs) (Nat.le_of_ble_eq_true rfl) (fit_0 rfl rfl) rfl hF (fun u11 I12 J13 hF => ?_)
        show K _ _ [] _ _ _
        refine k_ld hK 3 dX12_determinant_84 rfl rfl rfl rfl ?_
        refine k_op hK dX12_determinant_85 rfl rfl ?_
        refine k_cSp hK dX12_determinant_86 lm_X12_408 (As := [.long (-z2)]) (S := []) rfl (Nat.le_of_ble_eq_true rfl) (fit_0 rfl rfl) rfl hF (fun r14 hF => ?_)
        show K _ _ [.long r14] _ _ _
        refine k_st hK dX12_determinant_89 rfl rfl rfl (Nat.le_of_ble_eq_true rfl) rfl ?_
        refine k_ld hK 2 dX12_determinant_90 rfl rfl rfl rfl ?_
        refine k_ld hK 4 dX12_determinant_91 rfl rfl rfl rfl ?_
        refine k_ld hK 3 dX12_determinant_93 rfl rfl rfl rfl ?_
        refine k_ld hK 4 dX12_determinant_94 rfl rfl rfl rfl ?_
        refine k_ld hK 3 dX12_determinant_96 rfl rfl rfl rfl ?_
        refine k_cVd hK dX12_determinant_97 (Or.inl lm_X12_483) (As := [.int x4, .int x1, .int x4, .int x1]) (S := []) rfl (sc_80 hs) (Nat.le_of_ble_eq_true rfl) (fit_0 rfl rfl) rfl hF (fun u15 I16 J17 hF => ?_)
        show K _ _ [] _ _ _
        refine k_ld hK 0 dX12_determinant_100 rfl rfl rfl rfl ?_
        refine k_ld hK 2 dX12_determinant_101 rfl rfl rfl rfl ?_
        refine k_gR hK dX12_determinant_102 lf_X12_118 rfl (sc_80 hs) (sf_80_68 hs) ?_
        refine k_ic hK dX12_determinant_105 ci_4 ?_
        refine k_ld hK 4 dX12_determinant_106 rfl rfl rfl rfl ?_
        refine k_op hK dX12_determinant_108 rfl rfl ?_
        refine k_ld hK 4 dX12_determinant_109 rfl rfl rfl rfl ?_
        refine k_op hK dX12_determinant_111 rfl rfl ?_
        obtain ⟨n18, i19, j20, hF⟩ := hF
        refine k_lald hK dX12_determinant_112 (sc_115 hs) sn_115 (by decide) i19 j20 rfl ?_
        refine k_op hK dX12_determinant_113 rfl rfl ?_
        refine k_ldc2 hK dX12_determinant_114 lc_X12_338 ?_
        refine k_lrem hK dX12_determinant_117 (by decide) ?_
        refine k_st hK dX12_determinant_118 rfl rfl rfl (Nat.le_of_ble_eq_true rfl) rfl ?_
        refine k_iinc hK 4 dX12_determinant_119 (v := (x4 + 1)) rfl (Nat.le_of_ble_eq_true rfl) (congrArg (fun q => x4 + q) ci_1) rfl ?_
        refine k_goto hK dX12_determinant_122 (tgt := 44) rfl ?_
        exact k_sub hK [3, 4, 1, 0] rfl hF
    · have hF := hF.2 h3
      refine k_ic hK dX12_determinant_67 ci_0 ?_
      exact k_iret hK dX12_determinant_68 rfl rfl (done_0 rfl rfl) (qD_i hF)
set_option maxHeartbeats 4000000 in
theorem g_X12_rank_0 {d : Nat} {K : KT} {Q : Int32 → HI → HJ → Prop} {I : HI} {J : HJ} {R : HR}  (hK : am_R M_X12_rank (am_W d) none R (qD fi R Q) K) (hs : Stat R)  (hF : Wd fv d M_X12_laysSquare [.ref 80, .int (I 80 54), .int (I 80 31)] (up I 80 0 0) J R (fun u1 I2 J3 => K 21 [(0, .ref 80), (1, .int 0), (2, .int 0)] [] I2 J3 R)) : K 0 [(0, .ref 80)] [] I J R := by
  refine k_ld hK 0 dX12_rank_0 rfl rfl rfl rfl ?_
  refine k_ic hK dX12_rank_1 ci_0 ?_
  refine k_pI hK dX12_rank_2 lf_X12_142 rfl rfl rfl (sc_80 hs) ?_
  refine k_ld hK 0 dX12_rank_5 rfl rfl rfl rfl ?_
  refine k_ld hK 0 dX12_rank_6 rfl rfl rfl rfl ?_
  refine k_gI hK dX12_rank_7 lf_X12_356 rfl (sc_80 hs) ((up_nk (by decide)).trans rfl) ?_
  refine k_ld hK 0 dX12_rank_10 rfl rfl rfl rfl ?_
  refine k_gI hK dX12_rank_11 lf_X12_314 rfl (sc_80 hs) ((up_nk (by decide)).trans rfl) ?_
  refine k_cVd hK dX12_rank_14 (Or.inl lm_X12_473) (As := [.int (I 80 54), .int (I 80 31)]) (S := []) rfl (sc_80 hs) (Nat.le_of_ble_eq_true rfl) (fit_0 rfl rfl) rfl hF (fun u1 I2 J3 hF => ?_)
  show K _ _ [] _ _ _
  refine k_ic hK dX12_rank_17 ci_0 ?_
  refine k_st hK dX12_rank_18 rfl rfl rfl (Nat.le_of_ble_eq_true rfl) rfl ?_
  refine k_ic hK dX12_rank_19 ci_0 ?_
  refine k_st hK dX12_rank_20 rfl rfl rfl (Nat.le_of_ble_eq_true rfl) rfl ?_
  exact k_sub hK [2, 1, 0] rfl hF
set_option maxHeartbeats 4000000 in
theorem g_X12_rank_21 {d : Nat} {K : KT} {Q : Int32 → HI → HJ → Prop} {I : HI} {J : HJ} {R : HR} {x1 : Int32} {x2 : Int32} (hK : am_R M_X12_rank (am_W d) none R (qD fi R Q) K) (hs : Stat R)  (hF : (((I 80 31) ≤ x2 → Q x1 I J) ∧ (¬ (I 80 31) ≤ x2 → Wp fi d M_X12_rowWith [.ref 80, .int x1, .int (I 80 54), .int x2] I J R (fun r2 => ((¬ r2 = (-1) → ((r2 = x1 → Wd fv d M_X12_takesOff [.ref 80, .int x1, .int (I 80 54), .int x2, .int (I 80 31)] I J R (fun u5 I6 J7 => K 21 [(0, .ref 80), (1, .int (x1 + 1)), (2, .int (x2 + 1))] [] I6 J7 R)) ∧ (¬ r2 = x1 → Wd fv d M_X12_swaps [.ref 80, .int r2, .int x1] I J R (fun u8 I9 J10 => Wd fv d M_X12_takesOff [.ref 80, .int x1, .int (I9 80 54), .int x2, .int (I9 80 31)] I9 J10 R (fun u11 I12 J13 => K 21 [(0, .ref 80), (1, .int (x1 + 1)), (2, .int (x2 + 1))] [] I12 J13 R))))) ∧ (r2 = (-1) → K 21 [(0, .ref 80), (1, .int x1), (2, .int (x2 + 1))] [] I J R)))))) : K 21 [(0, .ref 80), (1, .int x1), (2, .int x2)] [] I J R := by
  refine k_ld hK 2 dX12_rank_21 rfl rfl rfl rfl ?_
  refine k_ld hK 0 dX12_rank_22 rfl rfl rfl rfl ?_
  refine k_gI hK dX12_rank_23 lf_X12_314 rfl (sc_80 hs) rfl ?_
  refine k_cge hK dX12_rank_26 (tgt := 82) rfl (fun h1 => ?_) (fun h1 => ?_)
  · have hF := hF.1 h1
    refine k_ld hK 1 dX12_rank_82 rfl rfl rfl rfl ?_
    exact k_iret hK dX12_rank_83 rfl rfl (done_0 rfl rfl) (qD_i hF)
  · have hF := hF.2 h1
    refine k_ld hK 0 dX12_rank_29 rfl rfl rfl rfl ?_
    refine k_ld hK 1 dX12_rank_30 rfl rfl rfl rfl ?_
    refine k_ld hK 0 dX12_rank_31 rfl rfl rfl rfl ?_
    refine k_gI hK dX12_rank_32 lf_X12_356 rfl (sc_80 hs) rfl ?_
    refine k_ld hK 2 dX12_rank_35 rfl rfl rfl rfl ?_
    refine k_cVp hK dX12_rank_36 (Or.inl lm_X12_476) (As := [.int x1, .int (I 80 54), .int x2]) (S := []) rfl (sc_80 hs) (Nat.le_of_ble_eq_true rfl) (fit_0 rfl rfl) rfl hF (fun r2 hF => ?_)
    show K _ _ [.int r2] _ _ _
    refine k_st hK dX12_rank_39 rfl rfl rfl (Nat.le_of_ble_eq_true rfl) rfl ?_
    refine k_ld hK 0 dX12_rank_40 rfl rfl rfl rfl ?_
    refine k_ic hK dX12_rank_41 ci_m1 ?_
    refine k_cne hK dX12_rank_42 (tgt := 48) rfl (fun h3 => ?_) (fun h3 => ?_)
    · have hF := hF.1 h3
      refine k_ld hK 0 dX12_rank_48 rfl rfl rfl rfl ?_
      refine k_ld hK 2 dX12_rank_49 rfl rfl rfl rfl ?_
      refine k_ceq hK dX12_rank_50 (tgt := 59) rfl (fun h4 => ?_) (fun h4 => ?_)
      · have hF := hF.1 h4
        refine k_ld hK 1 dX12_rank_59 rfl rfl rfl rfl ?_
        refine k_ld hK 2 dX12_rank_60 rfl rfl rfl rfl ?_
        refine k_ld hK 1 dX12_rank_61 rfl rfl rfl rfl ?_
        refine k_gI hK dX12_rank_62 lf_X12_356 rfl (sc_80 hs) rfl ?_
        refine k_ld hK 3 dX12_rank_65 rfl rfl rfl rfl ?_
        refine k_ld hK 1 dX12_rank_66 rfl rfl rfl rfl ?_
        refine k_gI hK dX12_rank_67 lf_X12_314 rfl (sc_80 hs) rfl ?_
        refine k_cVd hK dX12_rank_70 (Or.inl lm_X12_483) (As := [.int x1, .int (I 80 54), .int x2, .int (I 80 31)]) (S := []) rfl (sc_80 hs) (Nat.le_of_ble_eq_true rfl) (fit_0 rfl rfl) rfl hF (fun u5 I6 J7 hF => ?_)
        show K _ _ [] _ _ _
        refine k_iinc hK 2 dX12_rank_73 (v := (x1 + 1)) rfl (Nat.le_of_ble_eq_true rfl) (congrArg (fun q => x1 + q) ci_1) rfl ?_
        refine k_iinc hK 3 dX12_rank_76 (v := (x2 + 1)) rfl (Nat.le_of_ble_eq_true rfl) (congrArg (fun q => x2 + q) ci_1) rfl ?_
        refine k_goto hK dX12_rank_79 (tgt := 21) rfl ?_
        exact k_sub hK [3, 1, 0] rfl hF
      · have hF := hF.2 h4
        refine k_ld hK 1 dX12_rank_53 rfl rfl rfl rfl ?_
        refine k_ld hK 0 dX12_rank_54 rfl rfl rfl rfl ?_
        refine k_ld hK 2 dX12_rank_55 rfl rfl rfl rfl ?_
        refine k_cVd hK dX12_rank_56 (Or.inl lm_X12_480) (As := [.int r2, .int x1]) (S := []) rfl (sc_80 hs) (Nat.le_of_ble_eq_true rfl) (fit_0 rfl rfl) rfl hF (fun u8 I9 J10 hF => ?_)
        show K _ _ [] _ _ _
        refine k_ld hK 1 dX12_rank_59 rfl rfl rfl rfl ?_
        refine k_ld hK 2 dX12_rank_60 rfl rfl rfl rfl ?_
        refine k_ld hK 1 dX12_rank_61 rfl rfl rfl rfl ?_
        refine k_gI hK dX12_rank_62 lf_X12_356 rfl (sc_80 hs) rfl ?_
        refine k_ld hK 3 dX12_rank_65 rfl rfl rfl rfl ?_
        refine k_ld hK 1 dX12_rank_66 rfl rfl rfl rfl ?_
        refine k_gI hK dX12_rank_67 lf_X12_314 rfl (sc_80 hs) rfl ?_
        refine k_cVd hK dX12_rank_70 (Or.inl lm_X12_483) (As := [.int x1, .int (I9 80 54), .int x2, .int (I9 80 31)]) (S := []) rfl (sc_80 hs) (Nat.le_of_ble_eq_true rfl) (fit_0 rfl rfl) rfl hF (fun u11 I12 J13 hF => ?_)
        show K _ _ [] _ _ _
        refine k_iinc hK 2 dX12_rank_73 (v := (x1 + 1)) rfl (Nat.le_of_ble_eq_true rfl) (congrArg (fun q => x1 + q) ci_1) rfl ?_
        refine k_iinc hK 3 dX12_rank_76 (v := (x2 + 1)) rfl (Nat.le_of_ble_eq_true rfl) (congrArg (fun q => x2 + q) ci_1) rfl ?_
        refine k_goto hK dX12_rank_79 (tgt := 21) rfl ?_
        exact k_sub hK [3, 1, 0] rfl hF
    · have hF := hF.2 h3
      refine k_goto hK dX12_rank_45 (tgt := 76) rfl ?_
      refine k_iinc hK 3 dX12_rank_76 (v := (x2 + 1)) rfl (Nat.le_of_ble_eq_true rfl) (congrArg (fun q => x2 + q) ci_1) rfl ?_
      refine k_goto hK dX12_rank_79 (tgt := 21) rfl ?_
      exact k_sub hK [2, 3, 0] rfl hF
set_option maxHeartbeats 4000000 in
theorem g_X12_newton_0 {d : Nat} {K : KT} {Q : Int32 → HI → HJ → Prop} {I : HI} {J : HJ} {R : HR} {x1 : Int32} {x2 : Int32} {x3 : Int32} (hK : am_R M_X12_newton (am_W d) none R (qD fi R Q) K) (hs : Stat R)  (hF : Wp fb d M_X12_isOut [.ref 80, .int x1] (up I 80 0 0) J R (fun b1 => ((b1 = false → Q (-1) (up I 80 0 0) J) ∧ (b1 = true → Wp fb d M_X12_isInput [.ref 80, .int x2] (up I 80 0 0) J R (fun b3 => ((b3 = false → Q (-1) (up I 80 0 0) J) ∧ (b3 = true → ((x3 < 1 → Q (-1) (up I 80 0 0) J) ∧ (¬ x3 < 1 → ((x3 ≤ 20 → (∃ n7 : Nat, x2 = nI n7 ∧ n7 < 4 ∧ K 48 [(0, .ref 80), (1, .int x1), (2, .int x2), (3, .int x3), (4, .long (J 91 n7)), (6, .int 0), (7, .int 0)] [] (up I 80 0 0) J R)) ∧ (¬ x3 ≤ 20 → Q (-1) (up I 80 0 0) J))))))))))) : K 0 [(0, .ref 80), (1, .int x1), (2, .int x2), (3, .int x3)] [] I J R := by
  refine k_ld hK 0 dX12_newton_0 rfl rfl rfl rfl ?_
  refine k_ic hK dX12_newton_1 ci_0 ?_
  refine k_pI hK dX12_newton_2 lf_X12_142 rfl rfl rfl (sc_80 hs) ?_
  refine k_ld hK 0 dX12_newton_5 rfl rfl rfl rfl ?_
  refine k_ld hK 1 dX12_newton_6 rfl rfl rfl rfl ?_
  refine k_cVp hK dX12_newton_7 (Or.inl lm_X12_420) (As := [.int x1]) (S := []) rfl (sc_80 hs) (Nat.le_of_ble_eq_true rfl) (fit_0 rfl rfl) rfl hF (fun b1 hF => ?_)
  show K _ _ [.int (b2i b1)] _ _ _
  refine k_beq hK dX12_newton_10 (tgt := 32) rfl (fun h2 => ?_) (fun h2 => ?_)
  · have hF := hF.1 h2
    refine k_ic hK dX12_newton_32 ci_m1 ?_
    exact k_iret hK dX12_newton_33 rfl rfl (done_0 rfl rfl) (qD_i hF)
  · have hF := hF.2 h2
    refine k_ld hK 0 dX12_newton_13 rfl rfl rfl rfl ?_
    refine k_ld hK 2 dX12_newton_14 rfl rfl rfl rfl ?_
    refine k_cVp hK dX12_newton_15 (Or.inl lm_X12_438) (As := [.int x2]) (S := []) rfl (sc_80 hs) (Nat.le_of_ble_eq_true rfl) (fit_0 rfl rfl) rfl hF (fun b3 hF => ?_)
    show K _ _ [.int (b2i b3)] _ _ _
    refine k_beq hK dX12_newton_18 (tgt := 32) rfl (fun h4 => ?_) (fun h4 => ?_)
    · have hF := hF.1 h4
      refine k_ic hK dX12_newton_32 ci_m1 ?_
      exact k_iret hK dX12_newton_33 rfl rfl (done_0 rfl rfl) (qD_i hF)
    · have hF := hF.2 h4
      refine k_ld hK 3 dX12_newton_21 rfl rfl rfl rfl ?_
      refine k_ic hK dX12_newton_22 ci_1 ?_
      refine k_clt hK dX12_newton_23 (tgt := 32) rfl (fun h5 => ?_) (fun h5 => ?_)
      · have hF := hF.1 h5
        refine k_ic hK dX12_newton_32 ci_m1 ?_
        exact k_iret hK dX12_newton_33 rfl rfl (done_0 rfl rfl) (qD_i hF)
      · have hF := hF.2 h5
        refine k_ld hK 3 dX12_newton_26 rfl rfl rfl rfl ?_
        refine k_bi hK dX12_newton_27 cb_20 ?_
        refine k_cle hK dX12_newton_29 (tgt := 34) rfl (fun h6 => ?_) (fun h6 => ?_)
        · have hF := hF.1 h6
          refine k_ld hK 0 dX12_newton_34 rfl rfl rfl rfl ?_
          refine k_gR hK dX12_newton_35 lf_X12_44 rfl (sc_80 hs) (sf_80_36 hs) ?_
          refine k_ld hK 2 dX12_newton_38 rfl rfl rfl rfl ?_
          obtain ⟨n7, i8, j9, hF⟩ := hF
          refine k_lald hK dX12_newton_39 (sc_91 hs) sn_91 (by decide) i8 j9 rfl ?_
          refine k_st hK dX12_newton_40 rfl rfl rfl (Nat.le_of_ble_eq_true rfl) rfl ?_
          refine k_ic hK dX12_newton_42 ci_0 ?_
          refine k_st hK dX12_newton_43 rfl rfl rfl (Nat.le_of_ble_eq_true rfl) rfl ?_
          refine k_ic hK dX12_newton_45 ci_0 ?_
          refine k_st hK dX12_newton_46 rfl rfl rfl (Nat.le_of_ble_eq_true rfl) rfl ?_
          exact k_sub hK [3, 4, 5, 6, 2, 1, 0] rfl hF
        · have hF := hF.2 h6
          refine k_ic hK dX12_newton_32 ci_m1 ?_
          exact k_iret hK dX12_newton_33 rfl rfl (done_0 rfl rfl) (qD_i hF)
set_option maxHeartbeats 4000000 in
theorem g_X12_newton_48 {d : Nat} {K : KT} {Q : Int32 → HI → HJ → Prop} {I : HI} {J : HJ} {R : HR} {x1 : Int32} {x2 : Int32} {x3 : Int32} {z4 : Int64} {x6 : Int32} {x7 : Int32} (hK : am_R M_X12_newton (am_W d) none R (qD fi R Q) K) (hs : Stat R)  (hF : ((x3 ≤ x7 → (∃ n2 : Nat, x2 = nI n2 ∧ n2 < 4 ∧ Wd fv d M_X12_runs [.ref 80] I (up J 91 n2 z4) R (fun u5 I6 J7 => Q x6 I6 J7))) ∧ (¬ x3 ≤ x7 → ((x6 = (-2) → (∃ n9 : Nat, x2 = nI n9 ∧ n9 < 4 ∧ Wd fv d M_X12_runs [.ref 80] I (up J 91 n9 z4) R (fun u12 I13 J14 => Q x6 I13 J14))) ∧ (¬ x6 = (-2) → Wp fb d M_X12_isOut [.ref 80, .int x1] I J R (fun b15 => ((b15 = false → K 79 [(0, .ref 80), (1, .int x1), (2, .int x2), (3, .int x3), (4, .long z4), (7, .int x7)] [.long (0 : Int64)] I J R) ∧ (b15 = true → Wd fl d M_X12_riseOf [.ref 80, .int x1, .int x2] I J R (fun r17 I18 J19 => K 79 [(0, .ref 80), (1, .int x1), (2, .int x2), (3, .int x3), (4, .long z4), (7, .int x7)] [.long r17] I18 J19 R))))))))) : K 48 [(0, .ref 80), (1, .int x1), (2, .int x2), (3, .int x3), (4, .long z4), (6, .int x6), (7, .int x7)] [] I J R := by
  refine k_ld hK 6 dX12_newton_48 rfl rfl rfl rfl ?_
  refine k_ld hK 3 dX12_newton_50 rfl rfl rfl rfl ?_
  refine k_cge hK dX12_newton_51 (tgt := 141) rfl (fun h1 => ?_) (fun h1 => ?_)
  · have hF := hF.1 h1
    refine k_ld hK 0 dX12_newton_141 rfl rfl rfl rfl ?_
    refine k_gR hK dX12_newton_142 lf_X12_44 rfl (sc_80 hs) (sf_80_36 hs) ?_
    refine k_ld hK 2 dX12_newton_145 rfl rfl rfl rfl ?_
    refine k_ld hK 4 dX12_newton_146 rfl rfl rfl rfl ?_
    obtain ⟨n2, i3, j4, hF⟩ := hF
    refine k_last hK dX12_newton_148 (sc_91 hs) sn_91 (by decide) i3 j4 ?_
    refine k_ld hK 0 dX12_newton_149 rfl rfl rfl rfl ?_
    refine k_cVd hK dX12_newton_150 (Or.inl lm_X12_329) (As := []) (S := []) rfl (sc_80 hs) (Nat.le_of_ble_eq_true rfl) (fit_0 rfl rfl) rfl hF (fun u5 I6 J7 hF => ?_)
    show K _ _ [] _ _ _
    refine k_ld hK 5 dX12_newton_153 rfl rfl rfl rfl ?_
    exact k_iret hK dX12_newton_155 rfl rfl (done_0 rfl rfl) (qD_i hF)
  · have hF := hF.2 h1
    refine k_ld hK 5 dX12_newton_54 rfl rfl rfl rfl ?_
    refine k_bi hK dX12_newton_56 cb_m2 ?_
    refine k_ceq hK dX12_newton_58 (tgt := 141) rfl (fun h8 => ?_) (fun h8 => ?_)
    · have hF := hF.1 h8
      refine k_ld hK 0 dX12_newton_141 rfl rfl rfl rfl ?_
      refine k_gR hK dX12_newton_142 lf_X12_44 rfl (sc_80 hs) (sf_80_36 hs) ?_
      refine k_ld hK 2 dX12_newton_145 rfl rfl rfl rfl ?_
      refine k_ld hK 4 dX12_newton_146 rfl rfl rfl rfl ?_
      obtain ⟨n9, i10, j11, hF⟩ := hF
      refine k_last hK dX12_newton_148 (sc_91 hs) sn_91 (by decide) i10 j11 ?_
      refine k_ld hK 0 dX12_newton_149 rfl rfl rfl rfl ?_
      refine k_cVd hK dX12_newton_150 (Or.inl lm_X12_329) (As := []) (S := []) rfl (sc_80 hs) (Nat.le_of_ble_eq_true rfl) (fit_0 rfl rfl) rfl hF (fun u12 I13 J14 hF => ?_)
      show K _ _ [] _ _ _
      refine k_ld hK 5 dX12_newton_153 rfl rfl rfl rfl ?_
      exact k_iret hK dX12_newton_155 rfl rfl (done_0 rfl rfl) (qD_i hF)
    · have hF := hF.2 h8
      refine k_ld hK 0 dX12_newton_61 rfl rfl rfl rfl ?_
      refine k_ld hK 1 dX12_newton_62 rfl rfl rfl rfl ?_
      refine k_cVp hK dX12_newton_63 (Or.inl lm_X12_420) (As := [.int x1]) (S := []) rfl (sc_80 hs) (Nat.le_of_ble_eq_true rfl) (fit_0 rfl rfl) rfl hF (fun b15 hF => ?_)
      show K _ _ [.int (b2i b15)] _ _ _
      refine k_beq hK dX12_newton_66 (tgt := 78) rfl (fun h16 => ?_) (fun h16 => ?_)
      · have hF := hF.1 h16
        refine k_lc hK dX12_newton_78 cl_0 ?_
        exact k_sub hK [0, 1, 2, 3, 4, 6] rfl hF
      · have hF := hF.2 h16
        refine k_ld hK 0 dX12_newton_69 rfl rfl rfl rfl ?_
        refine k_ld hK 1 dX12_newton_70 rfl rfl rfl rfl ?_
        refine k_ld hK 2 dX12_newton_71 rfl rfl rfl rfl ?_
        refine k_cVd hK dX12_newton_72 (Or.inl lm_X12_457) (As := [.int x1, .int x2]) (S := []) rfl (sc_80 hs) (Nat.le_of_ble_eq_true rfl) (fit_0 rfl rfl) rfl hF (fun r17 I18 J19 hF => ?_)
        show K _ _ [.long r17] _ _ _
        refine k_goto hK dX12_newton_75 (tgt := 79) rfl ?_
        exact k_sub hK [0, 1, 2, 3, 4, 6] rfl hF
set_option maxHeartbeats 4000000 in
theorem g_X12_newton_79 {d : Nat} {K : KT} {Q : Int32 → HI → HJ → Prop} {I : HI} {J : HJ} {R : HR} {x1 : Int32} {x2 : Int32} {x3 : Int32} {z4 : Int64} {x7 : Int32} {w0 : Int64} (hK : am_R M_X12_newton (am_W d) none R (qD fi R Q) K) (hs : Stat R)  (hF : ((¬ w0 = (0 : Int64) → (∃ n2 : Nat, x2 = nI n2 ∧ n2 < 4 ∧ (∃ n5 : Nat, x1 = nI n5 ∧ n5 < 20 ∧ Wp fl d M_X12_parted [.long (J 105 n5), .long w0] I J R (fun r8 => Wp fl d M_X12_left [.long ((J 91 n2) - r8)] I J R (fun r9 => Wd fv d M_X12_runs [.ref 80] I (up J 91 n2 r9) R (fun u10 I11 J12 => K 48 [(0, .ref 80), (1, .int x1), (2, .int x2), (3, .int x3), (4, .long z4), (6, .int (Int64.toInt32 r9)), (7, .int (x7 + 1))] [] I11 J12 R)))))) ∧ (w0 = (0 : Int64) → K 48 [(0, .ref 80), (1, .int x1), (2, .int x2), (3, .int x3), (4, .long z4), (6, .int (-2)), (7, .int (x7 + 1))] [] I J R))) : K 79 [(0, .ref 80), (1, .int x1), (2, .int x2), (3, .int x3), (4, .long z4), (7, .int x7)] [.long w0] I J R := by
  refine k_st hK dX12_newton_79 rfl rfl rfl (Nat.le_of_ble_eq_true rfl) rfl ?_
  refine k_ld hK 0 dX12_newton_81 rfl rfl rfl rfl ?_
  refine k_lc hK dX12_newton_83 cl_0 ?_
  refine k_lne hK dX12_newton_84 dX12_newton_85 (tgt := 95) rfl (fun h1 => ?_) (fun h1 => ?_)
  · have hF := hF.1 h1
    refine k_ld hK 1 dX12_newton_95 rfl rfl rfl rfl ?_
    refine k_gR hK dX12_newton_96 lf_X12_44 rfl (sc_80 hs) (sf_80_36 hs) ?_
    refine k_ld hK 3 dX12_newton_99 rfl rfl rfl rfl ?_
    refine k_ld hK 1 dX12_newton_100 rfl rfl rfl rfl ?_
    refine k_gR hK dX12_newton_101 lf_X12_44 rfl (sc_80 hs) (sf_80_36 hs) ?_
    refine k_ld hK 3 dX12_newton_104 rfl rfl rfl rfl ?_
    obtain ⟨n2, i3, j4, hF⟩ := hF
    refine k_lald hK dX12_newton_105 (sc_91 hs) sn_91 (by decide) i3 j4 rfl ?_
    refine k_ld hK 1 dX12_newton_106 rfl rfl rfl rfl ?_
    refine k_gR hK dX12_newton_107 lf_X12_87 rfl (sc_80 hs) (sf_80_52 hs) ?_
    refine k_ld hK 2 dX12_newton_110 rfl rfl rfl rfl ?_
    obtain ⟨n5, i6, j7, hF⟩ := hF
    refine k_lald hK dX12_newton_111 (sc_105 hs) sn_105 (by decide) i6 j7 rfl ?_
    refine k_ld hK 0 dX12_newton_112 rfl rfl rfl rfl ?_
    refine k_cSp hK dX12_newton_114 lm_X12_411 (As := [.long (J 105 n5), .long w0]) (S := [.long (J 91 n2), .int x2, .ref 91]) rfl (Nat.le_of_ble_eq_true rfl) (fit_0 rfl rfl) rfl hF (fun r8 hF => ?_)
    show K _ _ [.long r8, .long (J 91 n2), .int x2, .ref 91] _ _ _
    refine k_op hK dX12_newton_117 rfl rfl ?_
    refine k_cSp hK dX12_newton_118 lm_X12_408 (As := [.long ((J 91 n2) - r8)]) (S := [.int x2, .ref 91]) rfl (Nat.le_of_ble_eq_true rfl) (fit_0 rfl rfl) rfl hF (fun r9 hF => ?_)
    show K _ _ [.long r9, .int x2, .ref 91] _ _ _
    refine k_last hK dX12_newton_121 (sc_91 hs) sn_91 (by decide) i3 j4 ?_
    refine k_ld hK 1 dX12_newton_122 rfl rfl rfl rfl ?_
    refine k_gR hK dX12_newton_123 lf_X12_44 rfl (sc_80 hs) (sf_80_36 hs) ?_
    refine k_ld hK 3 dX12_newton_126 rfl rfl rfl rfl ?_
    refine k_lald hK dX12_newton_127 (sc_91 hs) sn_91 (by decide) i3 j4 up_s ?_
    refine k_op hK dX12_newton_128 rfl rfl ?_
    refine k_st hK dX12_newton_129 rfl rfl rfl (Nat.le_of_ble_eq_true rfl) rfl ?_
    refine k_ld hK 2 dX12_newton_131 rfl rfl rfl rfl ?_
    refine k_cVd hK dX12_newton_132 (Or.inl lm_X12_329) (As := []) (S := []) rfl (sc_80 hs) (Nat.le_of_ble_eq_true rfl) (fit_0 rfl rfl) rfl hF (fun u10 I11 J12 hF => ?_)
    show K _ _ [] _ _ _
    refine k_iinc hK 7 dX12_newton_135 (v := (x7 + 1)) rfl (Nat.le_of_ble_eq_true rfl) (congrArg (fun q => x7 + q) ci_1) rfl ?_
    refine k_goto hK dX12_newton_138 (tgt := 48) rfl ?_
    exact k_sub hK [3, 4, 5, 6, 7, 1, 0] rfl hF
  · have hF := hF.2 h1
    refine k_bi hK dX12_newton_88 cb_m2 ?_
    refine k_st hK dX12_newton_90 rfl rfl rfl (Nat.le_of_ble_eq_true rfl) rfl ?_
    refine k_goto hK dX12_newton_92 (tgt := 135) rfl ?_
    refine k_iinc hK 7 dX12_newton_135 (v := (x7 + 1)) rfl (Nat.le_of_ble_eq_true rfl) (congrArg (fun q => x7 + q) ci_1) rfl ?_
    refine k_goto hK dX12_newton_138 (tgt := 48) rfl ?_
    exact k_sub hK [3, 4, 5, 6, 7, 1, 0] rfl hF
set_option maxHeartbeats 4000000 in
theorem g_X12_change_0 {d : Nat} {K : KT} {Q : Int32 → HI → HJ → Prop} {I : HI} {J : HJ} {R : HR} {x1 : Int32} {x2 : Int32} {x3 : Int32} (hK : am_R M_X12_change (am_W d) none R (qD fi R Q) K) (hs : Stat R)  (hF : Wp fb d M_X12_isOut [.ref 80, .int x1] (up I 80 0 0) J R (fun b1 => ((b1 = false → Q (-1) (up I 80 0 0) J) ∧ (b1 = true → Wp fb d M_X12_isInput [.ref 80, .int x2] (up I 80 0 0) J R (fun b3 => ((b3 = false → Q (-1) (up I 80 0 0) J) ∧ (b3 = true → ((x3 < (-1000000000) → Q (-1) (up I 80 0 0) J) ∧ (¬ x3 < (-1000000000) → ((x3 ≤ 1000000000 → (∃ n7 : Nat, x2 = nI n7 ∧ n7 < 4 ∧ (∃ n10 : Nat, x1 = nI n10 ∧ n10 < 20 ∧ Wp fl d M_X12_left [.long ((J 91 n7) + (Int32.toInt64 x3))] (up I 80 0 0) J R (fun r13 => Wd fv d M_X12_runs [.ref 80] (up I 80 0 0) (up J 91 n7 r13) R (fun u14 I15 J16 => Wp fb d M_X12_isOut [.ref 80, .int x1] I15 J16 R (fun b17 => ((b17 = false → Wd fv d M_X12_runs [.ref 80] I15 (up J16 91 n7 (J 91 n7)) R (fun u19 I20 J21 => Q (-2) I20 J21)) ∧ (b17 = true → Wp fl d M_X12_left [.long ((J16 105 n10) - (J 105 n10))] I15 J16 R (fun r22 => Wd fv d M_X12_runs [.ref 80] I15 (up J16 91 n7 (J 91 n7)) R (fun u23 I24 J25 => Q (Int64.toInt32 r22) I24 J25)))))))))) ∧ (¬ x3 ≤ 1000000000 → Q (-1) (up I 80 0 0) J))))))))))) : K 0 [(0, .ref 80), (1, .int x1), (2, .int x2), (3, .int x3)] [] I J R := by
  refine k_ld hK 0 dX12_change_0 rfl rfl rfl rfl ?_
  refine k_ic hK dX12_change_1 ci_0 ?_
  refine k_pI hK dX12_change_2 lf_X12_142 rfl rfl rfl (sc_80 hs) ?_
  refine k_ld hK 0 dX12_change_5 rfl rfl rfl rfl ?_
  refine k_ld hK 1 dX12_change_6 rfl rfl rfl rfl ?_
  refine k_cVp hK dX12_change_7 (Or.inl lm_X12_420) (As := [.int x1]) (S := []) rfl (sc_80 hs) (Nat.le_of_ble_eq_true rfl) (fit_0 rfl rfl) rfl hF (fun b1 hF => ?_)
  show K _ _ [.int (b2i b1)] _ _ _
  refine k_beq hK dX12_change_10 (tgt := 35) rfl (fun h2 => ?_) (fun h2 => ?_)
  · have hF := hF.1 h2
    refine k_ic hK dX12_change_35 ci_m1 ?_
    exact k_iret hK dX12_change_36 rfl rfl (done_0 rfl rfl) (qD_i hF)
  · have hF := hF.2 h2
    refine k_ld hK 0 dX12_change_13 rfl rfl rfl rfl ?_
    refine k_ld hK 2 dX12_change_14 rfl rfl rfl rfl ?_
    refine k_cVp hK dX12_change_15 (Or.inl lm_X12_438) (As := [.int x2]) (S := []) rfl (sc_80 hs) (Nat.le_of_ble_eq_true rfl) (fit_0 rfl rfl) rfl hF (fun b3 hF => ?_)
    show K _ _ [.int (b2i b3)] _ _ _
    refine k_beq hK dX12_change_18 (tgt := 35) rfl (fun h4 => ?_) (fun h4 => ?_)
    · have hF := hF.1 h4
      refine k_ic hK dX12_change_35 ci_m1 ?_
      exact k_iret hK dX12_change_36 rfl rfl (done_0 rfl rfl) (qD_i hF)
    · have hF := hF.2 h4
      refine k_ld hK 3 dX12_change_21 rfl rfl rfl rfl ?_
      refine k_ldcw hK dX12_change_22 lc_X12_414 ?_
      refine k_clt hK dX12_change_25 (tgt := 35) rfl (fun h5 => ?_) (fun h5 => ?_)
      · have hF := hF.1 h5
        refine k_ic hK dX12_change_35 ci_m1 ?_
        exact k_iret hK dX12_change_36 rfl rfl (done_0 rfl rfl) (qD_i hF)
      · have hF := hF.2 h5
        refine k_ld hK 3 dX12_change_28 rfl rfl rfl rfl ?_
        refine k_ldcw hK dX12_change_29 lc_X12_415 ?_
        refine k_cle hK dX12_change_32 (tgt := 37) rfl (fun h6 => ?_) (fun h6 => ?_)
        · have hF := hF.1 h6
          refine k_ld hK 0 dX12_change_37 rfl rfl rfl rfl ?_
          refine k_gR hK dX12_change_38 lf_X12_44 rfl (sc_80 hs) (sf_80_36 hs) ?_
          refine k_ld hK 2 dX12_change_41 rfl rfl rfl rfl ?_
          obtain ⟨n7, i8, j9, hF⟩ := hF
          refine k_lald hK dX12_change_42 (sc_91 hs) sn_91 (by decide) i8 j9 rfl ?_
          refine k_st hK dX12_change_43 rfl rfl rfl (Nat.le_of_ble_eq_true rfl) rfl ?_
          refine k_ld hK 1 dX12_change_45 rfl rfl rfl rfl ?_
          refine k_gR hK dX12_change_46 lf_X12_87 rfl (sc_80 hs) (sf_80_52 hs) ?_
          refine k_ld hK 2 dX12_change_49 rfl rfl rfl rfl ?_
          obtain ⟨n10, i11, j12, hF⟩ := hF
          refine k_lald hK dX12_change_50 (sc_105 hs) sn_105 (by decide) i11 j12 rfl ?_
          refine k_st hK dX12_change_51 rfl rfl rfl (Nat.le_of_ble_eq_true rfl) rfl ?_
          refine k_ld hK 2 dX12_change_53 rfl rfl rfl rfl ?_
          refine k_gR hK dX12_change_54 lf_X12_44 rfl (sc_80 hs) (sf_80_36 hs) ?_
          refine k_ld hK 4 dX12_change_57 rfl rfl rfl rfl ?_
          refine k_ld hK 1 dX12_change_58 rfl rfl rfl rfl ?_
          refine k_ld hK 5 dX12_change_60 rfl rfl rfl rfl ?_
          refine k_op hK dX12_change_61 rfl rfl ?_
          refine k_op hK dX12_change_62 rfl rfl ?_
          refine k_cSp hK dX12_change_63 lm_X12_408 (As := [.long ((J 91 n7) + (Int32.toInt64 x3))]) (S := [.int x2, .ref 91]) rfl (Nat.le_of_ble_eq_true rfl) (fit_0 rfl rfl) rfl hF (fun r13 hF => ?_)
          show K _ _ [.long r13, .int x2, .ref 91] _ _ _
          refine k_last hK dX12_change_66 (sc_91 hs) sn_91 (by decide) i8 j9 ?_
          refine k_ld hK 2 dX12_change_67 rfl rfl rfl rfl ?_
          refine k_cVd hK dX12_change_68 (Or.inl lm_X12_329) (As := []) (S := []) rfl (sc_80 hs) (Nat.le_of_ble_eq_true rfl) (fit_0 rfl rfl) rfl hF (fun u14 I15 J16 hF => ?_)
          show K _ _ [] _ _ _
          refine k_ld hK 2 dX12_change_71 rfl rfl rfl rfl ?_
          refine k_ld hK 3 dX12_change_72 rfl rfl rfl rfl ?_
          refine k_cVp hK dX12_change_73 (Or.inl lm_X12_420) (As := [.int x1]) (S := []) rfl (sc_80 hs) (Nat.le_of_ble_eq_true rfl) (fit_0 rfl rfl) rfl hF (fun b17 hF => ?_)
          show K _ _ [.int (b2i b17)] _ _ _
          refine k_beq hK dX12_change_76 (tgt := 95) rfl (fun h18 => ?_) (fun h18 => ?_)
          · have hF := hF.1 h18
            refine k_bi hK dX12_change_95 cb_m2 ?_
            refine k_st hK dX12_change_97 rfl rfl rfl (Nat.le_of_ble_eq_true rfl) rfl ?_
            refine k_ld hK 3 dX12_change_99 rfl rfl rfl rfl ?_
            refine k_gR hK dX12_change_100 lf_X12_44 rfl (sc_80 hs) (sf_80_36 hs) ?_
            refine k_ld hK 5 dX12_change_103 rfl rfl rfl rfl ?_
            refine k_ld hK 2 dX12_change_104 rfl rfl rfl rfl ?_
            refine k_last hK dX12_change_106 (sc_91 hs) sn_91 (by decide) i8 j9 ?_
            refine k_ld hK 3 dX12_change_107 rfl rfl rfl rfl ?_
            refine k_cVd hK dX12_change_108 (Or.inl lm_X12_329) (As := []) (S := []) rfl (sc_80 hs) (Nat.le_of_ble_eq_true rfl) (fit_0 rfl rfl) rfl hF (fun u19 I20 J21 hF => ?_)
            show K _ _ [] _ _ _
            refine k_ld hK 0 dX12_change_111 rfl rfl rfl rfl ?_
            exact k_iret hK dX12_change_113 rfl rfl (done_0 rfl rfl) (qD_i hF)
          · have hF := hF.2 h18
            refine k_ld hK 2 dX12_change_79 rfl rfl rfl rfl ?_
            refine k_gR hK dX12_change_80 lf_X12_87 rfl (sc_80 hs) (sf_80_52 hs) ?_
            refine k_ld hK 3 dX12_change_83 rfl rfl rfl rfl ?_
            refine k_lald hK dX12_change_84 (sc_105 hs) sn_105 (by decide) i11 j12 rfl ?_
            refine k_ld hK 0 dX12_change_85 rfl rfl rfl rfl ?_
            refine k_op hK dX12_change_87 rfl rfl ?_
            refine k_cSp hK dX12_change_88 lm_X12_408 (As := [.long ((J16 105 n10) - (J 105 n10))]) (S := []) rfl (Nat.le_of_ble_eq_true rfl) (fit_0 rfl rfl) rfl hF (fun r22 hF => ?_)
            show K _ _ [.long r22] _ _ _
            refine k_op hK dX12_change_91 rfl rfl ?_
            refine k_goto hK dX12_change_92 (tgt := 97) rfl ?_
            refine k_st hK dX12_change_97 rfl rfl rfl (Nat.le_of_ble_eq_true rfl) rfl ?_
            refine k_ld hK 3 dX12_change_99 rfl rfl rfl rfl ?_
            refine k_gR hK dX12_change_100 lf_X12_44 rfl (sc_80 hs) (sf_80_36 hs) ?_
            refine k_ld hK 5 dX12_change_103 rfl rfl rfl rfl ?_
            refine k_ld hK 2 dX12_change_104 rfl rfl rfl rfl ?_
            refine k_last hK dX12_change_106 (sc_91 hs) sn_91 (by decide) i8 j9 ?_
            refine k_ld hK 3 dX12_change_107 rfl rfl rfl rfl ?_
            refine k_cVd hK dX12_change_108 (Or.inl lm_X12_329) (As := []) (S := []) rfl (sc_80 hs) (Nat.le_of_ble_eq_true rfl) (fit_0 rfl rfl) rfl hF (fun u23 I24 J25 hF => ?_)
            show K _ _ [] _ _ _
            refine k_ld hK 0 dX12_change_111 rfl rfl rfl rfl ?_
            exact k_iret hK dX12_change_113 rfl rfl (done_0 rfl rfl) (qD_i hF)
        · have hF := hF.2 h6
          refine k_ic hK dX12_change_35 ci_m1 ?_
          exact k_iret hK dX12_change_36 rfl rfl (done_0 rfl rfl) (qD_i hF)
theorem e_X12_change {d : Nat} {Q : Int32 → HI → HJ → Prop} {I : HI} {J : HJ} {R : HR} {x1 : Int32} {x2 : Int32} {x3 : Int32} (hs : Stat R)  (hF : Wp fb d M_X12_isOut [.ref 80, .int x1] (up I 80 0 0) J R (fun b1 => ((b1 = false → Q (-1) (up I 80 0 0) J) ∧ (b1 = true → Wp fb d M_X12_isInput [.ref 80, .int x2] (up I 80 0 0) J R (fun b3 => ((b3 = false → Q (-1) (up I 80 0 0) J) ∧ (b3 = true → ((x3 < (-1000000000) → Q (-1) (up I 80 0 0) J) ∧ (¬ x3 < (-1000000000) → ((x3 ≤ 1000000000 → (∃ n7 : Nat, x2 = nI n7 ∧ n7 < 4 ∧ (∃ n10 : Nat, x1 = nI n10 ∧ n10 < 20 ∧ Wp fl d M_X12_left [.long ((J 91 n7) + (Int32.toInt64 x3))] (up I 80 0 0) J R (fun r13 => Wd fv d M_X12_runs [.ref 80] (up I 80 0 0) (up J 91 n7 r13) R (fun u14 I15 J16 => Wp fb d M_X12_isOut [.ref 80, .int x1] I15 J16 R (fun b17 => ((b17 = false → Wd fv d M_X12_runs [.ref 80] I15 (up J16 91 n7 (J 91 n7)) R (fun u19 I20 J21 => Q (-2) I20 J21)) ∧ (b17 = true → Wp fl d M_X12_left [.long ((J16 105 n10) - (J 105 n10))] I15 J16 R (fun r22 => Wd fv d M_X12_runs [.ref 80] I15 (up J16 91 n7 (J 91 n7)) R (fun u23 I24 J25 => Q (Int64.toInt32 r22) I24 J25)))))))))) ∧ (¬ x3 ≤ 1000000000 → Q (-1) (up I 80 0 0) J))))))))))) : Wd fi (d + 1) M_X12_change [.ref 80, .int x1, .int x2, .int x3] I J R Q := ⟨Nat.le_of_ble_eq_true rfl, fun K hK => g_X12_change_0 hK hs hF⟩
set_option maxHeartbeats 4000000 in
theorem g_X12_degree_0 {d : Nat} {K : KT} {Q : Int32 → HI → HJ → Prop} {I : HI} {J : HJ} {R : HR} {x1 : Int32} {x2 : Int32} (hK : am_R M_X12_degree (am_W d) none R (qD fi R Q) K) (hs : Stat R)  (hF : Wp fb d M_X12_isOut [.ref 80, .int x1] (up I 80 0 0) J R (fun b1 => ((b1 = false → Q (-1) (up I 80 0 0) J) ∧ (b1 = true → Wp fb d M_X12_isInput [.ref 80, .int x2] (up I 80 0 0) J R (fun b3 => ((b3 = true → (∃ n5 : Nat, x2 = nI n5 ∧ n5 < 4 ∧ K 36 [(0, .ref 80), (1, .int x1), (2, .int x2), (3, .long (J 91 n5)), (5, .int (b2i true)), (6, .int 0)] [] (up I 80 0 0) J R)) ∧ (b3 = false → Q (-1) (up I 80 0 0) J))))))) : K 0 [(0, .ref 80), (1, .int x1), (2, .int x2)] [] I J R := by
  refine k_ld hK 0 dX12_degree_0 rfl rfl rfl rfl ?_
  refine k_ic hK dX12_degree_1 ci_0 ?_
  refine k_pI hK dX12_degree_2 lf_X12_142 rfl rfl rfl (sc_80 hs) ?_
  refine k_ld hK 0 dX12_degree_5 rfl rfl rfl rfl ?_
  refine k_ld hK 1 dX12_degree_6 rfl rfl rfl rfl ?_
  refine k_cVp hK dX12_degree_7 (Or.inl lm_X12_420) (As := [.int x1]) (S := []) rfl (sc_80 hs) (Nat.le_of_ble_eq_true rfl) (fit_0 rfl rfl) rfl hF (fun b1 hF => ?_)
  show K _ _ [.int (b2i b1)] _ _ _
  refine k_beq hK dX12_degree_10 (tgt := 21) rfl (fun h2 => ?_) (fun h2 => ?_)
  · have hF := hF.1 h2
    refine k_ic hK dX12_degree_21 ci_m1 ?_
    exact k_iret hK dX12_degree_22 rfl rfl (done_0 rfl rfl) (qD_i hF)
  · have hF := hF.2 h2
    refine k_ld hK 0 dX12_degree_13 rfl rfl rfl rfl ?_
    refine k_ld hK 2 dX12_degree_14 rfl rfl rfl rfl ?_
    refine k_cVp hK dX12_degree_15 (Or.inl lm_X12_438) (As := [.int x2]) (S := []) rfl (sc_80 hs) (Nat.le_of_ble_eq_true rfl) (fit_0 rfl rfl) rfl hF (fun b3 hF => ?_)
    show K _ _ [.int (b2i b3)] _ _ _
    refine k_bne hK dX12_degree_18 (tgt := 23) rfl (fun h4 => ?_) (fun h4 => ?_)
    · have hF := hF.1 h4
      refine k_ld hK 0 dX12_degree_23 rfl rfl rfl rfl ?_
      refine k_gR hK dX12_degree_24 lf_X12_44 rfl (sc_80 hs) (sf_80_36 hs) ?_
      refine k_ld hK 2 dX12_degree_27 rfl rfl rfl rfl ?_
      obtain ⟨n5, i6, j7, hF⟩ := hF
      refine k_lald hK dX12_degree_28 (sc_91 hs) sn_91 (by decide) i6 j7 rfl ?_
      refine k_st hK dX12_degree_29 rfl rfl rfl (Nat.le_of_ble_eq_true rfl) rfl ?_
      refine k_ic hK dX12_degree_30 ci_1 ?_
      refine k_st hK dX12_degree_31 rfl rfl rfl (Nat.le_of_ble_eq_true rfl) rfl ?_
      refine k_ic hK dX12_degree_33 ci_0 ?_
      refine k_st hK dX12_degree_34 rfl rfl rfl (Nat.le_of_ble_eq_true rfl) rfl ?_
      exact k_sub hK [3, 4, 5, 2, 1, 0] rfl hF
    · have hF := hF.2 h4
      refine k_ic hK dX12_degree_21 ci_m1 ?_
      exact k_iret hK dX12_degree_22 rfl rfl (done_0 rfl rfl) (qD_i hF)
set_option maxHeartbeats 4000000 in
theorem g_X12_degree_36 {d : Nat} {K : KT} {Q : Int32 → HI → HJ → Prop} {I : HI} {J : HJ} {R : HR} {x1 : Int32} {x2 : Int32} {z3 : Int64} {y5 : Bool} {x6 : Int32} (hK : am_R M_X12_degree (am_W d) none R (qD fi R Q) K) (hs : Stat R)  (hF : ((10 < x6 → (∃ n2 : Nat, x2 = nI n2 ∧ n2 < 4 ∧ Wd fv d M_X12_runs [.ref 80] I (up J 91 n2 z3) R (fun u5 I6 J7 => ((y5 = false → Q (-2) I6 J7) ∧ (y5 = true → Wd fi d M_X12_degreeOf [.ref 80] I6 J7 R (fun r9 I10 J11 => Q r9 I10 J11)))))) ∧ (¬ 10 < x6 → Wp fl d M_X12_left [.long (z3 + (Int32.toInt64 x6))] I J R (fun r12 => (∃ n13 : Nat, x2 = nI n13 ∧ n13 < 4 ∧ Wd fv d M_X12_runs [.ref 80] I (up J 91 n13 r12) R (fun u16 I17 J18 => ((y5 = false → Wp fb d M_X12_isOut [.ref 80, .int x1] I17 J18 R (fun b20 => ((b20 = false → (∃ n22 : Nat, x6 = nI n22 ∧ n22 < 11 ∧ K 36 [(0, .ref 80), (1, .int x1), (2, .int x2), (3, .long z3), (5, .int (b2i false)), (6, .int (x6 + 1))] [] I17 (up J18 116 n22 (0 : Int64)) R)) ∧ (b20 = true → (∃ n25 : Nat, x1 = nI n25 ∧ n25 < 20 ∧ (∃ n28 : Nat, x6 = nI n28 ∧ n28 < 11 ∧ K 36 [(0, .ref 80), (1, .int x1), (2, .int x2), (3, .long z3), (5, .int (b2i false)), (6, .int (x6 + 1))] [] I17 (up J18 116 n28 (J18 105 n25)) R)))))) ∧ (y5 = true → Wp fb d M_X12_isOut [.ref 80, .int x1] I17 J18 R (fun b31 => ((b31 = false → Wp fb d M_X12_isOut [.ref 80, .int x1] I17 J18 R (fun b33 => ((b33 = false → (∃ n35 : Nat, x6 = nI n35 ∧ n35 < 11 ∧ K 36 [(0, .ref 80), (1, .int x1), (2, .int x2), (3, .long z3), (5, .int (b2i false)), (6, .int (x6 + 1))] [] I17 (up J18 116 n35 (0 : Int64)) R)) ∧ (b33 = true → (∃ n38 : Nat, x1 = nI n38 ∧ n38 < 20 ∧ (∃ n41 : Nat, x6 = nI n41 ∧ n41 < 11 ∧ K 36 [(0, .ref 80), (1, .int x1), (2, .int x2), (3, .long z3), (5, .int (b2i false)), (6, .int (x6 + 1))] [] I17 (up J18 116 n41 (J18 105 n38)) R)))))) ∧ (b31 = true → Wp fb d M_X12_isOut [.ref 80, .int x1] I17 J18 R (fun b44 => ((b44 = false → (∃ n46 : Nat, x6 = nI n46 ∧ n46 < 11 ∧ K 36 [(0, .ref 80), (1, .int x1), (2, .int x2), (3, .long z3), (5, .int (b2i true)), (6, .int (x6 + 1))] [] I17 (up J18 116 n46 (0 : Int64)) R)) ∧ (b44 = true → (∃ n49 : Nat, x1 = nI n49 ∧ n49 < 20 ∧ (∃ n52 : Nat, x6 = nI n52 ∧ n52 < 11 ∧ K 36 [(0, .ref 80), (1, .int x1), (2, .int x2), (3, .long z3), (5, .int (b2i true)), (6, .int (x6 + 1))] [] I17 (up J18 116 n52 (J18 105 n49)) R)))))))))))))))) : K 36 [(0, .ref 80), (1, .int x1), (2, .int x2), (3, .long z3), (5, .int (b2i y5)), (6, .int x6)] [] I J R := by
  refine k_ld hK 5 dX12_degree_36 rfl rfl rfl rfl ?_
  refine k_bi hK dX12_degree_38 cb_10 ?_
  refine k_cgt hK dX12_degree_40 (tgt := 112) rfl (fun h1 => ?_) (fun h1 => ?_)
  · have hF := hF.1 h1
    refine k_ld hK 0 dX12_degree_112 rfl rfl rfl rfl ?_
    refine k_gR hK dX12_degree_113 lf_X12_44 rfl (sc_80 hs) (sf_80_36 hs) ?_
    refine k_ld hK 2 dX12_degree_116 rfl rfl rfl rfl ?_
    refine k_ld hK 3 dX12_degree_117 rfl rfl rfl rfl ?_
    obtain ⟨n2, i3, j4, hF⟩ := hF
    refine k_last hK dX12_degree_118 (sc_91 hs) sn_91 (by decide) i3 j4 ?_
    refine k_ld hK 0 dX12_degree_119 rfl rfl rfl rfl ?_
    refine k_cVd hK dX12_degree_120 (Or.inl lm_X12_329) (As := []) (S := []) rfl (sc_80 hs) (Nat.le_of_ble_eq_true rfl) (fit_0 rfl rfl) rfl hF (fun u5 I6 J7 hF => ?_)
    show K _ _ [] _ _ _
    refine k_ld hK 4 dX12_degree_123 rfl rfl rfl rfl ?_
    refine k_beq hK dX12_degree_125 (tgt := 135) rfl (fun h8 => ?_) (fun h8 => ?_)
    · have hF := hF.1 h8
      refine k_bi hK dX12_degree_135 cb_m2 ?_
      exact k_iret hK dX12_degree_137 rfl rfl (done_0 rfl rfl) (qD_i hF)
    · have hF := hF.2 h8
      refine k_ld hK 0 dX12_degree_128 rfl rfl rfl rfl ?_
      refine k_cVd hK dX12_degree_129 (Or.inl lm_X12_487) (As := []) (S := []) rfl (sc_80 hs) (Nat.le_of_ble_eq_true rfl) (fit_0 rfl rfl) rfl hF (fun r9 I10 J11 hF => ?_)
      show K _ _ [.int r9] _ _ _
      refine k_goto hK dX12_degree_132 (tgt := 137) rfl ?_
      exact k_iret hK dX12_degree_137 rfl rfl (done_0 rfl rfl) (qD_i hF)
  · have hF := hF.2 h1
    refine k_ld hK 0 dX12_degree_43 rfl rfl rfl rfl ?_
    refine k_gR hK dX12_degree_44 lf_X12_44 rfl (sc_80 hs) (sf_80_36 hs) ?_
    refine k_ld hK 2 dX12_degree_47 rfl rfl rfl rfl ?_
    refine k_ld hK 3 dX12_degree_48 rfl rfl rfl rfl ?_
    refine k_ld hK 5 dX12_degree_49 rfl rfl rfl rfl ?_
    refine k_op hK dX12_degree_51 rfl rfl ?_
    refine k_op hK dX12_degree_52 rfl rfl ?_
    refine k_cSp hK dX12_degree_53 lm_X12_408 (As := [.long (z3 + (Int32.toInt64 x6))]) (S := [.int x2, .ref 91]) rfl (Nat.le_of_ble_eq_true rfl) (fit_0 rfl rfl) rfl hF (fun r12 hF => ?_)
    show K _ _ [.long r12, .int x2, .ref 91] _ _ _
    obtain ⟨n13, i14, j15, hF⟩ := hF
    refine k_last hK dX12_degree_56 (sc_91 hs) sn_91 (by decide) i14 j15 ?_
    refine k_ld hK 0 dX12_degree_57 rfl rfl rfl rfl ?_
    refine k_cVd hK dX12_degree_58 (Or.inl lm_X12_329) (As := []) (S := []) rfl (sc_80 hs) (Nat.le_of_ble_eq_true rfl) (fit_0 rfl rfl) rfl hF (fun u16 I17 J18 hF => ?_)
    show K _ _ [] _ _ _
    refine k_ld hK 4 dX12_degree_61 rfl rfl rfl rfl ?_
    refine k_beq hK dX12_degree_63 (tgt := 78) rfl (fun h19 => ?_) (fun h19 => ?_)
    · have hF := hF.1 h19
      refine k_ic hK dX12_degree_78 ci_0 ?_
      refine k_st hK dX12_degree_79 rfl rfl rfl (Nat.le_of_ble_eq_true rfl) rfl ?_
      refine k_ld hK 1 dX12_degree_81 rfl rfl rfl rfl ?_
      refine k_gR hK dX12_degree_82 lf_X12_121 rfl (sc_80 hs) (sf_80_69 hs) ?_
      refine k_ld hK 5 dX12_degree_85 rfl rfl rfl rfl ?_
      refine k_ld hK 1 dX12_degree_87 rfl rfl rfl rfl ?_
      refine k_ld hK 2 dX12_degree_88 rfl rfl rfl rfl ?_
      refine k_cVp hK dX12_degree_89 (Or.inl lm_X12_420) (As := [.int x1]) (S := [.int x6, .ref 116]) rfl (sc_80 hs) (Nat.le_of_ble_eq_true rfl) (fit_0 rfl rfl) rfl hF (fun b20 hF => ?_)
      show K _ _ [.int (b2i b20), .int x6, .ref 116] _ _ _
      refine k_beq hK dX12_degree_92 (tgt := 104) rfl (fun h21 => ?_) (fun h21 => ?_)
      · have hF := hF.1 h21
        refine k_lc hK dX12_degree_104 cl_0 ?_
        obtain ⟨n22, i23, j24, hF⟩ := hF
        refine k_last hK dX12_degree_105 (sc_116 hs) sn_116 (by decide) i23 j24 ?_
        refine k_iinc hK 5 dX12_degree_106 (v := (x6 + 1)) rfl (Nat.le_of_ble_eq_true rfl) (congrArg (fun q => x6 + q) ci_1) rfl ?_
        refine k_goto hK dX12_degree_109 (tgt := 36) rfl ?_
        exact k_sub hK [2, 3, 4, 5, 1, 0] rfl hF
      · have hF := hF.2 h21
        refine k_ld hK 1 dX12_degree_95 rfl rfl rfl rfl ?_
        refine k_gR hK dX12_degree_96 lf_X12_87 rfl (sc_80 hs) (sf_80_52 hs) ?_
        refine k_ld hK 2 dX12_degree_99 rfl rfl rfl rfl ?_
        obtain ⟨n25, i26, j27, hF⟩ := hF
        refine k_lald hK dX12_degree_100 (sc_105 hs) sn_105 (by decide) i26 j27 rfl ?_
        refine k_goto hK dX12_degree_101 (tgt := 105) rfl ?_
        obtain ⟨n28, i29, j30, hF⟩ := hF
        refine k_last hK dX12_degree_105 (sc_116 hs) sn_116 (by decide) i29 j30 ?_
        refine k_iinc hK 5 dX12_degree_106 (v := (x6 + 1)) rfl (Nat.le_of_ble_eq_true rfl) (congrArg (fun q => x6 + q) ci_1) rfl ?_
        refine k_goto hK dX12_degree_109 (tgt := 36) rfl ?_
        exact k_sub hK [2, 3, 4, 5, 1, 0] rfl hF
    · have hF := hF.2 h19
      refine k_ld hK 0 dX12_degree_66 rfl rfl rfl rfl ?_
      refine k_ld hK 1 dX12_degree_67 rfl rfl rfl rfl ?_
      refine k_cVp hK dX12_degree_68 (Or.inl lm_X12_420) (As := [.int x1]) (S := []) rfl (sc_80 hs) (Nat.le_of_ble_eq_true rfl) (fit_0 rfl rfl) rfl hF (fun b31 hF => ?_)
      show K _ _ [.int (b2i b31)] _ _ _
      refine k_beq hK dX12_degree_71 (tgt := 78) rfl (fun h32 => ?_) (fun h32 => ?_)
      · have hF := hF.1 h32
        refine k_ic hK dX12_degree_78 ci_0 ?_
        refine k_st hK dX12_degree_79 rfl rfl rfl (Nat.le_of_ble_eq_true rfl) rfl ?_
        refine k_ld hK 1 dX12_degree_81 rfl rfl rfl rfl ?_
        refine k_gR hK dX12_degree_82 lf_X12_121 rfl (sc_80 hs) (sf_80_69 hs) ?_
        refine k_ld hK 5 dX12_degree_85 rfl rfl rfl rfl ?_
        refine k_ld hK 1 dX12_degree_87 rfl rfl rfl rfl ?_
        refine k_ld hK 2 dX12_degree_88 rfl rfl rfl rfl ?_
        refine k_cVp hK dX12_degree_89 (Or.inl lm_X12_420) (As := [.int x1]) (S := [.int x6, .ref 116]) rfl (sc_80 hs) (Nat.le_of_ble_eq_true rfl) (fit_0 rfl rfl) rfl hF (fun b33 hF => ?_)
        show K _ _ [.int (b2i b33), .int x6, .ref 116] _ _ _
        refine k_beq hK dX12_degree_92 (tgt := 104) rfl (fun h34 => ?_) (fun h34 => ?_)
        · have hF := hF.1 h34
          refine k_lc hK dX12_degree_104 cl_0 ?_
          obtain ⟨n35, i36, j37, hF⟩ := hF
          refine k_last hK dX12_degree_105 (sc_116 hs) sn_116 (by decide) i36 j37 ?_
          refine k_iinc hK 5 dX12_degree_106 (v := (x6 + 1)) rfl (Nat.le_of_ble_eq_true rfl) (congrArg (fun q => x6 + q) ci_1) rfl ?_
          refine k_goto hK dX12_degree_109 (tgt := 36) rfl ?_
          exact k_sub hK [2, 3, 4, 5, 1, 0] rfl hF
        · have hF := hF.2 h34
          refine k_ld hK 1 dX12_degree_95 rfl rfl rfl rfl ?_
          refine k_gR hK dX12_degree_96 lf_X12_87 rfl (sc_80 hs) (sf_80_52 hs) ?_
          refine k_ld hK 2 dX12_degree_99 rfl rfl rfl rfl ?_
          obtain ⟨n38, i39, j40, hF⟩ := hF
          refine k_lald hK dX12_degree_100 (sc_105 hs) sn_105 (by decide) i39 j40 rfl ?_
          refine k_goto hK dX12_degree_101 (tgt := 105) rfl ?_
          obtain ⟨n41, i42, j43, hF⟩ := hF
          refine k_last hK dX12_degree_105 (sc_116 hs) sn_116 (by decide) i42 j43 ?_
          refine k_iinc hK 5 dX12_degree_106 (v := (x6 + 1)) rfl (Nat.le_of_ble_eq_true rfl) (congrArg (fun q => x6 + q) ci_1) rfl ?_
          refine k_goto hK dX12_degree_109 (tgt := 36) rfl ?_
          exact k_sub hK [2, 3, 4, 5, 1, 0] rfl hF
      · have hF := hF.2 h32
        refine k_ic hK dX12_degree_74 ci_1 ?_
        refine k_goto hK dX12_degree_75 (tgt := 79) rfl ?_
        refine k_st hK dX12_degree_79 rfl rfl rfl (Nat.le_of_ble_eq_true rfl) rfl ?_
        refine k_ld hK 1 dX12_degree_81 rfl rfl rfl rfl ?_
        refine k_gR hK dX12_degree_82 lf_X12_121 rfl (sc_80 hs) (sf_80_69 hs) ?_
        refine k_ld hK 5 dX12_degree_85 rfl rfl rfl rfl ?_
        refine k_ld hK 1 dX12_degree_87 rfl rfl rfl rfl ?_
        refine k_ld hK 2 dX12_degree_88 rfl rfl rfl rfl ?_
        refine k_cVp hK dX12_degree_89 (Or.inl lm_X12_420) (As := [.int x1]) (S := [.int x6, .ref 116]) rfl (sc_80 hs) (Nat.le_of_ble_eq_true rfl) (fit_0 rfl rfl) rfl hF (fun b44 hF => ?_)
        show K _ _ [.int (b2i b44), .int x6, .ref 116] _ _ _
        refine k_beq hK dX12_degree_92 (tgt := 104) rfl (fun h45 => ?_) (fun h45 => ?_)
        · have hF := hF.1 h45
          refine k_lc hK dX12_degree_104 cl_0 ?_
          obtain ⟨n46, i47, j48, hF⟩ := hF
          refine k_last hK dX12_degree_105 (sc_116 hs) sn_116 (by decide) i47 j48 ?_
          refine k_iinc hK 5 dX12_degree_106 (v := (x6 + 1)) rfl (Nat.le_of_ble_eq_true rfl) (congrArg (fun q => x6 + q) ci_1) rfl ?_
          refine k_goto hK dX12_degree_109 (tgt := 36) rfl ?_
          exact k_sub hK [2, 3, 4, 5, 1, 0] rfl hF
        · have hF := hF.2 h45
          refine k_ld hK 1 dX12_degree_95 rfl rfl rfl rfl ?_
          refine k_gR hK dX12_degree_96 lf_X12_87 rfl (sc_80 hs) (sf_80_52 hs) ?_
          refine k_ld hK 2 dX12_degree_99 rfl rfl rfl rfl ?_
          obtain ⟨n49, i50, j51, hF⟩ := hF
          refine k_lald hK dX12_degree_100 (sc_105 hs) sn_105 (by decide) i50 j51 rfl ?_
          refine k_goto hK dX12_degree_101 (tgt := 105) rfl ?_
          obtain ⟨n52, i53, j54, hF⟩ := hF
          refine k_last hK dX12_degree_105 (sc_116 hs) sn_116 (by decide) i53 j54 ?_
          refine k_iinc hK 5 dX12_degree_106 (v := (x6 + 1)) rfl (Nat.le_of_ble_eq_true rfl) (congrArg (fun q => x6 + q) ci_1) rfl ?_
          refine k_goto hK dX12_degree_109 (tgt := 36) rfl ?_
          exact k_sub hK [2, 3, 4, 5, 1, 0] rfl hF
set_option maxHeartbeats 4000000 in
theorem g_X12_degreeOf_0 {d : Nat} {K : KT} {Q : Int32 → HI → HJ → Prop} {I : HI} {J : HJ} {R : HR}  (hK : am_R M_X12_degreeOf (am_W d) none R (qD fi R Q) K) (hs : Stat R)  (hF : K 2 [(0, .ref 80), (1, .int 0)] [] I J R) : K 0 [(0, .ref 80)] [] I J R := by
  refine k_ic hK dX12_degreeOf_0 ci_0 ?_
  refine k_st hK dX12_degreeOf_1 rfl rfl rfl (Nat.le_of_ble_eq_true rfl) rfl ?_
  exact k_sub hK [1, 0] rfl hF
set_option maxHeartbeats 4000000 in
theorem g_X12_degreeOf_2 {d : Nat} {K : KT} {Q : Int32 → HI → HJ → Prop} {I : HI} {J : HJ} {R : HR} {x1 : Int32} (hK : am_R M_X12_degreeOf (am_W d) none R (qD fi R Q) K) (hs : Stat R)  (hF : ((8 < x1 → Q (-2) I J) ∧ (¬ 8 < x1 → K 12 [(0, .ref 80), (1, .int x1), (2, .int (b2i true)), (3, .int 0)] [] I J R))) : K 2 [(0, .ref 80), (1, .int x1)] [] I J R := by
  refine k_ld hK 1 dX12_degreeOf_2 rfl rfl rfl rfl ?_
  refine k_bi hK dX12_degreeOf_3 cb_8 ?_
  refine k_cgt hK dX12_degreeOf_5 (tgt := 83) rfl (fun h1 => ?_) (fun h1 => ?_)
  · have hF := hF.1 h1
    refine k_bi hK dX12_degreeOf_83 cb_m2 ?_
    exact k_iret hK dX12_degreeOf_85 rfl rfl (done_0 rfl rfl) (qD_i hF)
  · have hF := hF.2 h1
    refine k_ic hK dX12_degreeOf_8 ci_1 ?_
    refine k_st hK dX12_degreeOf_9 rfl rfl rfl (Nat.le_of_ble_eq_true rfl) rfl ?_
    refine k_ic hK dX12_degreeOf_10 ci_0 ?_
    refine k_st hK dX12_degreeOf_11 rfl rfl rfl (Nat.le_of_ble_eq_true rfl) rfl ?_
    exact k_sub hK [2, 3, 1, 0] rfl hF
set_option maxHeartbeats 4000000 in
theorem g_X12_degreeOf_12 {d : Nat} {K : KT} {Q : Int32 → HI → HJ → Prop} {I : HI} {J : HJ} {R : HR} {x1 : Int32} {y2 : Bool} {x3 : Int32} (hK : am_R M_X12_degreeOf (am_W d) none R (qD fi R Q) K) (hs : Stat R)  (hF : (((10 - x1) ≤ x3 → ((y2 = false → K 2 [(0, .ref 80), (1, .int (x1 + 1))] [] I J R) ∧ (y2 = true → Q x1 I J))) ∧ (¬ (10 - x1) ≤ x3 → (∃ n3 : Nat, (x3 + 1) = nI n3 ∧ n3 < 11 ∧ (∃ n6 : Nat, x3 = nI n6 ∧ n6 < 11 ∧ Wp fl d M_X12_left [.long ((J 116 n3) - (J 116 n6))] I J R (fun r9 => ((y2 = false → K 12 [(0, .ref 80), (1, .int x1), (2, .int (b2i false)), (3, .int (x3 + 1))] [] I (up J 116 n6 r9) R) ∧ (y2 = true → ((¬ r9 = (0 : Int64) → K 12 [(0, .ref 80), (1, .int x1), (2, .int (b2i false)), (3, .int (x3 + 1))] [] I (up J 116 n6 r9) R) ∧ (r9 = (0 : Int64) → K 12 [(0, .ref 80), (1, .int x1), (2, .int (b2i true)), (3, .int (x3 + 1))] [] I (up J 116 n6 r9) R)))))))))) : K 12 [(0, .ref 80), (1, .int x1), (2, .int (b2i y2)), (3, .int x3)] [] I J R := by
  refine k_ld hK 3 dX12_degreeOf_12 rfl rfl rfl rfl ?_
  refine k_bi hK dX12_degreeOf_13 cb_10 ?_
  refine k_ld hK 1 dX12_degreeOf_15 rfl rfl rfl rfl ?_
  refine k_op hK dX12_degreeOf_16 rfl rfl ?_
  refine k_cge hK dX12_degreeOf_17 (tgt := 71) rfl (fun h1 => ?_) (fun h1 => ?_)
  · have hF := hF.1 h1
    refine k_ld hK 2 dX12_degreeOf_71 rfl rfl rfl rfl ?_
    refine k_beq hK dX12_degreeOf_72 (tgt := 77) rfl (fun h2 => ?_) (fun h2 => ?_)
    · have hF := hF.1 h2
      refine k_iinc hK 1 dX12_degreeOf_77 (v := (x1 + 1)) rfl (Nat.le_of_ble_eq_true rfl) (congrArg (fun q => x1 + q) ci_1) rfl ?_
      refine k_goto hK dX12_degreeOf_80 (tgt := 2) rfl ?_
      exact k_sub hK [1, 0] rfl hF
    · have hF := hF.2 h2
      refine k_ld hK 1 dX12_degreeOf_75 rfl rfl rfl rfl ?_
      exact k_iret hK dX12_degreeOf_76 rfl rfl (done_0 rfl rfl) (qD_i hF)
  · have hF := hF.2 h1
    refine k_ld hK 0 dX12_degreeOf_20 rfl rfl rfl rfl ?_
    refine k_gR hK dX12_degreeOf_21 lf_X12_121 rfl (sc_80 hs) (sf_80_69 hs) ?_
    refine k_ld hK 3 dX12_degreeOf_24 rfl rfl rfl rfl ?_
    refine k_ld hK 0 dX12_degreeOf_25 rfl rfl rfl rfl ?_
    refine k_gR hK dX12_degreeOf_26 lf_X12_121 rfl (sc_80 hs) (sf_80_69 hs) ?_
    refine k_ld hK 3 dX12_degreeOf_29 rfl rfl rfl rfl ?_
    refine k_ic hK dX12_degreeOf_30 ci_1 ?_
    refine k_op hK dX12_degreeOf_31 rfl rfl ?_
    obtain ⟨n3, i4, j5, hF⟩ := hF
    refine k_lald hK dX12_degreeOf_32 (sc_116 hs) sn_116 (by decide) i4 j5 rfl ?_
    refine k_ld hK 0 dX12_degreeOf_33 rfl rfl rfl rfl ?_
    refine k_gR hK dX12_degreeOf_34 lf_X12_121 rfl (sc_80 hs) (sf_80_69 hs) ?_
    refine k_ld hK 3 dX12_degreeOf_37 rfl rfl rfl rfl ?_
    obtain ⟨n6, i7, j8, hF⟩ := hF
    refine k_lald hK dX12_degreeOf_38 (sc_116 hs) sn_116 (by decide) i7 j8 rfl ?_
    refine k_op hK dX12_degreeOf_39 rfl rfl ?_
    refine k_cSp hK dX12_degreeOf_40 lm_X12_408 (As := [.long ((J 116 n3) - (J 116 n6))]) (S := [.int x3, .ref 116]) rfl (Nat.le_of_ble_eq_true rfl) (fit_0 rfl rfl) rfl hF (fun r9 hF => ?_)
    show K _ _ [.long r9, .int x3, .ref 116] _ _ _
    refine k_last hK dX12_degreeOf_43 (sc_116 hs) sn_116 (by decide) i7 j8 ?_
    refine k_ld hK 2 dX12_degreeOf_44 rfl rfl rfl rfl ?_
    refine k_beq hK dX12_degreeOf_45 (tgt := 63) rfl (fun h10 => ?_) (fun h10 => ?_)
    · have hF := hF.1 h10
      refine k_ic hK dX12_degreeOf_63 ci_0 ?_
      refine k_st hK dX12_degreeOf_64 rfl rfl rfl (Nat.le_of_ble_eq_true rfl) rfl ?_
      refine k_iinc hK 3 dX12_degreeOf_65 (v := (x3 + 1)) rfl (Nat.le_of_ble_eq_true rfl) (congrArg (fun q => x3 + q) ci_1) rfl ?_
      refine k_goto hK dX12_degreeOf_68 (tgt := 12) rfl ?_
      exact k_sub hK [2, 3, 1, 0] rfl hF
    · have hF := hF.2 h10
      refine k_ld hK 0 dX12_degreeOf_48 rfl rfl rfl rfl ?_
      refine k_gR hK dX12_degreeOf_49 lf_X12_121 rfl (sc_80 hs) (sf_80_69 hs) ?_
      refine k_ld hK 3 dX12_degreeOf_52 rfl rfl rfl rfl ?_
      refine k_lald hK dX12_degreeOf_53 (sc_116 hs) sn_116 (by decide) i7 j8 up_s ?_
      refine k_lc hK dX12_degreeOf_54 cl_0 ?_
      refine k_lne hK dX12_degreeOf_55 dX12_degreeOf_56 (tgt := 63) rfl (fun h11 => ?_) (fun h11 => ?_)
      · have hF := hF.1 h11
        refine k_ic hK dX12_degreeOf_63 ci_0 ?_
        refine k_st hK dX12_degreeOf_64 rfl rfl rfl (Nat.le_of_ble_eq_true rfl) rfl ?_
        refine k_iinc hK 3 dX12_degreeOf_65 (v := (x3 + 1)) rfl (Nat.le_of_ble_eq_true rfl) (congrArg (fun q => x3 + q) ci_1) rfl ?_
        refine k_goto hK dX12_degreeOf_68 (tgt := 12) rfl ?_
        exact k_sub hK [2, 3, 1, 0] rfl hF
      · have hF := hF.2 h11
        refine k_ic hK dX12_degreeOf_59 ci_1 ?_
        refine k_goto hK dX12_degreeOf_60 (tgt := 64) rfl ?_
        refine k_st hK dX12_degreeOf_64 rfl rfl rfl (Nat.le_of_ble_eq_true rfl) rfl ?_
        refine k_iinc hK 3 dX12_degreeOf_65 (v := (x3 + 1)) rfl (Nat.le_of_ble_eq_true rfl) (congrArg (fun q => x3 + q) ci_1) rfl ?_
        refine k_goto hK dX12_degreeOf_68 (tgt := 12) rfl ?_
        exact k_sub hK [2, 3, 1, 0] rfl hF
set_option maxHeartbeats 4000000 in
theorem g_X12_isOther_0 {d : Nat} {K : KT} {Q : Bool → Prop} {I : HI} {J : HJ} {R : HR} {x1 : Int32} (hK : am_R M_X12_isOther (am_W d) none R (qP fb I J R Q) K) (hs : Stat R)  (hF : ((x1 = (I 80 56) → K 12 [(0, .ref 80), (1, .int x1), (2, .int 0)] [] I J R) ∧ (¬ x1 = (I 80 56) → Q true))) : K 0 [(0, .ref 80), (1, .int x1)] [] I J R := by
  refine k_ld hK 1 dX12_isOther_0 rfl rfl rfl rfl ?_
  refine k_ld hK 0 dX12_isOther_1 rfl rfl rfl rfl ?_
  refine k_gI hK dX12_isOther_2 lf_X12_359 rfl (sc_80 hs) rfl ?_
  refine k_ceq hK dX12_isOther_5 (tgt := 10) rfl (fun h1 => ?_) (fun h1 => ?_)
  · have hF := hF.1 h1
    refine k_ic hK dX12_isOther_10 ci_0 ?_
    refine k_st hK dX12_isOther_11 rfl rfl rfl (Nat.le_of_ble_eq_true rfl) rfl ?_
    exact k_sub hK [1, 2, 0] rfl hF
  · have hF := hF.2 h1
    refine k_ic hK dX12_isOther_8 ci_1 ?_
    exact k_iret (x := b2i true) hK dX12_isOther_9 rfl (b2i_nar _) (done_0 rfl rfl) (qP_i hF)
set_option maxHeartbeats 4000000 in
theorem g_X12_isOther_12 {d : Nat} {K : KT} {Q : Bool → Prop} {I : HI} {J : HJ} {R : HR} {x1 : Int32} {x2 : Int32} (hK : am_R M_X12_isOther (am_W d) none R (qP fb I J R Q) K) (hs : Stat R)  (hF : ((x1 ≤ x2 → Q false) ∧ (¬ x1 ≤ x2 → (∃ n2 : Nat, x2 = nI n2 ∧ n2 < 3000 ∧ (((I 117 n2) = (I 107 n2) → K 12 [(0, .ref 80), (1, .int x1), (2, .int (x2 + 1))] [] I J R) ∧ (¬ (I 117 n2) = (I 107 n2) → Q true)))))) : K 12 [(0, .ref 80), (1, .int x1), (2, .int x2)] [] I J R := by
  refine k_ld hK 2 dX12_isOther_12 rfl rfl rfl rfl ?_
  refine k_ld hK 1 dX12_isOther_13 rfl rfl rfl rfl ?_
  refine k_cge hK dX12_isOther_14 (tgt := 40) rfl (fun h1 => ?_) (fun h1 => ?_)
  · have hF := hF.1 h1
    refine k_ic hK dX12_isOther_40 ci_0 ?_
    exact k_iret (x := b2i false) hK dX12_isOther_41 rfl (b2i_nar _) (done_0 rfl rfl) (qP_i hF)
  · have hF := hF.2 h1
    refine k_ld hK 0 dX12_isOther_17 rfl rfl rfl rfl ?_
    refine k_gR hK dX12_isOther_18 lf_X12_124 rfl (sc_80 hs) (sf_80_70 hs) ?_
    refine k_ld hK 2 dX12_isOther_21 rfl rfl rfl rfl ?_
    obtain ⟨n2, i3, j4, hF⟩ := hF
    refine k_iald hK dX12_isOther_22 (sc_117 hs) sn_117 (by decide) i3 j4 rfl ?_
    refine k_ld hK 0 dX12_isOther_23 rfl rfl rfl rfl ?_
    refine k_gR hK dX12_isOther_24 lf_X12_93 rfl (sc_80 hs) (sf_80_55 hs) ?_
    refine k_ld hK 2 dX12_isOther_27 rfl rfl rfl rfl ?_
    refine k_iald hK dX12_isOther_28 (sc_107 hs) sn_107 (by decide) i3 j4 rfl ?_
    refine k_ceq hK dX12_isOther_29 (tgt := 34) rfl (fun h5 => ?_) (fun h5 => ?_)
    · have hF := hF.1 h5
      refine k_iinc hK 2 dX12_isOther_34 (v := (x2 + 1)) rfl (Nat.le_of_ble_eq_true rfl) (congrArg (fun q => x2 + q) ci_1) rfl ?_
      refine k_goto hK dX12_isOther_37 (tgt := 12) rfl ?_
      exact k_sub hK [1, 2, 0] rfl hF
    · have hF := hF.2 h5
      refine k_ic hK dX12_isOther_32 ci_1 ?_
      exact k_iret (x := b2i true) hK dX12_isOther_33 rfl (b2i_nar _) (done_0 rfl rfl) (qP_i hF)
set_option maxHeartbeats 4000000 in
theorem g_X12_bends_0 {d : Nat} {K : KT} {Q : Int32 → HI → HJ → Prop} {I : HI} {J : HJ} {R : HR} {x1 : Int32} (hK : am_R M_X12_bends (am_W d) none R (qD fi R Q) K) (hs : Stat R)  (hF : Wp fb d M_X12_isInput [.ref 80, .int x1] (up I 80 0 0) J R (fun b1 => ((b1 = true → K 22 [(0, .ref 80), (1, .int x1), (2, .int (I 80 56)), (3, .int 0)] [] (up I 80 0 0) J R) ∧ (b1 = false → Q (-1) (up I 80 0 0) J)))) : K 0 [(0, .ref 80), (1, .int x1)] [] I J R := by
  refine k_ld hK 0 dX12_bends_0 rfl rfl rfl rfl ?_
  refine k_ic hK dX12_bends_1 ci_0 ?_
  refine k_pI hK dX12_bends_2 lf_X12_142 rfl rfl rfl (sc_80 hs) ?_
  refine k_ld hK 0 dX12_bends_5 rfl rfl rfl rfl ?_
  refine k_ld hK 1 dX12_bends_6 rfl rfl rfl rfl ?_
  refine k_cVp hK dX12_bends_7 (Or.inl lm_X12_438) (As := [.int x1]) (S := []) rfl (sc_80 hs) (Nat.le_of_ble_eq_true rfl) (fit_0 rfl rfl) rfl hF (fun b1 hF => ?_)
  show K _ _ [.int (b2i b1)] _ _ _
  refine k_bne hK dX12_bends_10 (tgt := 15) rfl (fun h2 => ?_) (fun h2 => ?_)
  · have hF := hF.1 h2
    refine k_ld hK 0 dX12_bends_15 rfl rfl rfl rfl ?_
    refine k_gI hK dX12_bends_16 lf_X12_359 rfl (sc_80 hs) ((up_nk (by decide)).trans rfl) ?_
    refine k_st hK dX12_bends_19 rfl rfl rfl (Nat.le_of_ble_eq_true rfl) rfl ?_
    refine k_ic hK dX12_bends_20 ci_0 ?_
    refine k_st hK dX12_bends_21 rfl rfl rfl (Nat.le_of_ble_eq_true rfl) rfl ?_
    exact k_sub hK [2, 3, 1, 0] rfl hF
  · have hF := hF.2 h2
    refine k_ic hK dX12_bends_13 ci_m1 ?_
    exact k_iret hK dX12_bends_14 rfl rfl (done_0 rfl rfl) (qD_i hF)
set_option maxHeartbeats 4000000 in
theorem g_X12_bends_22 {d : Nat} {K : KT} {Q : Int32 → HI → HJ → Prop} {I : HI} {J : HJ} {R : HR} {x1 : Int32} {x2 : Int32} {x3 : Int32} (hK : am_R M_X12_bends (am_W d) none R (qD fi R Q) K) (hs : Stat R)  (hF : ((x2 ≤ x3 → (∃ n2 : Nat, x1 = nI n2 ∧ n2 < 4 ∧ K 59 [(0, .ref 80), (1, .int x1), (2, .int x2), (3, .long (J 91 n2)), (5, .int (-2)), (6, .int 1)] [] I J R)) ∧ (¬ x2 ≤ x3 → (∃ n5 : Nat, x3 = nI n5 ∧ n5 < 3000 ∧ K 22 [(0, .ref 80), (1, .int x1), (2, .int x2), (3, .int (x3 + 1))] [] (up I 117 n5 (I 107 n5)) J R)))) : K 22 [(0, .ref 80), (1, .int x1), (2, .int x2), (3, .int x3)] [] I J R := by
  refine k_ld hK 3 dX12_bends_22 rfl rfl rfl rfl ?_
  refine k_ld hK 2 dX12_bends_23 rfl rfl rfl rfl ?_
  refine k_cge hK dX12_bends_24 (tgt := 45) rfl (fun h1 => ?_) (fun h1 => ?_)
  · have hF := hF.1 h1
    refine k_ld hK 0 dX12_bends_45 rfl rfl rfl rfl ?_
    refine k_gR hK dX12_bends_46 lf_X12_44 rfl (sc_80 hs) (sf_80_36 hs) ?_
    refine k_ld hK 1 dX12_bends_49 rfl rfl rfl rfl ?_
    obtain ⟨n2, i3, j4, hF⟩ := hF
    refine k_lald hK dX12_bends_50 (sc_91 hs) sn_91 (by decide) i3 j4 rfl ?_
    refine k_st hK dX12_bends_51 rfl rfl rfl (Nat.le_of_ble_eq_true rfl) rfl ?_
    refine k_bi hK dX12_bends_52 cb_m2 ?_
    refine k_st hK dX12_bends_54 rfl rfl rfl (Nat.le_of_ble_eq_true rfl) rfl ?_
    refine k_ic hK dX12_bends_56 ci_1 ?_
    refine k_st hK dX12_bends_57 rfl rfl rfl (Nat.le_of_ble_eq_true rfl) rfl ?_
    exact k_sub hK [3, 4, 5, 2, 1, 0] rfl hF
  · have hF := hF.2 h1
    refine k_ld hK 0 dX12_bends_27 rfl rfl rfl rfl ?_
    refine k_gR hK dX12_bends_28 lf_X12_124 rfl (sc_80 hs) (sf_80_70 hs) ?_
    refine k_ld hK 3 dX12_bends_31 rfl rfl rfl rfl ?_
    refine k_ld hK 0 dX12_bends_32 rfl rfl rfl rfl ?_
    refine k_gR hK dX12_bends_33 lf_X12_93 rfl (sc_80 hs) (sf_80_55 hs) ?_
    refine k_ld hK 3 dX12_bends_36 rfl rfl rfl rfl ?_
    obtain ⟨n5, i6, j7, hF⟩ := hF
    refine k_iald hK dX12_bends_37 (sc_107 hs) sn_107 (by decide) i6 j7 rfl ?_
    refine k_iast hK dX12_bends_38 (sc_117 hs) sn_117 (by decide) i6 j7 ?_
    refine k_iinc hK 3 dX12_bends_39 (v := (x3 + 1)) rfl (Nat.le_of_ble_eq_true rfl) (congrArg (fun q => x3 + q) ci_1) rfl ?_
    refine k_goto hK dX12_bends_42 (tgt := 22) rfl ?_
    exact k_sub hK [1, 2, 3, 0] rfl hF
set_option maxHeartbeats 4000000 in
theorem g_X12_bends_59 {d : Nat} {K : KT} {Q : Int32 → HI → HJ → Prop} {I : HI} {J : HJ} {R : HR} {x1 : Int32} {x2 : Int32} {z3 : Int64} {x5 : Int32} {x6 : Int32} (hK : am_R M_X12_bends (am_W d) none R (qD fi R Q) K) (hs : Stat R)  (hF : ((100 < x6 → (∃ n2 : Nat, x1 = nI n2 ∧ n2 < 4 ∧ Wd fv d M_X12_runs [.ref 80] I (up J 91 n2 z3) R (fun u5 I6 J7 => Q x5 I6 J7))) ∧ (¬ 100 < x6 → ((¬ x5 = (-2) → (∃ n9 : Nat, x1 = nI n9 ∧ n9 < 4 ∧ Wd fv d M_X12_runs [.ref 80] I (up J 91 n9 z3) R (fun u12 I13 J14 => Q x5 I13 J14))) ∧ (x5 = (-2) → Wp fl d M_X12_left [.long (z3 + (Int32.toInt64 x6))] I J R (fun r15 => (∃ n16 : Nat, x1 = nI n16 ∧ n16 < 4 ∧ Wd fv d M_X12_runs [.ref 80] I (up J 91 n16 r15) R (fun u19 I20 J21 => Wp fb d M_X12_isOther [.ref 80, .int x2] I20 J21 R (fun b22 => ((b22 = false → K 59 [(0, .ref 80), (1, .int x1), (2, .int x2), (3, .long z3), (5, .int (-2)), (6, .int (x6 + 1))] [] I20 J21 R) ∧ (b22 = true → K 59 [(0, .ref 80), (1, .int x1), (2, .int x2), (3, .long z3), (5, .int x6), (6, .int (x6 + 1))] [] I20 J21 R))))))))))) : K 59 [(0, .ref 80), (1, .int x1), (2, .int x2), (3, .long z3), (5, .int x5), (6, .int x6)] [] I J R := by
  refine k_ld hK 5 dX12_bends_59 rfl rfl rfl rfl ?_
  refine k_bi hK dX12_bends_61 cb_100 ?_
  refine k_cgt hK dX12_bends_63 (tgt := 114) rfl (fun h1 => ?_) (fun h1 => ?_)
  · have hF := hF.1 h1
    refine k_ld hK 0 dX12_bends_114 rfl rfl rfl rfl ?_
    refine k_gR hK dX12_bends_115 lf_X12_44 rfl (sc_80 hs) (sf_80_36 hs) ?_
    refine k_ld hK 1 dX12_bends_118 rfl rfl rfl rfl ?_
    refine k_ld hK 3 dX12_bends_119 rfl rfl rfl rfl ?_
    obtain ⟨n2, i3, j4, hF⟩ := hF
    refine k_last hK dX12_bends_120 (sc_91 hs) sn_91 (by decide) i3 j4 ?_
    refine k_ld hK 0 dX12_bends_121 rfl rfl rfl rfl ?_
    refine k_cVd hK dX12_bends_122 (Or.inl lm_X12_329) (As := []) (S := []) rfl (sc_80 hs) (Nat.le_of_ble_eq_true rfl) (fit_0 rfl rfl) rfl hF (fun u5 I6 J7 hF => ?_)
    show K _ _ [] _ _ _
    refine k_ld hK 4 dX12_bends_125 rfl rfl rfl rfl ?_
    exact k_iret hK dX12_bends_127 rfl rfl (done_0 rfl rfl) (qD_i hF)
  · have hF := hF.2 h1
    refine k_ld hK 4 dX12_bends_66 rfl rfl rfl rfl ?_
    refine k_bi hK dX12_bends_68 cb_m2 ?_
    refine k_cne hK dX12_bends_70 (tgt := 114) rfl (fun h8 => ?_) (fun h8 => ?_)
    · have hF := hF.1 h8
      refine k_ld hK 0 dX12_bends_114 rfl rfl rfl rfl ?_
      refine k_gR hK dX12_bends_115 lf_X12_44 rfl (sc_80 hs) (sf_80_36 hs) ?_
      refine k_ld hK 1 dX12_bends_118 rfl rfl rfl rfl ?_
      refine k_ld hK 3 dX12_bends_119 rfl rfl rfl rfl ?_
      obtain ⟨n9, i10, j11, hF⟩ := hF
      refine k_last hK dX12_bends_120 (sc_91 hs) sn_91 (by decide) i10 j11 ?_
      refine k_ld hK 0 dX12_bends_121 rfl rfl rfl rfl ?_
      refine k_cVd hK dX12_bends_122 (Or.inl lm_X12_329) (As := []) (S := []) rfl (sc_80 hs) (Nat.le_of_ble_eq_true rfl) (fit_0 rfl rfl) rfl hF (fun u12 I13 J14 hF => ?_)
      show K _ _ [] _ _ _
      refine k_ld hK 4 dX12_bends_125 rfl rfl rfl rfl ?_
      exact k_iret hK dX12_bends_127 rfl rfl (done_0 rfl rfl) (qD_i hF)
    · have hF := hF.2 h8
      refine k_ld hK 0 dX12_bends_73 rfl rfl rfl rfl ?_
      refine k_gR hK dX12_bends_74 lf_X12_44 rfl (sc_80 hs) (sf_80_36 hs) ?_
      refine k_ld hK 1 dX12_bends_77 rfl rfl rfl rfl ?_
      refine k_ld hK 3 dX12_bends_78 rfl rfl rfl rfl ?_
      refine k_ld hK 5 dX12_bends_79 rfl rfl rfl rfl ?_
      refine k_op hK dX12_bends_81 rfl rfl ?_
      refine k_op hK dX12_bends_82 rfl rfl ?_
      refine k_cSp hK dX12_bends_83 lm_X12_408 (As := [.long (z3 + (Int32.toInt64 x6))]) (S := [.int x1, .ref 91]) rfl (Nat.le_of_ble_eq_true rfl) (fit_0 rfl rfl) rfl hF (fun r15 hF => ?_)
      show K _ _ [.long r15, .int x1, .ref 91] _ _ _
      obtain ⟨n16, i17, j18, hF⟩ := hF
      refine k_last hK dX12_bends_86 (sc_91 hs) sn_91 (by decide) i17 j18 ?_
      refine k_ld hK 0 dX12_bends_87 rfl rfl rfl rfl ?_
      refine k_cVd hK dX12_bends_88 (Or.inl lm_X12_329) (As := []) (S := []) rfl (sc_80 hs) (Nat.le_of_ble_eq_true rfl) (fit_0 rfl rfl) rfl hF (fun u19 I20 J21 hF => ?_)
      show K _ _ [] _ _ _
      refine k_ld hK 0 dX12_bends_91 rfl rfl rfl rfl ?_
      refine k_ld hK 2 dX12_bends_92 rfl rfl rfl rfl ?_
      refine k_cVp hK dX12_bends_93 (Or.inl lm_X12_490) (As := [.int x2]) (S := []) rfl (sc_80 hs) (Nat.le_of_ble_eq_true rfl) (fit_0 rfl rfl) rfl hF (fun b22 hF => ?_)
      show K _ _ [.int (b2i b22)] _ _ _
      refine k_beq hK dX12_bends_96 (tgt := 104) rfl (fun h23 => ?_) (fun h23 => ?_)
      · have hF := hF.1 h23
        refine k_bi hK dX12_bends_104 cb_m2 ?_
        refine k_st hK dX12_bends_106 rfl rfl rfl (Nat.le_of_ble_eq_true rfl) rfl ?_
        refine k_iinc hK 5 dX12_bends_108 (v := (x6 + 1)) rfl (Nat.le_of_ble_eq_true rfl) (congrArg (fun q => x6 + q) ci_1) rfl ?_
        refine k_goto hK dX12_bends_111 (tgt := 59) rfl ?_
        exact k_sub hK [2, 3, 4, 5, 1, 0] rfl hF
      · have hF := hF.2 h23
        refine k_ld hK 5 dX12_bends_99 rfl rfl rfl rfl ?_
        refine k_goto hK dX12_bends_101 (tgt := 106) rfl ?_
        refine k_st hK dX12_bends_106 rfl rfl rfl (Nat.le_of_ble_eq_true rfl) rfl ?_
        refine k_iinc hK 5 dX12_bends_108 (v := (x6 + 1)) rfl (Nat.le_of_ble_eq_true rfl) (congrArg (fun q => x6 + q) ci_1) rfl ?_
        refine k_goto hK dX12_bends_111 (tgt := 59) rfl ?_
        exact k_sub hK [2, 3, 4, 5, 1, 0] rfl hF
set_option maxHeartbeats 4000000 in
theorem g_X12_at_0 {d : Nat} {K : KT} {Q : Int32 → Prop} {I : HI} {J : HJ} {R : HR} {x0 : Int32} {x1 : Int32} (hK : am_R M_X12_at (am_W d) none R (qP fi I J R Q) K) (hs : Stat R)  (hF : Q ((21 * x0) + x1)) : K 0 [(0, .int x0), (1, .int x1)] [] I J R := by
  refine k_bi hK dX12_at_0 cb_21 ?_
  refine k_ld hK 0 dX12_at_2 rfl rfl rfl rfl ?_
  refine k_op hK dX12_at_3 rfl rfl ?_
  refine k_ld hK 1 dX12_at_4 rfl rfl rfl rfl ?_
  refine k_op hK dX12_at_5 rfl rfl ?_
  exact k_iret hK dX12_at_6 rfl rfl (done_0 rfl rfl) (qP_i hF)
theorem e_X12_at {d : Nat} {Q : Int32 → Prop} {I : HI} {J : HJ} {R : HR} {x0 : Int32} {x1 : Int32} (hs : Stat R)  (hF : Q ((21 * x0) + x1)) : Wp fi (d + 1) M_X12_at [.int x0, .int x1] I J R Q := ⟨Nat.le_of_ble_eq_true rfl, fun K hK => g_X12_at_0 hK hs hF⟩
set_option maxHeartbeats 4000000 in
theorem g_X12_laysFew_0 {d : Nat} {K : KT} {Q : Unit → HI → Prop} {I : HI} {J : HJ} {R : HR}  (hK : am_R M_X12_laysFew (am_W d) none R (qC fv J R Q) K) (hs : Stat R)  (hF : (((I 80 73) = 0 → K 15 [(0, .ref 80), (1, .int 1)] [] (up I 80 73 1) J R) ∧ (¬ (I 80 73) = 0 → Q () I))) : K 0 [(0, .ref 80)] [] I J R := by
  refine k_ld hK 0 dX12_laysFew_0 rfl rfl rfl rfl ?_
  refine k_gI hK dX12_laysFew_1 lf_X12_493 rfl (sc_80 hs) rfl ?_
  refine k_eq hK dX12_laysFew_4 (tgt := 8) rfl (fun h1 => ?_) (fun h1 => ?_)
  · have hF := hF.1 h1
    refine k_ld hK 0 dX12_laysFew_8 rfl rfl rfl rfl ?_
    refine k_ic hK dX12_laysFew_9 ci_1 ?_
    refine k_pI hK dX12_laysFew_10 lf_X12_493 rfl rfl (by decide) (sc_80 hs) ?_
    refine k_ic hK dX12_laysFew_13 ci_1 ?_
    refine k_st hK dX12_laysFew_14 rfl rfl rfl (Nat.le_of_ble_eq_true rfl) rfl ?_
    exact k_sub hK [1, 0] rfl hF
  · have hF := hF.2 h1
    exact k_vret hK dX12_laysFew_7 rfl (done_0 rfl rfl) (qC_i hF)
set_option maxHeartbeats 4000000 in
theorem g_X12_laysFew_15 {d : Nat} {K : KT} {Q : Unit → HI → Prop} {I : HI} {J : HJ} {R : HR} {x1 : Int32} (hK : am_R M_X12_laysFew (am_W d) none R (qC fv J R Q) K) (hs : Stat R)  (hF : ((400 < x1 → Q () I) ∧ (¬ 400 < x1 → Wp fi d M_X12_at [.int x1, .int 0] I J R (fun r2 => (∃ n3 : Nat, r2 = nI n3 ∧ n3 < 8421 ∧ K 41 [(0, .ref 80), (1, .int x1), (2, .int 1)] [] (up I 118 n3 ((x1 * (x1 - 1)) / 2)) J R))))) : K 15 [(0, .ref 80), (1, .int x1)] [] I J R := by
  refine k_ld hK 1 dX12_laysFew_15 rfl rfl rfl rfl ?_
  refine k_si hK dX12_laysFew_16 cs_400 ?_
  refine k_cgt hK dX12_laysFew_19 (tgt := 150) rfl (fun h1 => ?_) (fun h1 => ?_)
  · have hF := hF.1 h1
    exact k_vret hK dX12_laysFew_150 rfl (done_0 rfl rfl) (qC_i hF)
  · have hF := hF.2 h1
    refine k_ld hK 0 dX12_laysFew_22 rfl rfl rfl rfl ?_
    refine k_gR hK dX12_laysFew_23 lf_X12_127 rfl (sc_80 hs) (sf_80_71 hs) ?_
    refine k_ld hK 1 dX12_laysFew_26 rfl rfl rfl rfl ?_
    refine k_ic hK dX12_laysFew_27 ci_0 ?_
    refine k_cSp hK dX12_laysFew_28 lm_X12_496 (As := [.int x1, .int 0]) (S := [.ref 118]) rfl (Nat.le_of_ble_eq_true rfl) (fit_0 rfl rfl) rfl hF (fun r2 hF => ?_)
    show K _ _ [.int r2, .ref 118] _ _ _
    refine k_ld hK 1 dX12_laysFew_31 rfl rfl rfl rfl ?_
    refine k_ld hK 1 dX12_laysFew_32 rfl rfl rfl rfl ?_
    refine k_ic hK dX12_laysFew_33 ci_1 ?_
    refine k_op hK dX12_laysFew_34 rfl rfl ?_
    refine k_op hK dX12_laysFew_35 rfl rfl ?_
    refine k_ic hK dX12_laysFew_36 ci_2 ?_
    refine k_idiv hK dX12_laysFew_37 (by decide) ?_
    obtain ⟨n3, i4, j5, hF⟩ := hF
    refine k_iast hK dX12_laysFew_38 (sc_118 hs) sn_118 (by decide) i4 j5 ?_
    refine k_ic hK dX12_laysFew_39 ci_1 ?_
    refine k_st hK dX12_laysFew_40 rfl rfl rfl (Nat.le_of_ble_eq_true rfl) rfl ?_
    exact k_sub hK [1, 2, 0] rfl hF
set_option maxHeartbeats 4000000 in
theorem g_X12_laysFew_41 {d : Nat} {K : KT} {Q : Unit → HI → Prop} {I : HI} {J : HJ} {R : HR} {x1 : Int32} {x2 : Int32} (hK : am_R M_X12_laysFew (am_W d) none R (qC fv J R Q) K) (hs : Stat R)  (hF : ((20 < x2 → K 15 [(0, .ref 80), (1, .int (x1 + 1))] [] I J R) ∧ (¬ 20 < x2 → ((x1 ≤ 1 → K 15 [(0, .ref 80), (1, .int (x1 + 1))] [] I J R) ∧ (¬ x1 ≤ 1 → K 59 [(0, .ref 80), (1, .int x1), (2, .int x2), (3, .int 2147483647), (4, .int 1)] [] I J R))))) : K 41 [(0, .ref 80), (1, .int x1), (2, .int x2)] [] I J R := by
  refine k_ld hK 2 dX12_laysFew_41 rfl rfl rfl rfl ?_
  refine k_bi hK dX12_laysFew_42 cb_20 ?_
  refine k_cgt hK dX12_laysFew_44 (tgt := 144) rfl (fun h1 => ?_) (fun h1 => ?_)
  · have hF := hF.1 h1
    refine k_iinc hK 1 dX12_laysFew_144 (v := (x1 + 1)) rfl (Nat.le_of_ble_eq_true rfl) (congrArg (fun q => x1 + q) ci_1) rfl ?_
    refine k_goto hK dX12_laysFew_147 (tgt := 15) rfl ?_
    exact k_sub hK [1, 0] rfl hF
  · have hF := hF.2 h1
    refine k_ld hK 1 dX12_laysFew_47 rfl rfl rfl rfl ?_
    refine k_ic hK dX12_laysFew_48 ci_1 ?_
    refine k_cle hK dX12_laysFew_49 (tgt := 144) rfl (fun h2 => ?_) (fun h2 => ?_)
    · have hF := hF.1 h2
      refine k_iinc hK 1 dX12_laysFew_144 (v := (x1 + 1)) rfl (Nat.le_of_ble_eq_true rfl) (congrArg (fun q => x1 + q) ci_1) rfl ?_
      refine k_goto hK dX12_laysFew_147 (tgt := 15) rfl ?_
      exact k_sub hK [1, 0] rfl hF
    · have hF := hF.2 h2
      refine k_ldcw hK dX12_laysFew_52 lc_X12_498 ?_
      refine k_st hK dX12_laysFew_55 rfl rfl rfl (Nat.le_of_ble_eq_true rfl) rfl ?_
      refine k_ic hK dX12_laysFew_56 ci_1 ?_
      refine k_st hK dX12_laysFew_57 rfl rfl rfl (Nat.le_of_ble_eq_true rfl) rfl ?_
      exact k_sub hK [2, 3, 4, 1, 0] rfl hF
set_option maxHeartbeats 4000000 in
theorem g_X12_laysFew_59 {d : Nat} {K : KT} {Q : Unit → HI → Prop} {I : HI} {J : HJ} {R : HR} {x1 : Int32} {x2 : Int32} {x3 : Int32} {x4 : Int32} (hK : am_R M_X12_laysFew (am_W d) none R (qC fv J R Q) K) (hs : Stat R)  (hF : ((x1 ≤ x4 → Wp fi d M_X12_at [.int x1, .int x2] I J R (fun r2 => (∃ n3 : Nat, r2 = nI n3 ∧ n3 < 8421 ∧ K 41 [(0, .ref 80), (1, .int x1), (2, .int (x2 + 1))] [] (up I 118 n3 x3) J R))) ∧ (¬ x1 ≤ x4 → Wp fi d M_X12_at [.int (x1 - x4), .int (x2 - 1)] I J R (fun r6 => (∃ n7 : Nat, r6 = nI n7 ∧ n7 < 8421 ∧ Wp fi d M_X12_at [.int x4, .int x2] I J R (fun r10 => (∃ n11 : Nat, r10 = nI n11 ∧ n11 < 8421 ∧ ((((x4 + (I 118 n7)) + (I 118 n11)) < x3 → Wp fi d M_X12_at [.int x1, .int x2] I J R (fun r15 => (∃ n16 : Nat, r15 = nI n16 ∧ n16 < 8421 ∧ K 59 [(0, .ref 80), (1, .int x1), (2, .int x2), (3, .int ((x4 + (I 118 n7)) + (I 118 n11))), (4, .int (x4 + 1))] [] (up I 119 n16 x4) J R))) ∧ (¬ ((x4 + (I 118 n7)) + (I 118 n11)) < x3 → K 59 [(0, .ref 80), (1, .int x1), (2, .int x2), (3, .int x3), (4, .int (x4 + 1))] [] I J R))))))))) : K 59 [(0, .ref 80), (1, .int x1), (2, .int x2), (3, .int x3), (4, .int x4)] [] I J R := by
  refine k_ld hK 4 dX12_laysFew_59 rfl rfl rfl rfl ?_
  refine k_ld hK 1 dX12_laysFew_61 rfl rfl rfl rfl ?_
  refine k_cge hK dX12_laysFew_62 (tgt := 127) rfl (fun h1 => ?_) (fun h1 => ?_)
  · have hF := hF.1 h1
    refine k_ld hK 0 dX12_laysFew_127 rfl rfl rfl rfl ?_
    refine k_gR hK dX12_laysFew_128 lf_X12_127 rfl (sc_80 hs) (sf_80_71 hs) ?_
    refine k_ld hK 1 dX12_laysFew_131 rfl rfl rfl rfl ?_
    refine k_ld hK 2 dX12_laysFew_132 rfl rfl rfl rfl ?_
    refine k_cSp hK dX12_laysFew_133 lm_X12_496 (As := [.int x1, .int x2]) (S := [.ref 118]) rfl (Nat.le_of_ble_eq_true rfl) (fit_0 rfl rfl) rfl hF (fun r2 hF => ?_)
    show K _ _ [.int r2, .ref 118] _ _ _
    refine k_ld hK 3 dX12_laysFew_136 rfl rfl rfl rfl ?_
    obtain ⟨n3, i4, j5, hF⟩ := hF
    refine k_iast hK dX12_laysFew_137 (sc_118 hs) sn_118 (by decide) i4 j5 ?_
    refine k_iinc hK 2 dX12_laysFew_138 (v := (x2 + 1)) rfl (Nat.le_of_ble_eq_true rfl) (congrArg (fun q => x2 + q) ci_1) rfl ?_
    refine k_goto hK dX12_laysFew_141 (tgt := 41) rfl ?_
    exact k_sub hK [1, 2, 0] rfl hF
  · have hF := hF.2 h1
    refine k_ld hK 4 dX12_laysFew_65 rfl rfl rfl rfl ?_
    refine k_ld hK 0 dX12_laysFew_67 rfl rfl rfl rfl ?_
    refine k_gR hK dX12_laysFew_68 lf_X12_127 rfl (sc_80 hs) (sf_80_71 hs) ?_
    refine k_ld hK 1 dX12_laysFew_71 rfl rfl rfl rfl ?_
    refine k_ld hK 4 dX12_laysFew_72 rfl rfl rfl rfl ?_
    refine k_op hK dX12_laysFew_74 rfl rfl ?_
    refine k_ld hK 2 dX12_laysFew_75 rfl rfl rfl rfl ?_
    refine k_ic hK dX12_laysFew_76 ci_1 ?_
    refine k_op hK dX12_laysFew_77 rfl rfl ?_
    refine k_cSp hK dX12_laysFew_78 lm_X12_496 (As := [.int (x1 - x4), .int (x2 - 1)]) (S := [.ref 118, .int x4]) rfl (Nat.le_of_ble_eq_true rfl) (fit_0 rfl rfl) rfl hF (fun r6 hF => ?_)
    show K _ _ [.int r6, .ref 118, .int x4] _ _ _
    obtain ⟨n7, i8, j9, hF⟩ := hF
    refine k_iald hK dX12_laysFew_81 (sc_118 hs) sn_118 (by decide) i8 j9 rfl ?_
    refine k_op hK dX12_laysFew_82 rfl rfl ?_
    refine k_ld hK 0 dX12_laysFew_83 rfl rfl rfl rfl ?_
    refine k_gR hK dX12_laysFew_84 lf_X12_127 rfl (sc_80 hs) (sf_80_71 hs) ?_
    refine k_ld hK 4 dX12_laysFew_87 rfl rfl rfl rfl ?_
    refine k_ld hK 2 dX12_laysFew_89 rfl rfl rfl rfl ?_
    refine k_cSp hK dX12_laysFew_90 lm_X12_496 (As := [.int x4, .int x2]) (S := [.ref 118, .int (x4 + (I 118 n7))]) rfl (Nat.le_of_ble_eq_true rfl) (fit_0 rfl rfl) rfl hF (fun r10 hF => ?_)
    show K _ _ [.int r10, .ref 118, .int (x4 + (I 118 n7))] _ _ _
    obtain ⟨n11, i12, j13, hF⟩ := hF
    refine k_iald hK dX12_laysFew_93 (sc_118 hs) sn_118 (by decide) i12 j13 rfl ?_
    refine k_op hK dX12_laysFew_94 rfl rfl ?_
    refine k_st hK dX12_laysFew_95 rfl rfl rfl (Nat.le_of_ble_eq_true rfl) rfl ?_
    refine k_ld hK 0 dX12_laysFew_97 rfl rfl rfl rfl ?_
    refine k_ld hK 4 dX12_laysFew_99 rfl rfl rfl rfl ?_
    refine k_clt hK dX12_laysFew_100 (tgt := 106) rfl (fun h14 => ?_) (fun h14 => ?_)
    · have hF := hF.1 h14
      refine k_ld hK 0 dX12_laysFew_106 rfl rfl rfl rfl ?_
      refine k_st hK dX12_laysFew_108 rfl rfl rfl (Nat.le_of_ble_eq_true rfl) rfl ?_
      refine k_ld hK 2 dX12_laysFew_109 rfl rfl rfl rfl ?_
      refine k_gR hK dX12_laysFew_110 lf_X12_130 rfl (sc_80 hs) (sf_80_72 hs) ?_
      refine k_ld hK 3 dX12_laysFew_113 rfl rfl rfl rfl ?_
      refine k_ld hK 4 dX12_laysFew_114 rfl rfl rfl rfl ?_
      refine k_cSp hK dX12_laysFew_115 lm_X12_496 (As := [.int x1, .int x2]) (S := [.ref 119]) rfl (Nat.le_of_ble_eq_true rfl) (fit_0 rfl rfl) rfl hF (fun r15 hF => ?_)
      show K _ _ [.int r15, .ref 119] _ _ _
      refine k_ld hK 5 dX12_laysFew_118 rfl rfl rfl rfl ?_
      obtain ⟨n16, i17, j18, hF⟩ := hF
      refine k_iast hK dX12_laysFew_120 (sc_119 hs) sn_119 (by decide) i17 j18 ?_
      refine k_iinc hK 5 dX12_laysFew_121 (v := (x4 + 1)) rfl (Nat.le_of_ble_eq_true rfl) (congrArg (fun q => x4 + q) ci_1) rfl ?_
      refine k_goto hK dX12_laysFew_124 (tgt := 59) rfl ?_
      exact k_sub hK [3, 4, 5, 1, 0] rfl hF
    · have hF := hF.2 h14
      refine k_goto hK dX12_laysFew_103 (tgt := 121) rfl ?_
      refine k_iinc hK 5 dX12_laysFew_121 (v := (x4 + 1)) rfl (Nat.le_of_ble_eq_true rfl) (congrArg (fun q => x4 + q) ci_1) rfl ?_
      refine k_goto hK dX12_laysFew_124 (tgt := 59) rfl ?_
      exact k_sub hK [2, 3, 4, 5, 0] rfl hF
set_option maxHeartbeats 4000000 in
theorem g_X12_isState_0 {d : Nat} {K : KT} {Q : Bool → Prop} {I : HI} {J : HJ} {R : HR} {x0 : Int32} (hK : am_R M_X12_isState (am_W d) none R (qP fb I J R Q) K) (hs : Stat R)  (hF : ((x0 < 0 → Q false) ∧ (¬ x0 < 0 → ((20 < x0 → Q false) ∧ (¬ 20 < x0 → Q true))))) : K 0 [(0, .int x0)] [] I J R := by
  refine k_ld hK 0 dX12_isState_0 rfl rfl rfl rfl ?_
  refine k_lt hK dX12_isState_1 (tgt := 14) rfl (fun h1 => ?_) (fun h1 => ?_)
  · have hF := hF.1 h1
    refine k_ic hK dX12_isState_14 ci_0 ?_
    exact k_iret (x := b2i false) hK dX12_isState_15 rfl (b2i_nar _) (done_0 rfl rfl) (qP_i hF)
  · have hF := hF.2 h1
    refine k_ld hK 0 dX12_isState_4 rfl rfl rfl rfl ?_
    refine k_bi hK dX12_isState_5 cb_20 ?_
    refine k_cgt hK dX12_isState_7 (tgt := 14) rfl (fun h2 => ?_) (fun h2 => ?_)
    · have hF := hF.1 h2
      refine k_ic hK dX12_isState_14 ci_0 ?_
      exact k_iret (x := b2i false) hK dX12_isState_15 rfl (b2i_nar _) (done_0 rfl rfl) (qP_i hF)
    · have hF := hF.2 h2
      refine k_ic hK dX12_isState_10 ci_1 ?_
      refine k_goto hK dX12_isState_11 (tgt := 15) rfl ?_
      exact k_iret (x := b2i true) hK dX12_isState_15 rfl (b2i_nar _) (done_0 rfl rfl) (qP_i hF)
theorem e_X12_isState {d : Nat} {Q : Bool → Prop} {I : HI} {J : HJ} {R : HR} {x0 : Int32} (hs : Stat R)  (hF : ((x0 < 0 → Q false) ∧ (¬ x0 < 0 → ((20 < x0 → Q false) ∧ (¬ 20 < x0 → Q true))))) : Wp fb (d + 1) M_X12_isState [.int x0] I J R Q := ⟨Nat.le_of_ble_eq_true rfl, fun K hK => g_X12_isState_0 hK hs hF⟩
set_option maxHeartbeats 4000000 in
theorem g_X12_few_0 {d : Nat} {K : KT} {Q : Int32 → HI → Prop} {I : HI} {J : HJ} {R : HR} {x1 : Int32} {x2 : Int32} (hK : am_R M_X12_few (am_W d) none R (qC fi J R Q) K) (hs : Stat R)  (hF : ((x1 < 1 → Q (-1) (up I 80 0 0)) ∧ (¬ x1 < 1 → ((400 < x1 → Q (-1) (up I 80 0 0)) ∧ (¬ 400 < x1 → Wp fb d M_X12_isState [.int x2] (up I 80 0 0) J R (fun b3 => ((b3 = true → Wc fv d M_X12_laysFew [.ref 80] (up I 80 0 0) J R (fun u5 I6 => Wp fi d M_X12_at [.int x1, .int x2] I6 J R (fun r7 => (∃ n8 : Nat, r7 = nI n8 ∧ n8 < 8421 ∧ Q (I6 118 n8) I6)))) ∧ (b3 = false → Q (-1) (up I 80 0 0))))))))) : K 0 [(0, .ref 80), (1, .int x1), (2, .int x2)] [] I J R := by
  refine k_ld hK 0 dX12_few_0 rfl rfl rfl rfl ?_
  refine k_ic hK dX12_few_1 ci_0 ?_
  refine k_pI hK dX12_few_2 lf_X12_142 rfl rfl rfl (sc_80 hs) ?_
  refine k_ld hK 1 dX12_few_5 rfl rfl rfl rfl ?_
  refine k_ic hK dX12_few_6 ci_1 ?_
  refine k_clt hK dX12_few_7 (tgt := 24) rfl (fun h1 => ?_) (fun h1 => ?_)
  · have hF := hF.1 h1
    refine k_ic hK dX12_few_24 ci_m1 ?_
    exact k_iret hK dX12_few_25 rfl rfl (done_0 rfl rfl) (qC_i hF)
  · have hF := hF.2 h1
    refine k_ld hK 1 dX12_few_10 rfl rfl rfl rfl ?_
    refine k_si hK dX12_few_11 cs_400 ?_
    refine k_cgt hK dX12_few_14 (tgt := 24) rfl (fun h2 => ?_) (fun h2 => ?_)
    · have hF := hF.1 h2
      refine k_ic hK dX12_few_24 ci_m1 ?_
      exact k_iret hK dX12_few_25 rfl rfl (done_0 rfl rfl) (qC_i hF)
    · have hF := hF.2 h2
      refine k_ld hK 2 dX12_few_17 rfl rfl rfl rfl ?_
      refine k_cSp hK dX12_few_18 lm_X12_499 (As := [.int x2]) (S := []) rfl (Nat.le_of_ble_eq_true rfl) (fit_0 rfl rfl) rfl hF (fun b3 hF => ?_)
      show K _ _ [.int (b2i b3)] _ _ _
      refine k_bne hK dX12_few_21 (tgt := 26) rfl (fun h4 => ?_) (fun h4 => ?_)
      · have hF := hF.1 h4
        refine k_ld hK 0 dX12_few_26 rfl rfl rfl rfl ?_
        refine k_cVc hK dX12_few_27 (Or.inl lm_X12_502) (As := []) (S := []) rfl (sc_80 hs) (Nat.le_of_ble_eq_true rfl) (fit_0 rfl rfl) rfl hF (fun u5 I6 hF => ?_)
        show K _ _ [] _ _ _
        refine k_ld hK 0 dX12_few_30 rfl rfl rfl rfl ?_
        refine k_gR hK dX12_few_31 lf_X12_127 rfl (sc_80 hs) (sf_80_71 hs) ?_
        refine k_ld hK 1 dX12_few_34 rfl rfl rfl rfl ?_
        refine k_ld hK 2 dX12_few_35 rfl rfl rfl rfl ?_
        refine k_cSp hK dX12_few_36 lm_X12_496 (As := [.int x1, .int x2]) (S := [.ref 118]) rfl (Nat.le_of_ble_eq_true rfl) (fit_0 rfl rfl) rfl hF (fun r7 hF => ?_)
        show K _ _ [.int r7, .ref 118] _ _ _
        obtain ⟨n8, i9, j10, hF⟩ := hF
        refine k_iald hK dX12_few_39 (sc_118 hs) sn_118 (by decide) i9 j10 rfl ?_
        exact k_iret hK dX12_few_40 rfl rfl (done_0 rfl rfl) (qC_i hF)
      · have hF := hF.2 h4
        refine k_ic hK dX12_few_24 ci_m1 ?_
        exact k_iret hK dX12_few_25 rfl rfl (done_0 rfl rfl) (qC_i hF)
theorem e_X12_few {d : Nat} {Q : Int32 → HI → Prop} {I : HI} {J : HJ} {R : HR} {x1 : Int32} {x2 : Int32} (hs : Stat R)  (hF : ((x1 < 1 → Q (-1) (up I 80 0 0)) ∧ (¬ x1 < 1 → ((400 < x1 → Q (-1) (up I 80 0 0)) ∧ (¬ 400 < x1 → Wp fb d M_X12_isState [.int x2] (up I 80 0 0) J R (fun b3 => ((b3 = true → Wc fv d M_X12_laysFew [.ref 80] (up I 80 0 0) J R (fun u5 I6 => Wp fi d M_X12_at [.int x1, .int x2] I6 J R (fun r7 => (∃ n8 : Nat, r7 = nI n8 ∧ n8 < 8421 ∧ Q (I6 118 n8) I6)))) ∧ (b3 = false → Q (-1) (up I 80 0 0))))))))) : Wc fi (d + 1) M_X12_few [.ref 80, .int x1, .int x2] I J R Q := ⟨Nat.le_of_ble_eq_true rfl, fun K hK => g_X12_few_0 hK hs hF⟩
set_option maxHeartbeats 4000000 in
theorem g_X12_split_0 {d : Nat} {K : KT} {Q : Int32 → HI → Prop} {I : HI} {J : HJ} {R : HR} {x1 : Int32} {x2 : Int32} (hK : am_R M_X12_split (am_W d) none R (qC fi J R Q) K) (hs : Stat R)  (hF : ((x1 < 2 → Q (-1) (up I 80 0 0)) ∧ (¬ x1 < 2 → ((400 < x1 → Q (-1) (up I 80 0 0)) ∧ (¬ 400 < x1 → ((x2 < 1 → Q (-1) (up I 80 0 0)) ∧ (¬ x2 < 1 → Wp fb d M_X12_isState [.int x2] (up I 80 0 0) J R (fun b4 => ((b4 = true → Wc fv d M_X12_laysFew [.ref 80] (up I 80 0 0) J R (fun u6 I7 => Wp fi d M_X12_at [.int x1, .int x2] I7 J R (fun r8 => (∃ n9 : Nat, r8 = nI n9 ∧ n9 < 8421 ∧ Q (I7 119 n9) I7)))) ∧ (b4 = false → Q (-1) (up I 80 0 0))))))))))) : K 0 [(0, .ref 80), (1, .int x1), (2, .int x2)] [] I J R := by
  refine k_ld hK 0 dX12_split_0 rfl rfl rfl rfl ?_
  refine k_ic hK dX12_split_1 ci_0 ?_
  refine k_pI hK dX12_split_2 lf_X12_142 rfl rfl rfl (sc_80 hs) ?_
  refine k_ld hK 1 dX12_split_5 rfl rfl rfl rfl ?_
  refine k_ic hK dX12_split_6 ci_2 ?_
  refine k_clt hK dX12_split_7 (tgt := 29) rfl (fun h1 => ?_) (fun h1 => ?_)
  · have hF := hF.1 h1
    refine k_ic hK dX12_split_29 ci_m1 ?_
    exact k_iret hK dX12_split_30 rfl rfl (done_0 rfl rfl) (qC_i hF)
  · have hF := hF.2 h1
    refine k_ld hK 1 dX12_split_10 rfl rfl rfl rfl ?_
    refine k_si hK dX12_split_11 cs_400 ?_
    refine k_cgt hK dX12_split_14 (tgt := 29) rfl (fun h2 => ?_) (fun h2 => ?_)
    · have hF := hF.1 h2
      refine k_ic hK dX12_split_29 ci_m1 ?_
      exact k_iret hK dX12_split_30 rfl rfl (done_0 rfl rfl) (qC_i hF)
    · have hF := hF.2 h2
      refine k_ld hK 2 dX12_split_17 rfl rfl rfl rfl ?_
      refine k_ic hK dX12_split_18 ci_1 ?_
      refine k_clt hK dX12_split_19 (tgt := 29) rfl (fun h3 => ?_) (fun h3 => ?_)
      · have hF := hF.1 h3
        refine k_ic hK dX12_split_29 ci_m1 ?_
        exact k_iret hK dX12_split_30 rfl rfl (done_0 rfl rfl) (qC_i hF)
      · have hF := hF.2 h3
        refine k_ld hK 2 dX12_split_22 rfl rfl rfl rfl ?_
        refine k_cSp hK dX12_split_23 lm_X12_499 (As := [.int x2]) (S := []) rfl (Nat.le_of_ble_eq_true rfl) (fit_0 rfl rfl) rfl hF (fun b4 hF => ?_)
        show K _ _ [.int (b2i b4)] _ _ _
        refine k_bne hK dX12_split_26 (tgt := 31) rfl (fun h5 => ?_) (fun h5 => ?_)
        · have hF := hF.1 h5
          refine k_ld hK 0 dX12_split_31 rfl rfl rfl rfl ?_
          refine k_cVc hK dX12_split_32 (Or.inl lm_X12_502) (As := []) (S := []) rfl (sc_80 hs) (Nat.le_of_ble_eq_true rfl) (fit_0 rfl rfl) rfl hF (fun u6 I7 hF => ?_)
          show K _ _ [] _ _ _
          refine k_ld hK 0 dX12_split_35 rfl rfl rfl rfl ?_
          refine k_gR hK dX12_split_36 lf_X12_130 rfl (sc_80 hs) (sf_80_72 hs) ?_
          refine k_ld hK 1 dX12_split_39 rfl rfl rfl rfl ?_
          refine k_ld hK 2 dX12_split_40 rfl rfl rfl rfl ?_
          refine k_cSp hK dX12_split_41 lm_X12_496 (As := [.int x1, .int x2]) (S := [.ref 119]) rfl (Nat.le_of_ble_eq_true rfl) (fit_0 rfl rfl) rfl hF (fun r8 hF => ?_)
          show K _ _ [.int r8, .ref 119] _ _ _
          obtain ⟨n9, i10, j11, hF⟩ := hF
          refine k_iald hK dX12_split_44 (sc_119 hs) sn_119 (by decide) i10 j11 rfl ?_
          exact k_iret hK dX12_split_45 rfl rfl (done_0 rfl rfl) (qC_i hF)
        · have hF := hF.2 h5
          refine k_ic hK dX12_split_29 ci_m1 ?_
          exact k_iret hK dX12_split_30 rfl rfl (done_0 rfl rfl) (qC_i hF)
theorem e_X12_split {d : Nat} {Q : Int32 → HI → Prop} {I : HI} {J : HJ} {R : HR} {x1 : Int32} {x2 : Int32} (hs : Stat R)  (hF : ((x1 < 2 → Q (-1) (up I 80 0 0)) ∧ (¬ x1 < 2 → ((400 < x1 → Q (-1) (up I 80 0 0)) ∧ (¬ 400 < x1 → ((x2 < 1 → Q (-1) (up I 80 0 0)) ∧ (¬ x2 < 1 → Wp fb d M_X12_isState [.int x2] (up I 80 0 0) J R (fun b4 => ((b4 = true → Wc fv d M_X12_laysFew [.ref 80] (up I 80 0 0) J R (fun u6 I7 => Wp fi d M_X12_at [.int x1, .int x2] I7 J R (fun r8 => (∃ n9 : Nat, r8 = nI n9 ∧ n9 < 8421 ∧ Q (I7 119 n9) I7)))) ∧ (b4 = false → Q (-1) (up I 80 0 0))))))))))) : Wc fi (d + 1) M_X12_split [.ref 80, .int x1, .int x2] I J R Q := ⟨Nat.le_of_ble_eq_true rfl, fun K hK => g_X12_split_0 hK hs hF⟩
set_option maxHeartbeats 4000000 in
theorem g_X12_states_0 {d : Nat} {K : KT} {Q : Int32 → HI → Prop} {I : HI} {J : HJ} {R : HR} {x1 : Int32} {x2 : Int32} (hK : am_R M_X12_states (am_W d) none R (qC fi J R Q) K) (hs : Stat R)  (hF : ((x1 < 1 → Q (-1) (up I 80 0 0)) ∧ (¬ x1 < 1 → ((400 < x1 → Q (-1) (up I 80 0 0)) ∧ (¬ 400 < x1 → ((0 ≤ x2 → Wc fv d M_X12_laysFew [.ref 80] (up I 80 0 0) J R (fun u4 I5 => K 29 [(0, .ref 80), (1, .int x1), (2, .int x2), (3, .int 0)] [] I5 J R)) ∧ (¬ 0 ≤ x2 → Q (-1) (up I 80 0 0)))))))) : K 0 [(0, .ref 80), (1, .int x1), (2, .int x2)] [] I J R := by
  refine k_ld hK 0 dX12_states_0 rfl rfl rfl rfl ?_
  refine k_ic hK dX12_states_1 ci_0 ?_
  refine k_pI hK dX12_states_2 lf_X12_142 rfl rfl rfl (sc_80 hs) ?_
  refine k_ld hK 1 dX12_states_5 rfl rfl rfl rfl ?_
  refine k_ic hK dX12_states_6 ci_1 ?_
  refine k_clt hK dX12_states_7 (tgt := 21) rfl (fun h1 => ?_) (fun h1 => ?_)
  · have hF := hF.1 h1
    refine k_ic hK dX12_states_21 ci_m1 ?_
    exact k_iret hK dX12_states_22 rfl rfl (done_0 rfl rfl) (qC_i hF)
  · have hF := hF.2 h1
    refine k_ld hK 1 dX12_states_10 rfl rfl rfl rfl ?_
    refine k_si hK dX12_states_11 cs_400 ?_
    refine k_cgt hK dX12_states_14 (tgt := 21) rfl (fun h2 => ?_) (fun h2 => ?_)
    · have hF := hF.1 h2
      refine k_ic hK dX12_states_21 ci_m1 ?_
      exact k_iret hK dX12_states_22 rfl rfl (done_0 rfl rfl) (qC_i hF)
    · have hF := hF.2 h2
      refine k_ld hK 2 dX12_states_17 rfl rfl rfl rfl ?_
      refine k_ge hK dX12_states_18 (tgt := 23) rfl (fun h3 => ?_) (fun h3 => ?_)
      · have hF := hF.1 h3
        refine k_ld hK 0 dX12_states_23 rfl rfl rfl rfl ?_
        refine k_cVc hK dX12_states_24 (Or.inl lm_X12_502) (As := []) (S := []) rfl (sc_80 hs) (Nat.le_of_ble_eq_true rfl) (fit_0 rfl rfl) rfl hF (fun u4 I5 hF => ?_)
        show K _ _ [] _ _ _
        refine k_ic hK dX12_states_27 ci_0 ?_
        refine k_st hK dX12_states_28 rfl rfl rfl (Nat.le_of_ble_eq_true rfl) rfl ?_
        exact k_sub hK [1, 2, 3, 0] rfl hF
      · have hF := hF.2 h3
        refine k_ic hK dX12_states_21 ci_m1 ?_
        exact k_iret hK dX12_states_22 rfl rfl (done_0 rfl rfl) (qC_i hF)
set_option maxHeartbeats 4000000 in
theorem g_X12_states_29 {d : Nat} {K : KT} {Q : Int32 → HI → Prop} {I : HI} {J : HJ} {R : HR} {x1 : Int32} {x2 : Int32} {x3 : Int32} (hK : am_R M_X12_states (am_W d) none R (qC fi J R Q) K) (hs : Stat R)  (hF : ((20 < x3 → Q (-2) I) ∧ (¬ 20 < x3 → Wp fi d M_X12_at [.int x1, .int x3] I J R (fun r2 => (∃ n3 : Nat, r2 = nI n3 ∧ n3 < 8421 ∧ ((x2 < (I 118 n3) → K 29 [(0, .ref 80), (1, .int x1), (2, .int x2), (3, .int (x3 + 1))] [] I J R) ∧ (¬ x2 < (I 118 n3) → Q x3 I))))))) : K 29 [(0, .ref 80), (1, .int x1), (2, .int x2), (3, .int x3)] [] I J R := by
  refine k_ld hK 3 dX12_states_29 rfl rfl rfl rfl ?_
  refine k_bi hK dX12_states_30 cb_20 ?_
  refine k_cgt hK dX12_states_32 (tgt := 57) rfl (fun h1 => ?_) (fun h1 => ?_)
  · have hF := hF.1 h1
    refine k_bi hK dX12_states_57 cb_m2 ?_
    exact k_iret hK dX12_states_59 rfl rfl (done_0 rfl rfl) (qC_i hF)
  · have hF := hF.2 h1
    refine k_ld hK 0 dX12_states_35 rfl rfl rfl rfl ?_
    refine k_gR hK dX12_states_36 lf_X12_127 rfl (sc_80 hs) (sf_80_71 hs) ?_
    refine k_ld hK 1 dX12_states_39 rfl rfl rfl rfl ?_
    refine k_ld hK 3 dX12_states_40 rfl rfl rfl rfl ?_
    refine k_cSp hK dX12_states_41 lm_X12_496 (As := [.int x1, .int x3]) (S := [.ref 118]) rfl (Nat.le_of_ble_eq_true rfl) (fit_0 rfl rfl) rfl hF (fun r2 hF => ?_)
    show K _ _ [.int r2, .ref 118] _ _ _
    obtain ⟨n3, i4, j5, hF⟩ := hF
    refine k_iald hK dX12_states_44 (sc_118 hs) sn_118 (by decide) i4 j5 rfl ?_
    refine k_ld hK 2 dX12_states_45 rfl rfl rfl rfl ?_
    refine k_cgt hK dX12_states_46 (tgt := 51) rfl (fun h6 => ?_) (fun h6 => ?_)
    · have hF := hF.1 h6
      refine k_iinc hK 3 dX12_states_51 (v := (x3 + 1)) rfl (Nat.le_of_ble_eq_true rfl) (congrArg (fun q => x3 + q) ci_1) rfl ?_
      refine k_goto hK dX12_states_54 (tgt := 29) rfl ?_
      exact k_sub hK [1, 2, 3, 0] rfl hF
    · have hF := hF.2 h6
      refine k_ld hK 3 dX12_states_49 rfl rfl rfl rfl ?_
      exact k_iret hK dX12_states_50 rfl rfl (done_0 rfl rfl) (qC_i hF)
set_option maxHeartbeats 4000000 in
theorem g_X12_acts_0 {d : Nat} {K : KT} {Q : Unit → HI → Prop} {I : HI} {J : HJ} {R : HR} {x1 : Int32} {x2 : Int32} {x3 : Int32} (hK : am_R M_X12_acts (am_W d) none R (qC fv J R Q) K) (hs : Stat R)  (hF : ((¬ (I 80 74) = (I 80 75) → K 32 [(0, .ref 80), (1, .int x1), (2, .int x2), (3, .int x3)] [] I J R) ∧ ((I 80 74) = (I 80 75) → K 32 [(0, .ref 80), (1, .int x1), (2, .int x2), (3, .int x3)] [] (up (up (up I 120 0 x1) 120 1 x2) 120 2 x3) J R))) : K 0 [(0, .ref 80), (1, .int x1), (2, .int x2), (3, .int x3)] [] I J R := by
  refine k_ld hK 0 dX12_acts_0 rfl rfl rfl rfl ?_
  refine k_gI hK dX12_acts_1 lf_X12_505 rfl (sc_80 hs) rfl ?_
  refine k_ld hK 0 dX12_acts_4 rfl rfl rfl rfl ?_
  refine k_gI hK dX12_acts_5 lf_X12_508 rfl (sc_80 hs) rfl ?_
  refine k_cne hK dX12_acts_8 (tgt := 32) rfl (fun h1 => ?_) (fun h1 => ?_)
  · have hF := hF.1 h1
    exact k_sub hK [0, 1, 2, 3] rfl hF
  · have hF := hF.2 h1
    refine k_ld hK 0 dX12_acts_11 rfl rfl rfl rfl ?_
    refine k_gR hK dX12_acts_12 lf_X12_133 rfl (sc_80 hs) (sf_80_76 hs) ?_
    refine k_ic hK dX12_acts_15 ci_0 ?_
    refine k_ld hK 1 dX12_acts_16 rfl rfl rfl rfl ?_
    refine k_iast hK dX12_acts_17 (sc_120 hs) sn_120 (by decide) rfl (by decide) ?_
    refine k_ld hK 0 dX12_acts_18 rfl rfl rfl rfl ?_
    refine k_gR hK dX12_acts_19 lf_X12_133 rfl (sc_80 hs) (sf_80_76 hs) ?_
    refine k_ic hK dX12_acts_22 ci_1 ?_
    refine k_ld hK 2 dX12_acts_23 rfl rfl rfl rfl ?_
    refine k_iast hK dX12_acts_24 (sc_120 hs) sn_120 (by decide) rfl (by decide) ?_
    refine k_ld hK 0 dX12_acts_25 rfl rfl rfl rfl ?_
    refine k_gR hK dX12_acts_26 lf_X12_133 rfl (sc_80 hs) (sf_80_76 hs) ?_
    refine k_ic hK dX12_acts_29 ci_2 ?_
    refine k_ld hK 3 dX12_acts_30 rfl rfl rfl rfl ?_
    refine k_iast hK dX12_acts_31 (sc_120 hs) sn_120 (by decide) rfl (by decide) ?_
    exact k_sub hK [0, 1, 2, 3] rfl hF
set_option maxHeartbeats 4000000 in
theorem g_X12_acts_32 {d : Nat} {K : KT} {Q : Unit → HI → Prop} {I : HI} {J : HJ} {R : HR} {x1 : Int32} {x2 : Int32} {x3 : Int32} (hK : am_R M_X12_acts (am_W d) none R (qC fv J R Q) K) (hs : Stat R)  (hF : ((¬ x1 = 1 → ((¬ x1 = 3 → K 78 [(0, .ref 80)] [.int 0, .int (I 80 78), .ref 80] (up (up I 80 74 ((I 80 74) + 1)) 80 77 ((I 80 77) + (x3 - x2))) J R) ∧ (x1 = 3 → K 78 [(0, .ref 80)] [.int (-1), .int (I 80 78), .ref 80] (up (up I 80 74 ((I 80 74) + 1)) 80 77 ((I 80 77) + (x3 - x2))) J R))) ∧ (x1 = 1 → K 78 [(0, .ref 80)] [.int 1, .int (I 80 78), .ref 80] (up (up I 80 74 ((I 80 74) + 1)) 80 77 ((I 80 77) + (x3 - x2))) J R))) : K 32 [(0, .ref 80), (1, .int x1), (2, .int x2), (3, .int x3)] [] I J R := by
  refine k_ld hK 0 dX12_acts_32 rfl rfl rfl rfl ?_
  refine k_op hK dX12_acts_33 rfl rfl ?_
  refine k_gI hK dX12_acts_34 lf_X12_505 rfl (sc_80 hs) rfl ?_
  refine k_ic hK dX12_acts_37 ci_1 ?_
  refine k_op hK dX12_acts_38 rfl rfl ?_
  refine k_pI hK dX12_acts_39 lf_X12_505 rfl rfl rfl (sc_80 hs) ?_
  refine k_ld hK 0 dX12_acts_42 rfl rfl rfl rfl ?_
  refine k_op hK dX12_acts_43 rfl rfl ?_
  refine k_gI hK dX12_acts_44 lf_X12_511 rfl (sc_80 hs) ((up_nk (by decide)).trans rfl) ?_
  refine k_ld hK 3 dX12_acts_47 rfl rfl rfl rfl ?_
  refine k_ld hK 2 dX12_acts_48 rfl rfl rfl rfl ?_
  refine k_op hK dX12_acts_49 rfl rfl ?_
  refine k_op hK dX12_acts_50 rfl rfl ?_
  refine k_pI hK dX12_acts_51 lf_X12_511 rfl rfl rfl (sc_80 hs) ?_
  refine k_ld hK 0 dX12_acts_54 rfl rfl rfl rfl ?_
  refine k_op hK dX12_acts_55 rfl rfl ?_
  refine k_gI hK dX12_acts_56 lf_X12_514 rfl (sc_80 hs) ((up_nk (by decide)).trans ((up_nk (by decide)).trans rfl)) ?_
  refine k_ld hK 1 dX12_acts_59 rfl rfl rfl rfl ?_
  refine k_ic hK dX12_acts_60 ci_1 ?_
  refine k_cne hK dX12_acts_61 (tgt := 68) rfl (fun h1 => ?_) (fun h1 => ?_)
  · have hF := hF.1 h1
    refine k_ld hK 1 dX12_acts_68 rfl rfl rfl rfl ?_
    refine k_ic hK dX12_acts_69 ci_3 ?_
    refine k_cne hK dX12_acts_70 (tgt := 77) rfl (fun h2 => ?_) (fun h2 => ?_)
    · have hF := hF.1 h2
      refine k_ic hK dX12_acts_77 ci_0 ?_
      exact k_sub hK [0] rfl hF
    · have hF := hF.2 h2
      refine k_ic hK dX12_acts_73 ci_m1 ?_
      refine k_goto hK dX12_acts_74 (tgt := 78) rfl ?_
      exact k_sub hK [0] rfl hF
  · have hF := hF.2 h1
    refine k_ic hK dX12_acts_64 ci_1 ?_
    refine k_goto hK dX12_acts_65 (tgt := 78) rfl ?_
    exact k_sub hK [0] rfl hF
set_option maxHeartbeats 4000000 in
theorem g_X12_acts_78 {d : Nat} {K : KT} {Q : Unit → HI → Prop} {I : HI} {J : HJ} {R : HR} {u0 : Int32} {u1 : Int32} (hK : am_R M_X12_acts (am_W d) none R (qC fv J R Q) K) (hs : Stat R)  (hF : (((u1 + u0) ≤ (I 80 79) → Q () (up (up I 80 78 (u1 + u0)) 80 79 (I 80 79))) ∧ (¬ (u1 + u0) ≤ (I 80 79) → Q () (up (up I 80 78 (u1 + u0)) 80 79 (u1 + u0))))) : K 78 [(0, .ref 80)] [.int u0, .int u1, .ref 80] I J R := by
  refine k_op hK dX12_acts_78 rfl rfl ?_
  refine k_pI hK dX12_acts_79 lf_X12_514 rfl rfl rfl (sc_80 hs) ?_
  refine k_ld hK 0 dX12_acts_82 rfl rfl rfl rfl ?_
  refine k_ld hK 0 dX12_acts_83 rfl rfl rfl rfl ?_
  refine k_gI hK dX12_acts_84 lf_X12_514 rfl (sc_80 hs) up_s ?_
  refine k_ld hK 0 dX12_acts_87 rfl rfl rfl rfl ?_
  refine k_gI hK dX12_acts_88 lf_X12_517 rfl (sc_80 hs) ((up_nk (by decide)).trans rfl) ?_
  refine k_cle hK dX12_acts_91 (tgt := 101) rfl (fun h1 => ?_) (fun h1 => ?_)
  · have hF := hF.1 h1
    refine k_ld hK 0 dX12_acts_101 rfl rfl rfl rfl ?_
    refine k_gI hK dX12_acts_102 lf_X12_517 rfl (sc_80 hs) ((up_nk (by decide)).trans rfl) ?_
    refine k_pI hK dX12_acts_105 lf_X12_517 rfl rfl rfl (sc_80 hs) ?_
    exact k_vret hK dX12_acts_108 rfl (done_0 rfl rfl) (qC_i hF)
  · have hF := hF.2 h1
    refine k_ld hK 0 dX12_acts_94 rfl rfl rfl rfl ?_
    refine k_gI hK dX12_acts_95 lf_X12_514 rfl (sc_80 hs) up_s ?_
    refine k_goto hK dX12_acts_98 (tgt := 105) rfl ?_
    refine k_pI hK dX12_acts_105 lf_X12_517 rfl rfl rfl (sc_80 hs) ?_
    exact k_vret hK dX12_acts_108 rfl (done_0 rfl rfl) (qC_i hF)
set_option maxHeartbeats 4000000 in
theorem g_X12_backward__0 {d : Nat} {K : KT} {Q : Unit → HI → Prop} {I : HI} {J : HJ} {R : HR} {x1 : Int32} {x2 : Int32} {x3 : Int32} (hK : am_R M_X12_backward_ (am_W d) none R (qC fv J R Q) K) (hs : Stat R)  (hF : ((¬ (x2 - x1) = 1 → ((¬ x3 = 0 → Wp fi d M_X12_at [.int (x2 - x1), .int x3] I J R (fun r3 => (∃ n4 : Nat, r3 = nI n4 ∧ n4 < 8421 ∧ Wc fv d M_X12_acts [.ref 80, .int 0, .int x1, .int (x1 + (I 119 n4))] I J R (fun u7 I8 => Wc fv d M_X12_acts [.ref 80, .int 1, .int (x1 + (I 119 n4)), .int (x1 + (I 119 n4))] I8 J R (fun u9 I10 => Wc fv d M_X12_backward_ [.ref 80, .int (x1 + (I 119 n4)), .int x2, .int (x3 - 1)] I10 J R (fun u11 I12 => Wc fv d M_X12_acts [.ref 80, .int 3, .int (x1 + (I 119 n4)), .int (x1 + (I 119 n4))] I12 J R (fun u13 I14 => Wc fv d M_X12_backward_ [.ref 80, .int x1, .int (x1 + (I 119 n4)), .int x3] I14 J R (fun u15 I16 => Q () I16)))))))) ∧ (x3 = 0 → K 28 [(0, .ref 80), (1, .int x1), (5, .int (x2 - 1))] [] I J R))) ∧ ((x2 - x1) = 1 → Wc fv d M_X12_acts [.ref 80, .int 2, .int x1, .int x1] I J R (fun u17 I18 => Q () I18)))) : K 0 [(0, .ref 80), (1, .int x1), (2, .int x2), (3, .int x3)] [] I J R := by
  refine k_ld hK 2 dX12_backward__0 rfl rfl rfl rfl ?_
  refine k_ld hK 1 dX12_backward__1 rfl rfl rfl rfl ?_
  refine k_op hK dX12_backward__2 rfl rfl ?_
  refine k_st hK dX12_backward__3 rfl rfl rfl (Nat.le_of_ble_eq_true rfl) rfl ?_
  refine k_ld hK 0 dX12_backward__5 rfl rfl rfl rfl ?_
  refine k_ic hK dX12_backward__7 ci_1 ?_
  refine k_cne hK dX12_backward__8 (tgt := 19) rfl (fun h1 => ?_) (fun h1 => ?_)
  · have hF := hF.1 h1
    refine k_ld hK 4 dX12_backward__19 rfl rfl rfl rfl ?_
    refine k_ne hK dX12_backward__20 (tgt := 64) rfl (fun h2 => ?_) (fun h2 => ?_)
    · have hF := hF.1 h2
      refine k_ld hK 2 dX12_backward__64 rfl rfl rfl rfl ?_
      refine k_ld hK 1 dX12_backward__65 rfl rfl rfl rfl ?_
      refine k_gR hK dX12_backward__66 lf_X12_130 rfl (sc_80 hs) (sf_80_72 hs) ?_
      refine k_ld hK 0 dX12_backward__69 rfl rfl rfl rfl ?_
      refine k_ld hK 4 dX12_backward__71 rfl rfl rfl rfl ?_
      refine k_cSp hK dX12_backward__72 lm_X12_496 (As := [.int (x2 - x1), .int x3]) (S := [.ref 119, .int x1]) rfl (Nat.le_of_ble_eq_true rfl) (fit_0 rfl rfl) rfl hF (fun r3 hF => ?_)
      show K _ _ [.int r3, .ref 119, .int x1] _ _ _
      obtain ⟨n4, i5, j6, hF⟩ := hF
      refine k_iald hK dX12_backward__75 (sc_119 hs) sn_119 (by decide) i5 j6 rfl ?_
      refine k_op hK dX12_backward__76 rfl rfl ?_
      refine k_st hK dX12_backward__77 rfl rfl rfl (Nat.le_of_ble_eq_true rfl) rfl ?_
      refine k_ld hK 2 dX12_backward__79 rfl rfl rfl rfl ?_
      refine k_ic hK dX12_backward__80 ci_0 ?_
      refine k_ld hK 3 dX12_backward__81 rfl rfl rfl rfl ?_
      refine k_ld hK 0 dX12_backward__82 rfl rfl rfl rfl ?_
      refine k_cVc hK dX12_backward__84 (Or.inl lm_X12_520) (As := [.int 0, .int x1, .int (x1 + (I 119 n4))]) (S := []) rfl (sc_80 hs) (Nat.le_of_ble_eq_true rfl) (fit_0 rfl rfl) rfl hF (fun u7 I8 hF => ?_)
      show K _ _ [] _ _ _
      refine k_ld hK 2 dX12_backward__87 rfl rfl rfl rfl ?_
      refine k_ic hK dX12_backward__88 ci_1 ?_
      refine k_ld hK 0 dX12_backward__89 rfl rfl rfl rfl ?_
      refine k_ld hK 0 dX12_backward__91 rfl rfl rfl rfl ?_
      refine k_cVc hK dX12_backward__93 (Or.inl lm_X12_520) (As := [.int 1, .int (x1 + (I 119 n4)), .int (x1 + (I 119 n4))]) (S := []) rfl (sc_80 hs) (Nat.le_of_ble_eq_true rfl) (fit_0 rfl rfl) rfl hF (fun u9 I10 hF => ?_)
      show K _ _ [] _ _ _
      refine k_ld hK 2 dX12_backward__96 rfl rfl rfl rfl ?_
      refine k_ld hK 0 dX12_backward__97 rfl rfl rfl rfl ?_
      refine k_ld hK 4 dX12_backward__99 rfl rfl rfl rfl ?_
      refine k_ld hK 5 dX12_backward__100 rfl rfl rfl rfl ?_
      refine k_ic hK dX12_backward__101 ci_1 ?_
      refine k_op hK dX12_backward__102 rfl rfl ?_
      refine k_cVc hK dX12_backward__103 (Or.inl lm_X12_522) (As := [.int (x1 + (I 119 n4)), .int x2, .int (x3 - 1)]) (S := []) rfl (sc_80 hs) (Nat.le_of_ble_eq_true rfl) (fit_0 rfl rfl) rfl hF (fun u11 I12 hF => ?_)
      show K _ _ [] _ _ _
      refine k_ld hK 2 dX12_backward__106 rfl rfl rfl rfl ?_
      refine k_ic hK dX12_backward__107 ci_3 ?_
      refine k_ld hK 0 dX12_backward__108 rfl rfl rfl rfl ?_
      refine k_ld hK 0 dX12_backward__110 rfl rfl rfl rfl ?_
      refine k_cVc hK dX12_backward__112 (Or.inl lm_X12_520) (As := [.int 3, .int (x1 + (I 119 n4)), .int (x1 + (I 119 n4))]) (S := []) rfl (sc_80 hs) (Nat.le_of_ble_eq_true rfl) (fit_0 rfl rfl) rfl hF (fun u13 I14 hF => ?_)
      show K _ _ [] _ _ _
      refine k_ld hK 2 dX12_backward__115 rfl rfl rfl rfl ?_
      refine k_ld hK 3 dX12_backward__116 rfl rfl rfl rfl ?_
      refine k_ld hK 0 dX12_backward__117 rfl rfl rfl rfl ?_
      refine k_ld hK 5 dX12_backward__119 rfl rfl rfl rfl ?_
      refine k_cVc hK dX12_backward__120 (Or.inl lm_X12_522) (As := [.int x1, .int (x1 + (I 119 n4)), .int x3]) (S := []) rfl (sc_80 hs) (Nat.le_of_ble_eq_true rfl) (fit_0 rfl rfl) rfl hF (fun u15 I16 hF => ?_)
      show K _ _ [] _ _ _
      exact k_vret hK dX12_backward__123 rfl (done_0 rfl rfl) (qC_i hF)
    · have hF := hF.2 h2
      refine k_ld hK 3 dX12_backward__23 rfl rfl rfl rfl ?_
      refine k_ic hK dX12_backward__24 ci_1 ?_
      refine k_op hK dX12_backward__25 rfl rfl ?_
      refine k_st hK dX12_backward__26 rfl rfl rfl (Nat.le_of_ble_eq_true rfl) rfl ?_
      exact k_sub hK [2, 3, 0] rfl hF
  · have hF := hF.2 h1
    refine k_ld hK 1 dX12_backward__11 rfl rfl rfl rfl ?_
    refine k_ic hK dX12_backward__12 ci_2 ?_
    refine k_ld hK 2 dX12_backward__13 rfl rfl rfl rfl ?_
    refine k_ld hK 2 dX12_backward__14 rfl rfl rfl rfl ?_
    refine k_cVc hK dX12_backward__15 (Or.inl lm_X12_520) (As := [.int 2, .int x1, .int x1]) (S := []) rfl (sc_80 hs) (Nat.le_of_ble_eq_true rfl) (fit_0 rfl rfl) rfl hF (fun u17 I18 hF => ?_)
    show K _ _ [] _ _ _
    exact k_vret hK dX12_backward__18 rfl (done_0 rfl rfl) (qC_i hF)
set_option maxHeartbeats 4000000 in
theorem g_X12_backward__28 {d : Nat} {K : KT} {Q : Unit → HI → Prop} {I : HI} {J : HJ} {R : HR} {x1 : Int32} {x5 : Int32} (hK : am_R M_X12_backward_ (am_W d) none R (qC fv J R Q) K) (hs : Stat R)  (hF : ((x5 < x1 → Q () I) ∧ (¬ x5 < x1 → ((x5 = x1 → Wc fv d M_X12_acts [.ref 80, .int 2, .int x5, .int x5] I J R (fun u3 I4 => K 28 [(0, .ref 80), (1, .int x1), (5, .int (x5 + (-1)))] [] I4 J R)) ∧ (¬ x5 = x1 → Wc fv d M_X12_acts [.ref 80, .int 0, .int x1, .int x5] I J R (fun u5 I6 => Wc fv d M_X12_acts [.ref 80, .int 2, .int x5, .int x5] I6 J R (fun u7 I8 => K 28 [(0, .ref 80), (1, .int x1), (5, .int (x5 + (-1)))] [] I8 J R))))))) : K 28 [(0, .ref 80), (1, .int x1), (5, .int x5)] [] I J R := by
  refine k_ld hK 2 dX12_backward__28 rfl rfl rfl rfl ?_
  refine k_ld hK 1 dX12_backward__30 rfl rfl rfl rfl ?_
  refine k_clt hK dX12_backward__31 (tgt := 63) rfl (fun h1 => ?_) (fun h1 => ?_)
  · have hF := hF.1 h1
    exact k_vret hK dX12_backward__63 rfl (done_0 rfl rfl) (qC_i hF)
  · have hF := hF.2 h1
    refine k_ld hK 2 dX12_backward__34 rfl rfl rfl rfl ?_
    refine k_ld hK 1 dX12_backward__36 rfl rfl rfl rfl ?_
    refine k_ceq hK dX12_backward__37 (tgt := 48) rfl (fun h2 => ?_) (fun h2 => ?_)
    · have hF := hF.1 h2
      refine k_ld hK 0 dX12_backward__48 rfl rfl rfl rfl ?_
      refine k_ic hK dX12_backward__49 ci_2 ?_
      refine k_ld hK 2 dX12_backward__50 rfl rfl rfl rfl ?_
      refine k_ld hK 2 dX12_backward__52 rfl rfl rfl rfl ?_
      refine k_cVc hK dX12_backward__54 (Or.inl lm_X12_520) (As := [.int 2, .int x5, .int x5]) (S := []) rfl (sc_80 hs) (Nat.le_of_ble_eq_true rfl) (fit_0 rfl rfl) rfl hF (fun u3 I4 hF => ?_)
      show K _ _ [] _ _ _
      refine k_iinc hK 2 dX12_backward__57 (v := (x5 + (-1))) rfl (Nat.le_of_ble_eq_true rfl) (congrArg (fun q => x5 + q) ci_m1) rfl ?_
      refine k_goto hK dX12_backward__60 (tgt := 28) rfl ?_
      exact k_sub hK [1, 2, 0] rfl hF
    · have hF := hF.2 h2
      refine k_ld hK 0 dX12_backward__40 rfl rfl rfl rfl ?_
      refine k_ic hK dX12_backward__41 ci_0 ?_
      refine k_ld hK 1 dX12_backward__42 rfl rfl rfl rfl ?_
      refine k_ld hK 2 dX12_backward__43 rfl rfl rfl rfl ?_
      refine k_cVc hK dX12_backward__45 (Or.inl lm_X12_520) (As := [.int 0, .int x1, .int x5]) (S := []) rfl (sc_80 hs) (Nat.le_of_ble_eq_true rfl) (fit_0 rfl rfl) rfl hF (fun u5 I6 hF => ?_)
      show K _ _ [] _ _ _
      refine k_ld hK 0 dX12_backward__48 rfl rfl rfl rfl ?_
      refine k_ic hK dX12_backward__49 ci_2 ?_
      refine k_ld hK 2 dX12_backward__50 rfl rfl rfl rfl ?_
      refine k_ld hK 2 dX12_backward__52 rfl rfl rfl rfl ?_
      refine k_cVc hK dX12_backward__54 (Or.inl lm_X12_520) (As := [.int 2, .int x5, .int x5]) (S := []) rfl (sc_80 hs) (Nat.le_of_ble_eq_true rfl) (fit_0 rfl rfl) rfl hF (fun u7 I8 hF => ?_)
      show K _ _ [] _ _ _
      refine k_iinc hK 2 dX12_backward__57 (v := (x5 + (-1))) rfl (Nat.le_of_ble_eq_true rfl) (congrArg (fun q => x5 + q) ci_m1) rfl ?_
      refine k_goto hK dX12_backward__60 (tgt := 28) rfl ?_
      exact k_sub hK [1, 2, 0] rfl hF
set_option maxHeartbeats 4000000 in
theorem g_X12_allActs_0 {d : Nat} {K : KT} {Q : Unit → HI → Prop} {I : HI} {J : HJ} {R : HR} {x1 : Int32} {x2 : Int32} {x3 : Int32} (hK : am_R M_X12_allActs (am_W d) none R (qC fv J R Q) K) (hs : Stat R)  (hF : Wc fv d M_X12_laysFew [.ref 80] I J R (fun u1 I2 => Wc fv d M_X12_backward_ [.ref 80, .int 0, .int x1, .int x2] (up (up (up (up (up I2 80 74 0) 80 75 x3) 80 77 0) 80 78 0) 80 79 0) J R (fun u3 I4 => Q () I4))) : K 0 [(0, .ref 80), (1, .int x1), (2, .int x2), (3, .int x3)] [] I J R := by
  refine k_ld hK 0 dX12_allActs_0 rfl rfl rfl rfl ?_
  refine k_cVc hK dX12_allActs_1 (Or.inl lm_X12_502) (As := []) (S := []) rfl (sc_80 hs) (Nat.le_of_ble_eq_true rfl) (fit_0 rfl rfl) rfl hF (fun u1 I2 hF => ?_)
  show K _ _ [] _ _ _
  refine k_ld hK 0 dX12_allActs_4 rfl rfl rfl rfl ?_
  refine k_ic hK dX12_allActs_5 ci_0 ?_
  refine k_pI hK dX12_allActs_6 lf_X12_505 rfl rfl rfl (sc_80 hs) ?_
  refine k_ld hK 0 dX12_allActs_9 rfl rfl rfl rfl ?_
  refine k_ld hK 3 dX12_allActs_10 rfl rfl rfl rfl ?_
  refine k_pI hK dX12_allActs_11 lf_X12_508 rfl rfl rfl (sc_80 hs) ?_
  refine k_ld hK 0 dX12_allActs_14 rfl rfl rfl rfl ?_
  refine k_ic hK dX12_allActs_15 ci_0 ?_
  refine k_pI hK dX12_allActs_16 lf_X12_511 rfl rfl rfl (sc_80 hs) ?_
  refine k_ld hK 0 dX12_allActs_19 rfl rfl rfl rfl ?_
  refine k_ic hK dX12_allActs_20 ci_0 ?_
  refine k_pI hK dX12_allActs_21 lf_X12_514 rfl rfl rfl (sc_80 hs) ?_
  refine k_ld hK 0 dX12_allActs_24 rfl rfl rfl rfl ?_
  refine k_ic hK dX12_allActs_25 ci_0 ?_
  refine k_pI hK dX12_allActs_26 lf_X12_517 rfl rfl rfl (sc_80 hs) ?_
  refine k_ld hK 0 dX12_allActs_29 rfl rfl rfl rfl ?_
  refine k_ic hK dX12_allActs_30 ci_0 ?_
  refine k_ld hK 1 dX12_allActs_31 rfl rfl rfl rfl ?_
  refine k_ld hK 2 dX12_allActs_32 rfl rfl rfl rfl ?_
  refine k_cVc hK dX12_allActs_33 (Or.inl lm_X12_522) (As := [.int 0, .int x1, .int x2]) (S := []) rfl (sc_80 hs) (Nat.le_of_ble_eq_true rfl) (fit_0 rfl rfl) rfl hF (fun u3 I4 hF => ?_)
  show K _ _ [] _ _ _
  exact k_vret hK dX12_allActs_36 rfl (done_0 rfl rfl) (qC_i hF)
theorem e_X12_allActs {d : Nat} {Q : Unit → HI → Prop} {I : HI} {J : HJ} {R : HR} {x1 : Int32} {x2 : Int32} {x3 : Int32} (hs : Stat R)  (hF : Wc fv d M_X12_laysFew [.ref 80] I J R (fun u1 I2 => Wc fv d M_X12_backward_ [.ref 80, .int 0, .int x1, .int x2] (up (up (up (up (up I2 80 74 0) 80 75 x3) 80 77 0) 80 78 0) 80 79 0) J R (fun u3 I4 => Q () I4))) : Wc fv (d + 1) M_X12_allActs [.ref 80, .int x1, .int x2, .int x3] I J R Q := ⟨Nat.le_of_ble_eq_true rfl, fun K hK => g_X12_allActs_0 hK hs hF⟩
set_option maxHeartbeats 4000000 in
theorem g_X12_action_0 {d : Nat} {K : KT} {Q : Int32 → HI → Prop} {I : HI} {J : HJ} {R : HR} {x1 : Int32} {x2 : Int32} {x3 : Int32} {x4 : Int32} (hK : am_R M_X12_action (am_W d) none R (qC fi J R Q) K) (hs : Stat R)  (hF : ((x1 < 1 → Q (-1) (up I 80 0 0)) ∧ (¬ x1 < 1 → ((60 < x1 → Q (-1) (up I 80 0 0)) ∧ (¬ 60 < x1 → Wp fb d M_X12_isState [.int x2] (up I 80 0 0) J R (fun b3 => ((b3 = false → Q (-1) (up I 80 0 0)) ∧ (b3 = true → ((x3 < 0 → Q (-1) (up I 80 0 0)) ∧ (¬ x3 < 0 → ((x4 < 0 → Q (-1) (up I 80 0 0)) ∧ (¬ x4 < 0 → ((x4 ≤ 2 → Wc fv d M_X12_allActs [.ref 80, .int x1, .int x2, .int x3] (up I 80 0 0) J R (fun u8 I9 => (((I9 80 74) ≤ x3 → Q (-2) I9) ∧ (¬ (I9 80 74) ≤ x3 → (∃ n11 : Nat, x4 = nI n11 ∧ n11 < 3 ∧ Q (I9 120 n11) I9))))) ∧ (¬ x4 ≤ 2 → Q (-1) (up I 80 0 0))))))))))))))) : K 0 [(0, .ref 80), (1, .int x1), (2, .int x2), (3, .int x3), (4, .int x4)] [] I J R := by
  refine k_ld hK 0 dX12_action_0 rfl rfl rfl rfl ?_
  refine k_ic hK dX12_action_1 ci_0 ?_
  refine k_pI hK dX12_action_2 lf_X12_142 rfl rfl rfl (sc_80 hs) ?_
  refine k_ld hK 1 dX12_action_5 rfl rfl rfl rfl ?_
  refine k_ic hK dX12_action_6 ci_1 ?_
  refine k_clt hK dX12_action_7 (tgt := 38) rfl (fun h1 => ?_) (fun h1 => ?_)
  · have hF := hF.1 h1
    refine k_ic hK dX12_action_38 ci_m1 ?_
    exact k_iret hK dX12_action_39 rfl rfl (done_0 rfl rfl) (qC_i hF)
  · have hF := hF.2 h1
    refine k_ld hK 1 dX12_action_10 rfl rfl rfl rfl ?_
    refine k_bi hK dX12_action_11 cb_60 ?_
    refine k_cgt hK dX12_action_13 (tgt := 38) rfl (fun h2 => ?_) (fun h2 => ?_)
    · have hF := hF.1 h2
      refine k_ic hK dX12_action_38 ci_m1 ?_
      exact k_iret hK dX12_action_39 rfl rfl (done_0 rfl rfl) (qC_i hF)
    · have hF := hF.2 h2
      refine k_ld hK 2 dX12_action_16 rfl rfl rfl rfl ?_
      refine k_cSp hK dX12_action_17 lm_X12_499 (As := [.int x2]) (S := []) rfl (Nat.le_of_ble_eq_true rfl) (fit_0 rfl rfl) rfl hF (fun b3 hF => ?_)
      show K _ _ [.int (b2i b3)] _ _ _
      refine k_beq hK dX12_action_20 (tgt := 38) rfl (fun h4 => ?_) (fun h4 => ?_)
      · have hF := hF.1 h4
        refine k_ic hK dX12_action_38 ci_m1 ?_
        exact k_iret hK dX12_action_39 rfl rfl (done_0 rfl rfl) (qC_i hF)
      · have hF := hF.2 h4
        refine k_ld hK 3 dX12_action_23 rfl rfl rfl rfl ?_
        refine k_lt hK dX12_action_24 (tgt := 38) rfl (fun h5 => ?_) (fun h5 => ?_)
        · have hF := hF.1 h5
          refine k_ic hK dX12_action_38 ci_m1 ?_
          exact k_iret hK dX12_action_39 rfl rfl (done_0 rfl rfl) (qC_i hF)
        · have hF := hF.2 h5
          refine k_ld hK 4 dX12_action_27 rfl rfl rfl rfl ?_
          refine k_lt hK dX12_action_29 (tgt := 38) rfl (fun h6 => ?_) (fun h6 => ?_)
          · have hF := hF.1 h6
            refine k_ic hK dX12_action_38 ci_m1 ?_
            exact k_iret hK dX12_action_39 rfl rfl (done_0 rfl rfl) (qC_i hF)
          · have hF := hF.2 h6
            refine k_ld hK 4 dX12_action_32 rfl rfl rfl rfl ?_
            refine k_ic hK dX12_action_34 ci_2 ?_
            refine k_cle hK dX12_action_35 (tgt := 40) rfl (fun h7 => ?_) (fun h7 => ?_)
            · have hF := hF.1 h7
              refine k_ld hK 0 dX12_action_40 rfl rfl rfl rfl ?_
              refine k_ld hK 1 dX12_action_41 rfl rfl rfl rfl ?_
              refine k_ld hK 2 dX12_action_42 rfl rfl rfl rfl ?_
              refine k_ld hK 3 dX12_action_43 rfl rfl rfl rfl ?_
              refine k_cVc hK dX12_action_44 (Or.inl lm_X12_524) (As := [.int x1, .int x2, .int x3]) (S := []) rfl (sc_80 hs) (Nat.le_of_ble_eq_true rfl) (fit_0 rfl rfl) rfl hF (fun u8 I9 hF => ?_)
              show K _ _ [] _ _ _
              refine k_ld hK 3 dX12_action_47 rfl rfl rfl rfl ?_
              refine k_ld hK 0 dX12_action_48 rfl rfl rfl rfl ?_
              refine k_gI hK dX12_action_49 lf_X12_505 rfl (sc_80 hs) rfl ?_
              refine k_cge hK dX12_action_52 (tgt := 65) rfl (fun h10 => ?_) (fun h10 => ?_)
              · have hF := hF.1 h10
                refine k_bi hK dX12_action_65 cb_m2 ?_
                exact k_iret hK dX12_action_67 rfl rfl (done_0 rfl rfl) (qC_i hF)
              · have hF := hF.2 h10
                refine k_ld hK 0 dX12_action_55 rfl rfl rfl rfl ?_
                refine k_gR hK dX12_action_56 lf_X12_133 rfl (sc_80 hs) (sf_80_76 hs) ?_
                refine k_ld hK 4 dX12_action_59 rfl rfl rfl rfl ?_
                obtain ⟨n11, i12, j13, hF⟩ := hF
                refine k_iald hK dX12_action_61 (sc_120 hs) sn_120 (by decide) i12 j13 rfl ?_
                refine k_goto hK dX12_action_62 (tgt := 67) rfl ?_
                exact k_iret hK dX12_action_67 rfl rfl (done_0 rfl rfl) (qC_i hF)
            · have hF := hF.2 h7
              refine k_ic hK dX12_action_38 ci_m1 ?_
              exact k_iret hK dX12_action_39 rfl rfl (done_0 rfl rfl) (qC_i hF)
theorem e_X12_action {d : Nat} {Q : Int32 → HI → Prop} {I : HI} {J : HJ} {R : HR} {x1 : Int32} {x2 : Int32} {x3 : Int32} {x4 : Int32} (hs : Stat R)  (hF : ((x1 < 1 → Q (-1) (up I 80 0 0)) ∧ (¬ x1 < 1 → ((60 < x1 → Q (-1) (up I 80 0 0)) ∧ (¬ 60 < x1 → Wp fb d M_X12_isState [.int x2] (up I 80 0 0) J R (fun b3 => ((b3 = false → Q (-1) (up I 80 0 0)) ∧ (b3 = true → ((x3 < 0 → Q (-1) (up I 80 0 0)) ∧ (¬ x3 < 0 → ((x4 < 0 → Q (-1) (up I 80 0 0)) ∧ (¬ x4 < 0 → ((x4 ≤ 2 → Wc fv d M_X12_allActs [.ref 80, .int x1, .int x2, .int x3] (up I 80 0 0) J R (fun u8 I9 => (((I9 80 74) ≤ x3 → Q (-2) I9) ∧ (¬ (I9 80 74) ≤ x3 → (∃ n11 : Nat, x4 = nI n11 ∧ n11 < 3 ∧ Q (I9 120 n11) I9))))) ∧ (¬ x4 ≤ 2 → Q (-1) (up I 80 0 0))))))))))))))) : Wc fi (d + 1) M_X12_action [.ref 80, .int x1, .int x2, .int x3, .int x4] I J R Q := ⟨Nat.le_of_ble_eq_true rfl, fun K hK => g_X12_action_0 hK hs hF⟩
set_option maxHeartbeats 4000000 in
theorem g_X12_actions_0 {d : Nat} {K : KT} {Q : Int32 → HI → Prop} {I : HI} {J : HJ} {R : HR} {x1 : Int32} {x2 : Int32} {x3 : Int32} (hK : am_R M_X12_actions (am_W d) none R (qC fi J R Q) K) (hs : Stat R)  (hF : ((x1 < 1 → Q (-1) (up I 80 0 0)) ∧ (¬ x1 < 1 → ((60 < x1 → Q (-1) (up I 80 0 0)) ∧ (¬ 60 < x1 → Wp fb d M_X12_isState [.int x2] (up I 80 0 0) J R (fun b3 => ((b3 = false → Q (-1) (up I 80 0 0)) ∧ (b3 = true → ((x3 < 0 → Q (-1) (up I 80 0 0)) ∧ (¬ x3 < 0 → ((x3 ≤ 2 → Wc fv d M_X12_allActs [.ref 80, .int x1, .int x2, .int (-1)] (up I 80 0 0) J R (fun u7 I8 => ((¬ x3 = 0 → ((¬ x3 = 1 → Q (I8 80 79) I8) ∧ (x3 = 1 → Q (I8 80 77) I8))) ∧ (x3 = 0 → Q (I8 80 74) I8)))) ∧ (¬ x3 ≤ 2 → Q (-1) (up I 80 0 0))))))))))))) : K 0 [(0, .ref 80), (1, .int x1), (2, .int x2), (3, .int x3)] [] I J R := by
  refine k_ld hK 0 dX12_actions_0 rfl rfl rfl rfl ?_
  refine k_ic hK dX12_actions_1 ci_0 ?_
  refine k_pI hK dX12_actions_2 lf_X12_142 rfl rfl rfl (sc_80 hs) ?_
  refine k_ld hK 1 dX12_actions_5 rfl rfl rfl rfl ?_
  refine k_ic hK dX12_actions_6 ci_1 ?_
  refine k_clt hK dX12_actions_7 (tgt := 32) rfl (fun h1 => ?_) (fun h1 => ?_)
  · have hF := hF.1 h1
    refine k_ic hK dX12_actions_32 ci_m1 ?_
    exact k_iret hK dX12_actions_33 rfl rfl (done_0 rfl rfl) (qC_i hF)
  · have hF := hF.2 h1
    refine k_ld hK 1 dX12_actions_10 rfl rfl rfl rfl ?_
    refine k_bi hK dX12_actions_11 cb_60 ?_
    refine k_cgt hK dX12_actions_13 (tgt := 32) rfl (fun h2 => ?_) (fun h2 => ?_)
    · have hF := hF.1 h2
      refine k_ic hK dX12_actions_32 ci_m1 ?_
      exact k_iret hK dX12_actions_33 rfl rfl (done_0 rfl rfl) (qC_i hF)
    · have hF := hF.2 h2
      refine k_ld hK 2 dX12_actions_16 rfl rfl rfl rfl ?_
      refine k_cSp hK dX12_actions_17 lm_X12_499 (As := [.int x2]) (S := []) rfl (Nat.le_of_ble_eq_true rfl) (fit_0 rfl rfl) rfl hF (fun b3 hF => ?_)
      show K _ _ [.int (b2i b3)] _ _ _
      refine k_beq hK dX12_actions_20 (tgt := 32) rfl (fun h4 => ?_) (fun h4 => ?_)
      · have hF := hF.1 h4
        refine k_ic hK dX12_actions_32 ci_m1 ?_
        exact k_iret hK dX12_actions_33 rfl rfl (done_0 rfl rfl) (qC_i hF)
      · have hF := hF.2 h4
        refine k_ld hK 3 dX12_actions_23 rfl rfl rfl rfl ?_
        refine k_lt hK dX12_actions_24 (tgt := 32) rfl (fun h5 => ?_) (fun h5 => ?_)
        · have hF := hF.1 h5
          refine k_ic hK dX12_actions_32 ci_m1 ?_
          exact k_iret hK dX12_actions_33 rfl rfl (done_0 rfl rfl) (qC_i hF)
        · have hF := hF.2 h5
          refine k_ld hK 3 dX12_actions_27 rfl rfl rfl rfl ?_
          refine k_ic hK dX12_actions_28 ci_2 ?_
          refine k_cle hK dX12_actions_29 (tgt := 34) rfl (fun h6 => ?_) (fun h6 => ?_)
          · have hF := hF.1 h6
            refine k_ld hK 0 dX12_actions_34 rfl rfl rfl rfl ?_
            refine k_ld hK 1 dX12_actions_35 rfl rfl rfl rfl ?_
            refine k_ld hK 2 dX12_actions_36 rfl rfl rfl rfl ?_
            refine k_ic hK dX12_actions_37 ci_m1 ?_
            refine k_cVc hK dX12_actions_38 (Or.inl lm_X12_524) (As := [.int x1, .int x2, .int (-1)]) (S := []) rfl (sc_80 hs) (Nat.le_of_ble_eq_true rfl) (fit_0 rfl rfl) rfl hF (fun u7 I8 hF => ?_)
            show K _ _ [] _ _ _
            refine k_ld hK 3 dX12_actions_41 rfl rfl rfl rfl ?_
            refine k_ne hK dX12_actions_42 (tgt := 52) rfl (fun h9 => ?_) (fun h9 => ?_)
            · have hF := hF.1 h9
              refine k_ld hK 3 dX12_actions_52 rfl rfl rfl rfl ?_
              refine k_ic hK dX12_actions_53 ci_1 ?_
              refine k_cne hK dX12_actions_54 (tgt := 64) rfl (fun h10 => ?_) (fun h10 => ?_)
              · have hF := hF.1 h10
                refine k_ld hK 0 dX12_actions_64 rfl rfl rfl rfl ?_
                refine k_gI hK dX12_actions_65 lf_X12_517 rfl (sc_80 hs) rfl ?_
                exact k_iret hK dX12_actions_68 rfl rfl (done_0 rfl rfl) (qC_i hF)
              · have hF := hF.2 h10
                refine k_ld hK 0 dX12_actions_57 rfl rfl rfl rfl ?_
                refine k_gI hK dX12_actions_58 lf_X12_511 rfl (sc_80 hs) rfl ?_
                refine k_goto hK dX12_actions_61 (tgt := 68) rfl ?_
                exact k_iret hK dX12_actions_68 rfl rfl (done_0 rfl rfl) (qC_i hF)
            · have hF := hF.2 h9
              refine k_ld hK 0 dX12_actions_45 rfl rfl rfl rfl ?_
              refine k_gI hK dX12_actions_46 lf_X12_505 rfl (sc_80 hs) rfl ?_
              refine k_goto hK dX12_actions_49 (tgt := 68) rfl ?_
              exact k_iret hK dX12_actions_68 rfl rfl (done_0 rfl rfl) (qC_i hF)
          · have hF := hF.2 h6
            refine k_ic hK dX12_actions_32 ci_m1 ?_
            exact k_iret hK dX12_actions_33 rfl rfl (done_0 rfl rfl) (qC_i hF)
theorem e_X12_actions {d : Nat} {Q : Int32 → HI → Prop} {I : HI} {J : HJ} {R : HR} {x1 : Int32} {x2 : Int32} {x3 : Int32} (hs : Stat R)  (hF : ((x1 < 1 → Q (-1) (up I 80 0 0)) ∧ (¬ x1 < 1 → ((60 < x1 → Q (-1) (up I 80 0 0)) ∧ (¬ 60 < x1 → Wp fb d M_X12_isState [.int x2] (up I 80 0 0) J R (fun b3 => ((b3 = false → Q (-1) (up I 80 0 0)) ∧ (b3 = true → ((x3 < 0 → Q (-1) (up I 80 0 0)) ∧ (¬ x3 < 0 → ((x3 ≤ 2 → Wc fv d M_X12_allActs [.ref 80, .int x1, .int x2, .int (-1)] (up I 80 0 0) J R (fun u7 I8 => ((¬ x3 = 0 → ((¬ x3 = 1 → Q (I8 80 79) I8) ∧ (x3 = 1 → Q (I8 80 77) I8))) ∧ (x3 = 0 → Q (I8 80 74) I8)))) ∧ (¬ x3 ≤ 2 → Q (-1) (up I 80 0 0))))))))))))) : Wc fi (d + 1) M_X12_actions [.ref 80, .int x1, .int x2, .int x3] I J R Q := ⟨Nat.le_of_ble_eq_true rfl, fun K hK => g_X12_actions_0 hK hs hF⟩
set_option maxHeartbeats 4000000 in
theorem g_X12_fraction_0 {d : Nat} {K : KT} {Q : Int32 → HI → Prop} {I : HI} {J : HJ} {R : HR} {x1 : Int32} {x2 : Int32} (hK : am_R M_X12_fraction (am_W d) none R (qC fi J R Q) K) (hs : Stat R)  (hF : ((x1 < 0 → Q (-40000) (up I 80 0 0)) ∧ (¬ x1 < 0 → (((1000000007 : Int64) ≤ (Int32.toInt64 x1) → Q (-40000) (up I 80 0 0)) ∧ (¬ (1000000007 : Int64) ≤ (Int32.toInt64 x1) → ((x2 < 0 → Q (-40000) (up I 80 0 0)) ∧ (¬ x2 < 0 → ((x2 ≤ 1 → K 33 [(1, .int x1), (2, .int x2), (3, .int 1)] [] (up I 80 0 0) J R) ∧ (¬ x2 ≤ 1 → Q (-40000) (up I 80 0 0)))))))))) : K 0 [(0, .ref 80), (1, .int x1), (2, .int x2)] [] I J R := by
  refine k_ld hK 0 dX12_fraction_0 rfl rfl rfl rfl ?_
  refine k_ic hK dX12_fraction_1 ci_0 ?_
  refine k_pI hK dX12_fraction_2 lf_X12_142 rfl rfl rfl (sc_80 hs) ?_
  refine k_ld hK 1 dX12_fraction_5 rfl rfl rfl rfl ?_
  refine k_lt hK dX12_fraction_6 (tgt := 27) rfl (fun h1 => ?_) (fun h1 => ?_)
  · have hF := hF.1 h1
    refine k_ldcw hK dX12_fraction_27 lc_X12_527 ?_
    exact k_iret hK dX12_fraction_30 rfl rfl (done_0 rfl rfl) (qC_i hF)
  · have hF := hF.2 h1
    refine k_ld hK 1 dX12_fraction_9 rfl rfl rfl rfl ?_
    refine k_op hK dX12_fraction_10 rfl rfl ?_
    refine k_ldc2 hK dX12_fraction_11 lc_X12_338 ?_
    refine k_lge hK dX12_fraction_14 dX12_fraction_15 (tgt := 27) rfl (fun h2 => ?_) (fun h2 => ?_)
    · have hF := hF.1 h2
      refine k_ldcw hK dX12_fraction_27 lc_X12_527 ?_
      exact k_iret hK dX12_fraction_30 rfl rfl (done_0 rfl rfl) (qC_i hF)
    · have hF := hF.2 h2
      refine k_ld hK 2 dX12_fraction_18 rfl rfl rfl rfl ?_
      refine k_lt hK dX12_fraction_19 (tgt := 27) rfl (fun h3 => ?_) (fun h3 => ?_)
      · have hF := hF.1 h3
        refine k_ldcw hK dX12_fraction_27 lc_X12_527 ?_
        exact k_iret hK dX12_fraction_30 rfl rfl (done_0 rfl rfl) (qC_i hF)
      · have hF := hF.2 h3
        refine k_ld hK 2 dX12_fraction_22 rfl rfl rfl rfl ?_
        refine k_ic hK dX12_fraction_23 ci_1 ?_
        refine k_cle hK dX12_fraction_24 (tgt := 31) rfl (fun h4 => ?_) (fun h4 => ?_)
        · have hF := hF.1 h4
          refine k_ic hK dX12_fraction_31 ci_1 ?_
          refine k_st hK dX12_fraction_32 rfl rfl rfl (Nat.le_of_ble_eq_true rfl) rfl ?_
          exact k_sub hK [2, 3, 0] rfl hF
        · have hF := hF.2 h4
          refine k_ldcw hK dX12_fraction_27 lc_X12_527 ?_
          exact k_iret hK dX12_fraction_30 rfl rfl (done_0 rfl rfl) (qC_i hF)
set_option maxHeartbeats 4000000 in
theorem g_X12_fraction_33 {d : Nat} {K : KT} {Q : Int32 → HI → Prop} {I : HI} {J : HJ} {R : HR} {x1 : Int32} {x2 : Int32} {x3 : Int32} (hK : am_R M_X12_fraction (am_W d) none R (qC fi J R Q) K) (hs : Stat R)  (hF : ((22360 < x3 → Q (-30000) I) ∧ (¬ 22360 < x3 → Wp fl d M_X12_signed [.long (((Int32.toInt64 x1) * (Int32.toInt64 x3)) - ((Int32.toInt64 x1) * (Int32.toInt64 x3)) / (1000000007 : Int64) * (1000000007 : Int64))] I J R (fun r2 => ((r2 < (-22360 : Int64) → K 33 [(1, .int x1), (2, .int x2), (3, .int (x3 + 1))] [] I J R) ∧ (¬ r2 < (-22360 : Int64) → (((22360 : Int64) < r2 → K 33 [(1, .int x1), (2, .int x2), (3, .int (x3 + 1))] [] I J R) ∧ (¬ (22360 : Int64) < r2 → ((¬ x2 = 0 → Q x3 I) ∧ (x2 = 0 → Q (Int64.toInt32 r2) I)))))))))) : K 33 [(1, .int x1), (2, .int x2), (3, .int x3)] [] I J R := by
  refine k_ld hK 2 dX12_fraction_33 rfl rfl rfl rfl ?_
  refine k_si hK dX12_fraction_34 cs_22360 ?_
  refine k_cgt hK dX12_fraction_37 (tgt := 90) rfl (fun h1 => ?_) (fun h1 => ?_)
  · have hF := hF.1 h1
    refine k_si hK dX12_fraction_90 cs_m30000 ?_
    exact k_iret hK dX12_fraction_93 rfl rfl (done_0 rfl rfl) (qC_i hF)
  · have hF := hF.2 h1
    refine k_ld hK 0 dX12_fraction_40 rfl rfl rfl rfl ?_
    refine k_op hK dX12_fraction_41 rfl rfl ?_
    refine k_ld hK 2 dX12_fraction_42 rfl rfl rfl rfl ?_
    refine k_op hK dX12_fraction_43 rfl rfl ?_
    refine k_op hK dX12_fraction_44 rfl rfl ?_
    refine k_ldc2 hK dX12_fraction_45 lc_X12_338 ?_
    refine k_lrem hK dX12_fraction_48 (by decide) ?_
    refine k_cSp hK dX12_fraction_49 lm_X12_404 (As := [.long (((Int32.toInt64 x1) * (Int32.toInt64 x3)) - ((Int32.toInt64 x1) * (Int32.toInt64 x3)) / (1000000007 : Int64) * (1000000007 : Int64))]) (S := []) rfl (Nat.le_of_ble_eq_true rfl) (fit_0 rfl rfl) rfl hF (fun r2 hF => ?_)
    show K _ _ [.long r2] _ _ _
    refine k_st hK dX12_fraction_52 rfl rfl rfl (Nat.le_of_ble_eq_true rfl) rfl ?_
    refine k_ld hK 0 dX12_fraction_54 rfl rfl rfl rfl ?_
    refine k_ldc2 hK dX12_fraction_56 lc_X12_528 ?_
    refine k_llt hK dX12_fraction_59 dX12_fraction_60 (tgt := 84) rfl (fun h3 => ?_) (fun h3 => ?_)
    · have hF := hF.1 h3
      refine k_iinc hK 3 dX12_fraction_84 (v := (x3 + 1)) rfl (Nat.le_of_ble_eq_true rfl) (congrArg (fun q => x3 + q) ci_1) rfl ?_
      refine k_goto hK dX12_fraction_87 (tgt := 33) rfl ?_
      exact k_sub hK [2, 3, 0] rfl hF
    · have hF := hF.2 h3
      refine k_ld hK 0 dX12_fraction_63 rfl rfl rfl rfl ?_
      refine k_ldc2 hK dX12_fraction_65 lc_X12_530 ?_
      refine k_lgt hK dX12_fraction_68 dX12_fraction_69 (tgt := 84) rfl (fun h4 => ?_) (fun h4 => ?_)
      · have hF := hF.1 h4
        refine k_iinc hK 3 dX12_fraction_84 (v := (x3 + 1)) rfl (Nat.le_of_ble_eq_true rfl) (congrArg (fun q => x3 + q) ci_1) rfl ?_
        refine k_goto hK dX12_fraction_87 (tgt := 33) rfl ?_
        exact k_sub hK [2, 3, 0] rfl hF
      · have hF := hF.2 h4
        refine k_ld hK 2 dX12_fraction_72 rfl rfl rfl rfl ?_
        refine k_ne hK dX12_fraction_73 (tgt := 82) rfl (fun h5 => ?_) (fun h5 => ?_)
        · have hF := hF.1 h5
          refine k_ld hK 3 dX12_fraction_82 rfl rfl rfl rfl ?_
          exact k_iret hK dX12_fraction_83 rfl rfl (done_0 rfl rfl) (qC_i hF)
        · have hF := hF.2 h5
          refine k_ld hK 0 dX12_fraction_76 rfl rfl rfl rfl ?_
          refine k_op hK dX12_fraction_78 rfl rfl ?_
          refine k_goto hK dX12_fraction_79 (tgt := 83) rfl ?_
          exact k_iret hK dX12_fraction_83 rfl rfl (done_0 rfl rfl) (qC_i hF)
set_option maxHeartbeats 4000000 in
theorem g_X12_count_0 {d : Nat} {K : KT} {Q : Int32 → HI → Prop} {I : HI} {J : HJ} {R : HR} {x1 : Int32} (hK : am_R M_X12_count (am_W d) none R (qC fi J R Q) K) (hs : Stat R)  (hF : ((x1 = 0 → Q (I 80 30) (up I 80 0 0)) ∧ (¬ x1 = 0 → ((x1 = 1 → Q (I 80 31) (up I 80 0 0)) ∧ (¬ x1 = 1 → ((x1 = 2 → Q (I 80 32) (up I 80 0 0)) ∧ (¬ x1 = 2 → ((x1 = 3 → Q (I 80 33) (up I 80 0 0)) ∧ (¬ x1 = 3 → ((x1 = 4 → Q (I 80 34) (up I 80 0 0)) ∧ (¬ x1 = 4 → ((x1 = 5 → Q (I 80 35) (up I 80 0 0)) ∧ (¬ x1 = 5 → ((x1 = 6 → Q (I 80 2) (up I 80 0 0)) ∧ (¬ x1 = 6 → Q (-1) (up I 80 0 0)))))))))))))))) : K 0 [(0, .ref 80), (1, .int x1)] [] I J R := by
  refine k_ld hK 0 dX12_count_0 rfl rfl rfl rfl ?_
  refine k_ic hK dX12_count_1 ci_0 ?_
  refine k_pI hK dX12_count_2 lf_X12_142 rfl rfl rfl (sc_80 hs) ?_
  refine k_ld hK 1 dX12_count_5 rfl rfl rfl rfl ?_
  refine k_tab hK dX12_count_6 (cs := [(0, 48), (1, 53), (2, 58), (3, 63), (4, 68), (5, 73), (6, 78)]) (td := 83) (by decide) (by decide) ?_
  refine swc (fun h1 => ?_) (fun h1 => ?_)
  · have hF := hF.1 h1
    refine k_ld hK 0 dX12_count_48 rfl rfl rfl rfl ?_
    refine k_gI hK dX12_count_49 lf_X12_311 rfl (sc_80 hs) ((up_nk (by decide)).trans rfl) ?_
    exact k_iret hK dX12_count_52 rfl rfl (done_0 rfl rfl) (qC_i hF)
  have hF := hF.2 h1
  refine swc (fun h2 => ?_) (fun h2 => ?_)
  · have hF := hF.1 h2
    refine k_ld hK 0 dX12_count_53 rfl rfl rfl rfl ?_
    refine k_gI hK dX12_count_54 lf_X12_314 rfl (sc_80 hs) ((up_nk (by decide)).trans rfl) ?_
    exact k_iret hK dX12_count_57 rfl rfl (done_0 rfl rfl) (qC_i hF)
  have hF := hF.2 h2
  refine swc (fun h3 => ?_) (fun h3 => ?_)
  · have hF := hF.1 h3
    refine k_ld hK 0 dX12_count_58 rfl rfl rfl rfl ?_
    refine k_gI hK dX12_count_59 lf_X12_317 rfl (sc_80 hs) ((up_nk (by decide)).trans rfl) ?_
    exact k_iret hK dX12_count_62 rfl rfl (done_0 rfl rfl) (qC_i hF)
  have hF := hF.2 h3
  refine swc (fun h4 => ?_) (fun h4 => ?_)
  · have hF := hF.1 h4
    refine k_ld hK 0 dX12_count_63 rfl rfl rfl rfl ?_
    refine k_gI hK dX12_count_64 lf_X12_320 rfl (sc_80 hs) ((up_nk (by decide)).trans rfl) ?_
    exact k_iret hK dX12_count_67 rfl rfl (done_0 rfl rfl) (qC_i hF)
  have hF := hF.2 h4
  refine swc (fun h5 => ?_) (fun h5 => ?_)
  · have hF := hF.1 h5
    refine k_ld hK 0 dX12_count_68 rfl rfl rfl rfl ?_
    refine k_gI hK dX12_count_69 lf_X12_323 rfl (sc_80 hs) ((up_nk (by decide)).trans rfl) ?_
    exact k_iret hK dX12_count_72 rfl rfl (done_0 rfl rfl) (qC_i hF)
  have hF := hF.2 h5
  refine swc (fun h6 => ?_) (fun h6 => ?_)
  · have hF := hF.1 h6
    refine k_ld hK 0 dX12_count_73 rfl rfl rfl rfl ?_
    refine k_gI hK dX12_count_74 lf_X12_326 rfl (sc_80 hs) ((up_nk (by decide)).trans rfl) ?_
    exact k_iret hK dX12_count_77 rfl rfl (done_0 rfl rfl) (qC_i hF)
  have hF := hF.2 h6
  refine swc (fun h7 => ?_) (fun h7 => ?_)
  · have hF := hF.1 h7
    refine k_ld hK 0 dX12_count_78 rfl rfl rfl rfl ?_
    refine k_gI hK dX12_count_79 lf_X12_145 rfl (sc_80 hs) ((up_nk (by decide)).trans rfl) ?_
    exact k_iret hK dX12_count_82 rfl rfl (done_0 rfl rfl) (qC_i hF)
  have hF := hF.2 h7
  refine swn ?_
  refine k_ic hK dX12_count_83 ci_m1 ?_
  exact k_iret hK dX12_count_84 rfl rfl (done_0 rfl rfl) (qC_i hF)
theorem e_X12_count {d : Nat} {Q : Int32 → HI → Prop} {I : HI} {J : HJ} {R : HR} {x1 : Int32} (hs : Stat R)  (hF : ((x1 = 0 → Q (I 80 30) (up I 80 0 0)) ∧ (¬ x1 = 0 → ((x1 = 1 → Q (I 80 31) (up I 80 0 0)) ∧ (¬ x1 = 1 → ((x1 = 2 → Q (I 80 32) (up I 80 0 0)) ∧ (¬ x1 = 2 → ((x1 = 3 → Q (I 80 33) (up I 80 0 0)) ∧ (¬ x1 = 3 → ((x1 = 4 → Q (I 80 34) (up I 80 0 0)) ∧ (¬ x1 = 4 → ((x1 = 5 → Q (I 80 35) (up I 80 0 0)) ∧ (¬ x1 = 5 → ((x1 = 6 → Q (I 80 2) (up I 80 0 0)) ∧ (¬ x1 = 6 → Q (-1) (up I 80 0 0)))))))))))))))) : Wc fi (d + 1) M_X12_count [.ref 80, .int x1] I J R Q := ⟨Nat.le_of_ble_eq_true rfl, fun K hK => g_X12_count_0 hK hs hF⟩
