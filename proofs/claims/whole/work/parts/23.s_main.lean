set_option maxHeartbeats 4000000 in
theorem g_X11_feed_0 {d : Nat} {K : KT} {Q : Int32 → HI → Prop} {I : HI} {J : HJ} {R : HR} {x1 : Int32} {x2 : Int32} {x3 : Int32} {x4 : Int32} {x5 : Int32} (hK : am_R M_X11_feed (am_W d) none R (qC fi J R Q) K) (hs : Stat R)  (hF : ((((I 0 1) + 20) ≤ 900 → Wc fv d M_X11_appendNumber [.ref 0, .int x1] I J R (fun u2 I3 => Wc fv d M_X11_appendNumber [.ref 0, .int x2] I3 J R (fun u4 I5 => Wc fv d M_X11_appendNumber [.ref 0, .int x3] I5 J R (fun u6 I7 => Wc fv d M_X11_appendNumber [.ref 0, .int x4] I7 J R (fun u8 I9 => Wc fv d M_X11_appendNumber [.ref 0, .int x5] I9 J R (fun u10 I11 => Q (I11 0 1) I11)))))) ∧ (¬ ((I 0 1) + 20) ≤ 900 → Q (-1) I))) : K 0 [(0, .ref 0), (1, .int x1), (2, .int x2), (3, .int x3), (4, .int x4), (5, .int x5)] [] I J R := by
  refine k_ld hK 0 dX11_feed_0 rfl rfl rfl rfl ?_
  refine k_gI hK dX11_feed_1 lf_X11_77 rfl (sc_0 hs) rfl ?_
  refine k_bi hK dX11_feed_4 cb_20 ?_
  refine k_op hK dX11_feed_6 rfl rfl ?_
  refine k_si hK dX11_feed_7 cs_900 ?_
  refine k_cle hK dX11_feed_10 (tgt := 15) rfl (fun h1 => ?_) (fun h1 => ?_)
  · have hF := hF.1 h1
    refine k_ld hK 0 dX11_feed_15 rfl rfl rfl rfl ?_
    refine k_ld hK 1 dX11_feed_16 rfl rfl rfl rfl ?_
    refine k_cVc hK dX11_feed_17 (Or.inl lm_X11_80) (As := [.int x1]) (S := []) rfl (sc_0 hs) (Nat.le_of_ble_eq_true rfl) (fit_0 rfl rfl) rfl hF (fun u2 I3 hF => ?_)
    show K _ _ [] _ _ _
    refine k_ld hK 0 dX11_feed_20 rfl rfl rfl rfl ?_
    refine k_ld hK 2 dX11_feed_21 rfl rfl rfl rfl ?_
    refine k_cVc hK dX11_feed_22 (Or.inl lm_X11_80) (As := [.int x2]) (S := []) rfl (sc_0 hs) (Nat.le_of_ble_eq_true rfl) (fit_0 rfl rfl) rfl hF (fun u4 I5 hF => ?_)
    show K _ _ [] _ _ _
    refine k_ld hK 0 dX11_feed_25 rfl rfl rfl rfl ?_
    refine k_ld hK 3 dX11_feed_26 rfl rfl rfl rfl ?_
    refine k_cVc hK dX11_feed_27 (Or.inl lm_X11_80) (As := [.int x3]) (S := []) rfl (sc_0 hs) (Nat.le_of_ble_eq_true rfl) (fit_0 rfl rfl) rfl hF (fun u6 I7 hF => ?_)
    show K _ _ [] _ _ _
    refine k_ld hK 0 dX11_feed_30 rfl rfl rfl rfl ?_
    refine k_ld hK 4 dX11_feed_31 rfl rfl rfl rfl ?_
    refine k_cVc hK dX11_feed_33 (Or.inl lm_X11_80) (As := [.int x4]) (S := []) rfl (sc_0 hs) (Nat.le_of_ble_eq_true rfl) (fit_0 rfl rfl) rfl hF (fun u8 I9 hF => ?_)
    show K _ _ [] _ _ _
    refine k_ld hK 0 dX11_feed_36 rfl rfl rfl rfl ?_
    refine k_ld hK 5 dX11_feed_37 rfl rfl rfl rfl ?_
    refine k_cVc hK dX11_feed_39 (Or.inl lm_X11_80) (As := [.int x5]) (S := []) rfl (sc_0 hs) (Nat.le_of_ble_eq_true rfl) (fit_0 rfl rfl) rfl hF (fun u10 I11 hF => ?_)
    show K _ _ [] _ _ _
    refine k_ld hK 0 dX11_feed_42 rfl rfl rfl rfl ?_
    refine k_gI hK dX11_feed_43 lf_X11_77 rfl (sc_0 hs) rfl ?_
    exact k_iret hK dX11_feed_46 rfl rfl (done_0 rfl rfl) (qC_i hF)
  · have hF := hF.2 h1
    refine k_ic hK dX11_feed_13 ci_m1 ?_
    exact k_iret hK dX11_feed_14 rfl rfl (done_0 rfl rfl) (qC_i hF)
theorem e_X11_feed {d : Nat} {Q : Int32 → HI → Prop} {I : HI} {J : HJ} {R : HR} {x1 : Int32} {x2 : Int32} {x3 : Int32} {x4 : Int32} {x5 : Int32} (hs : Stat R)  (hF : ((((I 0 1) + 20) ≤ 900 → Wc fv d M_X11_appendNumber [.ref 0, .int x1] I J R (fun u2 I3 => Wc fv d M_X11_appendNumber [.ref 0, .int x2] I3 J R (fun u4 I5 => Wc fv d M_X11_appendNumber [.ref 0, .int x3] I5 J R (fun u6 I7 => Wc fv d M_X11_appendNumber [.ref 0, .int x4] I7 J R (fun u8 I9 => Wc fv d M_X11_appendNumber [.ref 0, .int x5] I9 J R (fun u10 I11 => Q (I11 0 1) I11)))))) ∧ (¬ ((I 0 1) + 20) ≤ 900 → Q (-1) I))) : Wc fi (d + 1) M_X11_feed [.ref 0, .int x1, .int x2, .int x3, .int x4, .int x5] I J R Q := ⟨Nat.le_of_ble_eq_true rfl, fun K hK => g_X11_feed_0 hK hs hF⟩
set_option maxHeartbeats 4000000 in
theorem g_X11_appendNumber_0 {d : Nat} {K : KT} {Q : Unit → HI → Prop} {I : HI} {J : HJ} {R : HR} {x1 : Int32} (hK : am_R M_X11_appendNumber (am_W d) none R (qC fv J R Q) K) (hs : Stat R)  (hF : K 3 [(0, .ref 0), (1, .int x1), (2, .int 24)] [] I J R) : K 0 [(0, .ref 0), (1, .int x1)] [] I J R := by
  refine k_bi hK dX11_appendNumber_0 cb_24 ?_
  refine k_st hK dX11_appendNumber_2 rfl rfl rfl (Nat.le_of_ble_eq_true rfl) rfl ?_
  exact k_sub hK [1, 2, 0] rfl hF
set_option maxHeartbeats 4000000 in
theorem g_X11_appendNumber_3 {d : Nat} {K : KT} {Q : Unit → HI → Prop} {I : HI} {J : HJ} {R : HR} {x1 : Int32} {x2 : Int32} (hK : am_R M_X11_appendNumber (am_W d) none R (qC fv J R Q) K) (hs : Stat R)  (hF : ((x2 < 0 → Q () I) ∧ (¬ x2 < 0 → ((900 ≤ (I 0 1) → Q () I) ∧ (¬ 900 ≤ (I 0 1) → (∃ n3 : Nat, (I 0 1) = nI n3 ∧ n3 < 900 ∧ K 3 [(0, .ref 0), (1, .int x1), (2, .int (x2 + (-8)))] [] (up (up I 1 n3 ((Int32.toInt8 ((Int32.toUInt32 x1 >>> (Int32.toUInt32 x2 &&& Int32.toUInt32 31)).toInt32 : Int32)).toInt32)) 0 1 ((I 0 1) + 1)) J R)))))) : K 3 [(0, .ref 0), (1, .int x1), (2, .int x2)] [] I J R := by
  refine k_ld hK 2 dX11_appendNumber_3 rfl rfl rfl rfl ?_
  refine k_lt hK dX11_appendNumber_4 (tgt := 46) rfl (fun h1 => ?_) (fun h1 => ?_)
  · have hF := hF.1 h1
    exact k_vret hK dX11_appendNumber_46 rfl (done_0 rfl rfl) (qC_i hF)
  · have hF := hF.2 h1
    refine k_ld hK 0 dX11_appendNumber_7 rfl rfl rfl rfl ?_
    refine k_gI hK dX11_appendNumber_8 lf_X11_77 rfl (sc_0 hs) rfl ?_
    refine k_si hK dX11_appendNumber_11 cs_900 ?_
    refine k_cge hK dX11_appendNumber_14 (tgt := 46) rfl (fun h2 => ?_) (fun h2 => ?_)
    · have hF := hF.1 h2
      exact k_vret hK dX11_appendNumber_46 rfl (done_0 rfl rfl) (qC_i hF)
    · have hF := hF.2 h2
      refine k_ld hK 0 dX11_appendNumber_17 rfl rfl rfl rfl ?_
      refine k_gR hK dX11_appendNumber_18 lf_X11_9 rfl (sc_0 hs) (sf_0_0 hs) ?_
      refine k_ld hK 0 dX11_appendNumber_21 rfl rfl rfl rfl ?_
      refine k_gI hK dX11_appendNumber_22 lf_X11_77 rfl (sc_0 hs) rfl ?_
      refine k_ld hK 1 dX11_appendNumber_25 rfl rfl rfl rfl ?_
      refine k_ld hK 2 dX11_appendNumber_26 rfl rfl rfl rfl ?_
      refine k_op hK dX11_appendNumber_27 rfl rfl ?_
      refine k_op hK dX11_appendNumber_28 rfl rfl ?_
      obtain ⟨n3, i4, j5, hF⟩ := hF
      refine k_bast hK dX11_appendNumber_29 (Or.inl ⟨(sc_1 hs), am_b8 _⟩) sn_1 (by decide) i4 j5 ?_
      refine k_ld hK 0 dX11_appendNumber_30 rfl rfl rfl rfl ?_
      refine k_op hK dX11_appendNumber_31 rfl rfl ?_
      refine k_gI hK dX11_appendNumber_32 lf_X11_77 rfl (sc_0 hs) ((up_na (by decide)).trans rfl) ?_
      refine k_ic hK dX11_appendNumber_35 ci_1 ?_
      refine k_op hK dX11_appendNumber_36 rfl rfl ?_
      refine k_pI hK dX11_appendNumber_37 lf_X11_77 rfl rfl rfl (sc_0 hs) ?_
      refine k_iinc hK 2 dX11_appendNumber_40 (v := (x2 + (-8))) rfl (Nat.le_of_ble_eq_true rfl) (congrArg (fun q => x2 + q) ci_m8) rfl ?_
      refine k_goto hK dX11_appendNumber_43 (tgt := 3) rfl ?_
      exact k_sub hK [1, 2, 0] rfl hF
set_option maxHeartbeats 4000000 in
theorem g_X11_text_0 {d : Nat} {K : KT} {Q : Int32 → HI → HR → Prop} {I : HI} {J : HJ} {R : HR} {R0 : HR} {x1 : Int32} (hK : am_R M_X11_text (am_W d) none R0 (qR fi J R0 Q) K) (hs0 : Stat R0) (hs : Stat R) (hg : am_g R = am_g R0)  (hF : ((x1 < 0 → Q (-2) I R) ∧ (¬ x1 < 0 → ((x1 ≤ (I 0 1) → (∃ p3 : Nat, (R 0 6) = some p3 ∧ isX5 p3 ∧ Wr fb d M_X4_compile [.ref 2, .int x1, .ref p3] (up I 0 1 0) J R (fun b5 I6 R7 => ((b5 = true → (∃ p9 : Nat, (R7 0 5) = some p9 ∧ isX5 p9 ∧ (∃ p11 : Nat, (R7 0 6) = some p11 ∧ isX5 p11 ∧ Wc fv d M_J7_fill_53178 [.ref 16, .int 0] (up (up I6 0 3 (I6 2 8)) 0 4 (I6 2 9)) J (up (up R7 0 5 (some p11)) 0 6 (some p9)) (fun u13 I14 => Wr fv d M_X1_execute [.ref 17, .ref p11, .ref 16] I14 J (up (up R7 0 5 (some p11)) 0 6 (some p9)) (fun u15 I16 R17 => (∃ p18 : Nat, (R17 0 5) = some p18 ∧ isX5 p18 ∧ Q (I16 p18 2) I16 R17)))))) ∧ (b5 = false → Q (-1) (up (up I6 0 3 (I6 2 8)) 0 4 (I6 2 9)) R7))))) ∧ (¬ x1 ≤ (I 0 1) → Q (-2) I R))))) : K 0 [(0, .ref 0), (1, .int x1)] [] I J R := by
  refine k_ld hK 1 dX11_text_0 rfl rfl rfl rfl ?_
  refine k_lt hK dX11_text_1 (tgt := 12) rfl (fun h1 => ?_) (fun h1 => ?_)
  · have hF := hF.1 h1
    refine k_bi hK dX11_text_12 cb_m2 ?_
    exact k_iret hK dX11_text_14 rfl rfl (done_of hs0 hs hg rfl rfl) (qR_i hs hg hF)
  · have hF := hF.2 h1
    refine k_ld hK 1 dX11_text_4 rfl rfl rfl rfl ?_
    refine k_ld hK 0 dX11_text_5 rfl rfl rfl rfl ?_
    refine k_gI hK dX11_text_6 lf_X11_77 rfl (sc_0 hs) rfl ?_
    refine k_cle hK dX11_text_9 (tgt := 15) rfl (fun h2 => ?_) (fun h2 => ?_)
    · have hF := hF.1 h2
      refine k_ld hK 0 dX11_text_15 rfl rfl rfl rfl ?_
      refine k_ic hK dX11_text_16 ci_0 ?_
      refine k_pI hK dX11_text_17 lf_X11_77 rfl rfl rfl (sc_0 hs) ?_
      refine k_ld hK 0 dX11_text_20 rfl rfl rfl rfl ?_
      refine k_gR hK dX11_text_21 lf_X11_18 rfl (sc_0 hs) (sf_0_2 hs) ?_
      refine k_ld hK 1 dX11_text_24 rfl rfl rfl rfl ?_
      refine k_ld hK 0 dX11_text_25 rfl rfl rfl rfl ?_
      obtain ⟨p3, e4, h_p3, hF⟩ := hF
      refine k_gR hK dX11_text_26 lf_X11_33 rfl (sc_0 hs) e4 ?_
      refine k_cVr hK dX11_text_29 (Or.inl lm_X11_84) (As := [.int x1, .ref p3]) (S := []) rfl (sc_2 hs) (Nat.le_of_ble_eq_true rfl) (fit_of hs0 hs hg rfl rfl) rfl hF (fun b5 I6 R7 hs hg1 hF => ?_)
      have hg := hg1.trans hg
      show K _ _ [.int (b2i b5)] _ _ _
      refine k_st hK dX11_text_32 rfl rfl rfl (Nat.le_of_ble_eq_true rfl) rfl ?_
      refine k_ld hK 1 dX11_text_33 rfl rfl rfl rfl ?_
      refine k_ld hK 1 dX11_text_34 rfl rfl rfl rfl ?_
      refine k_gR hK dX11_text_35 lf_X11_18 rfl (sc_0 hs) (sf_0_2 hs) ?_
      refine k_gI hK dX11_text_38 lf_X11_88 rfl (sc_2 hs) rfl ?_
      refine k_pI hK dX11_text_41 lf_X11_91 rfl rfl rfl (sc_0 hs) ?_
      refine k_ld hK 1 dX11_text_44 rfl rfl rfl rfl ?_
      refine k_ld hK 1 dX11_text_45 rfl rfl rfl rfl ?_
      refine k_gR hK dX11_text_46 lf_X11_18 rfl (sc_0 hs) (sf_0_2 hs) ?_
      refine k_gI hK dX11_text_49 lf_X11_92 rfl (sc_2 hs) ((up_na (by decide)).trans rfl) ?_
      refine k_pI hK dX11_text_52 lf_X11_22 rfl rfl rfl (sc_0 hs) ?_
      refine k_ld hK 0 dX11_text_55 rfl rfl rfl rfl ?_
      refine k_bne hK dX11_text_56 (tgt := 61) rfl (fun h8 => ?_) (fun h8 => ?_)
      · have hF := hF.1 h8
        refine k_ld hK 1 dX11_text_61 rfl rfl rfl rfl ?_
        obtain ⟨p9, e10, h_p9, hF⟩ := hF
        refine k_gR hK dX11_text_62 lf_X11_29 rfl (sc_0 hs) e10 ?_
        refine k_st hK dX11_text_65 rfl rfl rfl (Nat.le_of_ble_eq_true rfl) rfl ?_
        refine k_ld hK 2 dX11_text_66 rfl rfl rfl rfl ?_
        refine k_ld hK 2 dX11_text_67 rfl rfl rfl rfl ?_
        obtain ⟨p11, e12, h_p11, hF⟩ := hF
        refine k_gR hK dX11_text_68 lf_X11_33 rfl (sc_0 hs) e12 ?_
        refine k_pR hK dX11_text_71 lf_X11_29 rfl (Or.inl rfl) (sc_0 hs) ?_
        have hs : Stat (up R7 0 5 (some p11)) := stat_up hs (by decide +kernel)
        have hg : am_g (up R7 0 5 (some p11)) = am_g R0 := (am_g_up (by decide)).trans hg
        refine k_ld hK 2 dX11_text_74 rfl rfl rfl rfl ?_
        refine k_ld hK 0 dX11_text_75 rfl rfl rfl rfl ?_
        refine k_pR hK dX11_text_76 lf_X11_33 rfl (Or.inl rfl) (sc_0 hs) ?_
        have hs : Stat (up (up R7 0 5 (some p11)) 0 6 (some p9)) := stat_up hs (by decide +kernel)
        have hg : am_g (up (up R7 0 5 (some p11)) 0 6 (some p9)) = am_g R0 := (am_g_up (by decide)).trans hg
        refine k_ld hK 2 dX11_text_79 rfl rfl rfl rfl ?_
        refine k_gR hK dX11_text_80 lf_X11_36 rfl (sc_0 hs) (sf_0_7 hs) ?_
        refine k_ic hK dX11_text_83 ci_0 ?_
        refine k_cSc hK dX11_text_84 lm_X11_93 (As := [.ref 16, .int 0]) (S := []) rfl (Nat.le_of_ble_eq_true rfl) (fit_of hs0 hs hg rfl rfl) rfl hF (fun u13 I14 hF => ?_)
        show K _ _ [] _ _ _
        refine k_ld hK 2 dX11_text_87 rfl rfl rfl rfl ?_
        refine k_gR hK dX11_text_88 lf_X11_43 rfl (sc_0 hs) (sf_0_8 hs) ?_
        refine k_ld hK 2 dX11_text_91 rfl rfl rfl rfl ?_
        refine k_gR hK dX11_text_92 lf_X11_29 rfl (sc_0 hs) ((up_nk (by decide)).trans up_s) ?_
        refine k_ld hK 2 dX11_text_95 rfl rfl rfl rfl ?_
        refine k_gR hK dX11_text_96 lf_X11_36 rfl (sc_0 hs) (sf_0_7 hs) ?_
        refine k_cVr hK dX11_text_99 (Or.inl lm_X11_99) (As := [.ref p11, .ref 16]) (S := []) rfl (sc_17 hs) (Nat.le_of_ble_eq_true rfl) (fit_of hs0 hs hg rfl rfl) rfl hF (fun u15 I16 R17 hs hg1 hF => ?_)
        have hg := hg1.trans hg
        show K _ _ [] _ _ _
        refine k_ld hK 2 dX11_text_102 rfl rfl rfl rfl ?_
        obtain ⟨p18, e19, h_p18, hF⟩ := hF
        refine k_gR hK dX11_text_103 lf_X11_29 rfl (sc_0 hs) e19 ?_
        refine k_gI hK dX11_text_106 lf_X11_103 rfl (sk_X5_0 hs h_p18) rfl ?_
        exact k_iret hK dX11_text_109 rfl rfl (done_of hs0 hs hg rfl rfl) (qR_i hs hg hF)
      · have hF := hF.2 h8
        refine k_ic hK dX11_text_59 ci_m1 ?_
        exact k_iret hK dX11_text_60 rfl rfl (done_of hs0 hs hg rfl rfl) (qR_i hs hg hF)
    · have hF := hF.2 h2
      refine k_bi hK dX11_text_12 cb_m2 ?_
      exact k_iret hK dX11_text_14 rfl rfl (done_of hs0 hs hg rfl rfl) (qR_i hs hg hF)
theorem e_X11_text {d : Nat} {Q : Int32 → HI → HR → Prop} {I : HI} {J : HJ} {R : HR} {x1 : Int32} (hs : Stat R)  (hF : ((x1 < 0 → Q (-2) I R) ∧ (¬ x1 < 0 → ((x1 ≤ (I 0 1) → (∃ p3 : Nat, (R 0 6) = some p3 ∧ isX5 p3 ∧ Wr fb d M_X4_compile [.ref 2, .int x1, .ref p3] (up I 0 1 0) J R (fun b5 I6 R7 => ((b5 = true → (∃ p9 : Nat, (R7 0 5) = some p9 ∧ isX5 p9 ∧ (∃ p11 : Nat, (R7 0 6) = some p11 ∧ isX5 p11 ∧ Wc fv d M_J7_fill_53178 [.ref 16, .int 0] (up (up I6 0 3 (I6 2 8)) 0 4 (I6 2 9)) J (up (up R7 0 5 (some p11)) 0 6 (some p9)) (fun u13 I14 => Wr fv d M_X1_execute [.ref 17, .ref p11, .ref 16] I14 J (up (up R7 0 5 (some p11)) 0 6 (some p9)) (fun u15 I16 R17 => (∃ p18 : Nat, (R17 0 5) = some p18 ∧ isX5 p18 ∧ Q (I16 p18 2) I16 R17)))))) ∧ (b5 = false → Q (-1) (up (up I6 0 3 (I6 2 8)) 0 4 (I6 2 9)) R7))))) ∧ (¬ x1 ≤ (I 0 1) → Q (-2) I R))))) : Wr fi (d + 1) M_X11_text [.ref 0, .int x1] I J R Q := ⟨Nat.le_of_ble_eq_true rfl, fun K hK => g_X11_text_0 hK hs hs rfl hF⟩
set_option maxHeartbeats 4000000 in
theorem g_X11_fault_0 {d : Nat} {K : KT} {Q : Int32 → Prop} {I : HI} {J : HJ} {R : HR} {x1 : Int32} (hK : am_R M_X11_fault (am_W d) none R (qP fi I J R Q) K) (hs : Stat R)  (hF : ((x1 = 0 → Q (I 0 3)) ∧ (¬ x1 = 0 → ((x1 = 1 → Q (I 0 4)) ∧ (¬ x1 = 1 → Q (-1)))))) : K 0 [(0, .ref 0), (1, .int x1)] [] I J R := by
  refine k_ld hK 1 dX11_fault_0 rfl rfl rfl rfl ?_
  refine k_lkp hK dX11_fault_1 (cs := [(0, 28), (1, 33)]) (td := 38) (by decide) (by decide) ?_
  refine swc (fun h1 => ?_) (fun h1 => ?_)
  · have hF := hF.1 h1
    refine k_ld hK 0 dX11_fault_28 rfl rfl rfl rfl ?_
    refine k_gI hK dX11_fault_29 lf_X11_91 rfl (sc_0 hs) rfl ?_
    exact k_iret hK dX11_fault_32 rfl rfl (done_0 rfl rfl) (qP_i hF)
  have hF := hF.2 h1
  refine swc (fun h2 => ?_) (fun h2 => ?_)
  · have hF := hF.1 h2
    refine k_ld hK 0 dX11_fault_33 rfl rfl rfl rfl ?_
    refine k_gI hK dX11_fault_34 lf_X11_22 rfl (sc_0 hs) rfl ?_
    exact k_iret hK dX11_fault_37 rfl rfl (done_0 rfl rfl) (qP_i hF)
  have hF := hF.2 h2
  refine swn ?_
  refine k_ic hK dX11_fault_38 ci_m1 ?_
  exact k_iret hK dX11_fault_39 rfl rfl (done_0 rfl rfl) (qP_i hF)
theorem e_X11_fault {d : Nat} {Q : Int32 → Prop} {I : HI} {J : HJ} {R : HR} {x1 : Int32} (hs : Stat R)  (hF : ((x1 = 0 → Q (I 0 3)) ∧ (¬ x1 = 0 → ((x1 = 1 → Q (I 0 4)) ∧ (¬ x1 = 1 → Q (-1)))))) : Wp fi (d + 1) M_X11_fault [.ref 0, .int x1] I J R Q := ⟨Nat.le_of_ble_eq_true rfl, fun K hK => g_X11_fault_0 hK hs hF⟩
set_option maxHeartbeats 4000000 in
theorem g_X11_set_0 {d : Nat} {K : KT} {Q : Int32 → HI → HR → Prop} {I : HI} {J : HJ} {R : HR} {R0 : HR} {x1 : Int32} {x2 : Int32} {x3 : Int32} (hK : am_R M_X11_set (am_W d) none R0 (qR fi J R0 Q) K) (hs0 : Stat R0) (hs : Stat R) (hg : am_g R = am_g R0)  (hF : Wp fb d M_X11_hasInput [.ref 0, .int x1] I J R (fun b1 => ((b1 = false → Q (-1) I R) ∧ (b1 = true → ((x2 < (-1000000000) → Q (-1) I R) ∧ (¬ x2 < (-1000000000) → ((1000000000 < x2 → Q (-1) I R) ∧ (¬ 1000000000 < x2 → ((x3 < 1 → Q (-1) I R) ∧ (¬ x3 < 1 → ((x3 ≤ 1000000000 → (∃ n7 : Nat, x1 = nI n7 ∧ n7 < 4 ∧ Wp fi d M_X3_of [.int x2] I J R (fun r10 => Wp fi d M_X3_of [.int x3] I J R (fun r11 => Wp fi d M_X3_inverse [.int r11] I J R (fun r12 => Wp fi d M_X3_times [.int r10, .int r12] I J R (fun r13 => (∃ p14 : Nat, (R 0 5) = some p14 ∧ isX5 p14 ∧ Wr fv d M_X1_execute [.ref 17, .ref p14, .ref 16] (up I 16 n7 r13) J R (fun u16 I17 R18 => Q (I 16 n7) I17 R18)))))))) ∧ (¬ x3 ≤ 1000000000 → Q (-1) I R)))))))))))) : K 0 [(0, .ref 0), (1, .int x1), (2, .int x2), (3, .int x3)] [] I J R := by
  refine k_ld hK 0 dX11_set_0 rfl rfl rfl rfl ?_
  refine k_ld hK 1 dX11_set_1 rfl rfl rfl rfl ?_
  refine k_cVp hK dX11_set_2 (Or.inl lm_X11_106) (As := [.int x1]) (S := []) rfl (sc_0 hs) (Nat.le_of_ble_eq_true rfl) (fit_of hs0 hs hg rfl rfl) rfl hF (fun b1 hF => ?_)
  show K _ _ [.int (b2i b1)] _ _ _
  refine k_beq hK dX11_set_5 (tgt := 31) rfl (fun h2 => ?_) (fun h2 => ?_)
  · have hF := hF.1 h2
    refine k_ic hK dX11_set_31 ci_m1 ?_
    exact k_iret hK dX11_set_32 rfl rfl (done_of hs0 hs hg rfl rfl) (qR_i hs hg hF)
  · have hF := hF.2 h2
    refine k_ld hK 2 dX11_set_8 rfl rfl rfl rfl ?_
    refine k_ldc hK dX11_set_9 lc_X11_110 ?_
    refine k_clt hK dX11_set_11 (tgt := 31) rfl (fun h3 => ?_) (fun h3 => ?_)
    · have hF := hF.1 h3
      refine k_ic hK dX11_set_31 ci_m1 ?_
      exact k_iret hK dX11_set_32 rfl rfl (done_of hs0 hs hg rfl rfl) (qR_i hs hg hF)
    · have hF := hF.2 h3
      refine k_ld hK 2 dX11_set_14 rfl rfl rfl rfl ?_
      refine k_ldc hK dX11_set_15 lc_X11_111 ?_
      refine k_cgt hK dX11_set_17 (tgt := 31) rfl (fun h4 => ?_) (fun h4 => ?_)
      · have hF := hF.1 h4
        refine k_ic hK dX11_set_31 ci_m1 ?_
        exact k_iret hK dX11_set_32 rfl rfl (done_of hs0 hs hg rfl rfl) (qR_i hs hg hF)
      · have hF := hF.2 h4
        refine k_ld hK 3 dX11_set_20 rfl rfl rfl rfl ?_
        refine k_ic hK dX11_set_21 ci_1 ?_
        refine k_clt hK dX11_set_22 (tgt := 31) rfl (fun h5 => ?_) (fun h5 => ?_)
        · have hF := hF.1 h5
          refine k_ic hK dX11_set_31 ci_m1 ?_
          exact k_iret hK dX11_set_32 rfl rfl (done_of hs0 hs hg rfl rfl) (qR_i hs hg hF)
        · have hF := hF.2 h5
          refine k_ld hK 3 dX11_set_25 rfl rfl rfl rfl ?_
          refine k_ldc hK dX11_set_26 lc_X11_111 ?_
          refine k_cle hK dX11_set_28 (tgt := 33) rfl (fun h6 => ?_) (fun h6 => ?_)
          · have hF := hF.1 h6
            refine k_ld hK 0 dX11_set_33 rfl rfl rfl rfl ?_
            refine k_gR hK dX11_set_34 lf_X11_36 rfl (sc_0 hs) (sf_0_7 hs) ?_
            refine k_ld hK 1 dX11_set_37 rfl rfl rfl rfl ?_
            obtain ⟨n7, i8, j9, hF⟩ := hF
            refine k_iald hK dX11_set_38 (sc_16 hs) sn_16 (by decide) i8 j9 rfl ?_
            refine k_st hK dX11_set_39 rfl rfl rfl (Nat.le_of_ble_eq_true rfl) rfl ?_
            refine k_ld hK 1 dX11_set_41 rfl rfl rfl rfl ?_
            refine k_gR hK dX11_set_42 lf_X11_36 rfl (sc_0 hs) (sf_0_7 hs) ?_
            refine k_ld hK 2 dX11_set_45 rfl rfl rfl rfl ?_
            refine k_ld hK 3 dX11_set_46 rfl rfl rfl rfl ?_
            refine k_cSp hK dX11_set_47 lm_X11_112 (As := [.int x2]) (S := [.int x1, .ref 16]) rfl (Nat.le_of_ble_eq_true rfl) (fit_of hs0 hs hg rfl rfl) rfl hF (fun r10 hF => ?_)
            show K _ _ [.int r10, .int x1, .ref 16] _ _ _
            refine k_ld hK 4 dX11_set_50 rfl rfl rfl rfl ?_
            refine k_cSp hK dX11_set_51 lm_X11_112 (As := [.int x3]) (S := [.int r10, .int x1, .ref 16]) rfl (Nat.le_of_ble_eq_true rfl) (fit_of hs0 hs hg rfl rfl) rfl hF (fun r11 hF => ?_)
            show K _ _ [.int r11, .int r10, .int x1, .ref 16] _ _ _
            refine k_cSp hK dX11_set_54 lm_X11_118 (As := [.int r11]) (S := [.int r10, .int x1, .ref 16]) rfl (Nat.le_of_ble_eq_true rfl) (fit_of hs0 hs hg rfl rfl) rfl hF (fun r12 hF => ?_)
            show K _ _ [.int r12, .int r10, .int x1, .ref 16] _ _ _
            refine k_cSp hK dX11_set_57 lm_X11_121 (As := [.int r10, .int r12]) (S := [.int x1, .ref 16]) rfl (Nat.le_of_ble_eq_true rfl) (fit_of hs0 hs hg rfl rfl) rfl hF (fun r13 hF => ?_)
            show K _ _ [.int r13, .int x1, .ref 16] _ _ _
            refine k_iast hK dX11_set_60 (sc_16 hs) sn_16 (by decide) i8 j9 ?_
            refine k_ld hK 1 dX11_set_61 rfl rfl rfl rfl ?_
            refine k_gR hK dX11_set_62 lf_X11_43 rfl (sc_0 hs) (sf_0_8 hs) ?_
            refine k_ld hK 1 dX11_set_65 rfl rfl rfl rfl ?_
            obtain ⟨p14, e15, h_p14, hF⟩ := hF
            refine k_gR hK dX11_set_66 lf_X11_29 rfl (sc_0 hs) e15 ?_
            refine k_ld hK 1 dX11_set_69 rfl rfl rfl rfl ?_
            refine k_gR hK dX11_set_70 lf_X11_36 rfl (sc_0 hs) (sf_0_7 hs) ?_
            refine k_cVr hK dX11_set_73 (Or.inl lm_X11_99) (As := [.ref p14, .ref 16]) (S := []) rfl (sc_17 hs) (Nat.le_of_ble_eq_true rfl) (fit_of hs0 hs hg rfl rfl) rfl hF (fun u16 I17 R18 hs hg1 hF => ?_)
            have hg := hg1.trans hg
            show K _ _ [] _ _ _
            refine k_ld hK 0 dX11_set_76 rfl rfl rfl rfl ?_
            exact k_iret hK dX11_set_78 rfl rfl (done_of hs0 hs hg rfl rfl) (qR_i hs hg hF)
          · have hF := hF.2 h6
            refine k_ic hK dX11_set_31 ci_m1 ?_
            exact k_iret hK dX11_set_32 rfl rfl (done_of hs0 hs hg rfl rfl) (qR_i hs hg hF)
theorem e_X11_set {d : Nat} {Q : Int32 → HI → HR → Prop} {I : HI} {J : HJ} {R : HR} {x1 : Int32} {x2 : Int32} {x3 : Int32} (hs : Stat R)  (hF : Wp fb d M_X11_hasInput [.ref 0, .int x1] I J R (fun b1 => ((b1 = false → Q (-1) I R) ∧ (b1 = true → ((x2 < (-1000000000) → Q (-1) I R) ∧ (¬ x2 < (-1000000000) → ((1000000000 < x2 → Q (-1) I R) ∧ (¬ 1000000000 < x2 → ((x3 < 1 → Q (-1) I R) ∧ (¬ x3 < 1 → ((x3 ≤ 1000000000 → (∃ n7 : Nat, x1 = nI n7 ∧ n7 < 4 ∧ Wp fi d M_X3_of [.int x2] I J R (fun r10 => Wp fi d M_X3_of [.int x3] I J R (fun r11 => Wp fi d M_X3_inverse [.int r11] I J R (fun r12 => Wp fi d M_X3_times [.int r10, .int r12] I J R (fun r13 => (∃ p14 : Nat, (R 0 5) = some p14 ∧ isX5 p14 ∧ Wr fv d M_X1_execute [.ref 17, .ref p14, .ref 16] (up I 16 n7 r13) J R (fun u16 I17 R18 => Q (I 16 n7) I17 R18)))))))) ∧ (¬ x3 ≤ 1000000000 → Q (-1) I R)))))))))))) : Wr fi (d + 1) M_X11_set [.ref 0, .int x1, .int x2, .int x3] I J R Q := ⟨Nat.le_of_ble_eq_true rfl, fun K hK => g_X11_set_0 hK hs hs rfl hF⟩
set_option maxHeartbeats 4000000 in
theorem g_X11_row_0 {d : Nat} {K : KT} {Q : Int32 → Prop} {I : HI} {J : HJ} {R : HR} {x1 : Int32} {x2 : Int32} (hK : am_R M_X11_row (am_W d) none R (qP fi I J R Q) K) (hs : Stat R)  (hF : ((x1 < 0 → Q (-1)) ∧ (¬ x1 < 0 → (∃ p2 : Nat, (R 0 5) = some p2 ∧ isX5 p2 ∧ ((x1 < (I p2 5) → ((x2 = 0 → (∃ n6 : Nat, x1 = nI n6 ∧ n6 < 6 ∧ Q (I (p2 + 3) n6))) ∧ (¬ x2 = 0 → ((x2 = 1 → (∃ n10 : Nat, x1 = nI n10 ∧ n10 < 6 ∧ Q (I (p2 + 2) n10))) ∧ (¬ x2 = 1 → ((x2 = 2 → Wp fi d M_X5_rowsThatShare [.ref p2, .int x1] I J R (fun r14 => Q r14)) ∧ (¬ x2 = 2 → Q (-1)))))))) ∧ (¬ x1 < (I p2 5) → Q (-1))))))) : K 0 [(0, .ref 0), (1, .int x1), (2, .int x2)] [] I J R := by
  refine k_ld hK 1 dX11_row_0 rfl rfl rfl rfl ?_
  refine k_lt hK dX11_row_1 (tgt := 15) rfl (fun h1 => ?_) (fun h1 => ?_)
  · have hF := hF.1 h1
    refine k_ic hK dX11_row_15 ci_m1 ?_
    exact k_iret hK dX11_row_16 rfl rfl (done_0 rfl rfl) (qP_i hF)
  · have hF := hF.2 h1
    refine k_ld hK 1 dX11_row_4 rfl rfl rfl rfl ?_
    refine k_ld hK 0 dX11_row_5 rfl rfl rfl rfl ?_
    obtain ⟨p2, e3, h_p2, hF⟩ := hF
    refine k_gR hK dX11_row_6 lf_X11_29 rfl (sc_0 hs) e3 ?_
    refine k_gI hK dX11_row_9 lf_X11_149 rfl (sk_X5_0 hs h_p2) rfl ?_
    refine k_clt hK dX11_row_12 (tgt := 17) rfl (fun h4 => ?_) (fun h4 => ?_)
    · have hF := hF.1 h4
      refine k_ld hK 2 dX11_row_17 rfl rfl rfl rfl ?_
      refine k_tab hK dX11_row_18 (cs := [(0, 44), (1, 54), (2, 64)]) (td := 73) (by decide) (by decide) ?_
      refine swc (fun h5 => ?_) (fun h5 => ?_)
      · have hF := hF.1 h5
        refine k_ld hK 0 dX11_row_44 rfl rfl rfl rfl ?_
        refine k_gR hK dX11_row_45 lf_X11_29 rfl (sc_0 hs) e3 ?_
        refine k_gR hK dX11_row_48 lf_X11_152 rfl (sk_X5_0 hs h_p2) (sr_X5_0_8 hs h_p2) ?_
        refine k_ld hK 1 dX11_row_51 rfl rfl rfl rfl ?_
        obtain ⟨n6, i7, j8, hF⟩ := hF
        refine k_iald hK dX11_row_52 (sk_X5_3 hs h_p2) (sl_X5_3 h_p2) (by decide) i7 j8 rfl ?_
        exact k_iret hK dX11_row_53 rfl rfl (done_0 rfl rfl) (qP_i hF)
      have hF := hF.2 h5
      refine swc (fun h9 => ?_) (fun h9 => ?_)
      · have hF := hF.1 h9
        refine k_ld hK 0 dX11_row_54 rfl rfl rfl rfl ?_
        refine k_gR hK dX11_row_55 lf_X11_29 rfl (sc_0 hs) e3 ?_
        refine k_gR hK dX11_row_58 lf_X11_155 rfl (sk_X5_0 hs h_p2) (sr_X5_0_7 hs h_p2) ?_
        refine k_ld hK 1 dX11_row_61 rfl rfl rfl rfl ?_
        obtain ⟨n10, i11, j12, hF⟩ := hF
        refine k_iald hK dX11_row_62 (sk_X5_2 hs h_p2) (sl_X5_2 h_p2) (by decide) i11 j12 rfl ?_
        exact k_iret hK dX11_row_63 rfl rfl (done_0 rfl rfl) (qP_i hF)
      have hF := hF.2 h9
      refine swc (fun h13 => ?_) (fun h13 => ?_)
      · have hF := hF.1 h13
        refine k_ld hK 0 dX11_row_64 rfl rfl rfl rfl ?_
        refine k_gR hK dX11_row_65 lf_X11_29 rfl (sc_0 hs) e3 ?_
        refine k_ld hK 1 dX11_row_68 rfl rfl rfl rfl ?_
        refine k_cVp hK dX11_row_69 (Or.inl lm_X11_158) (As := [.int x1]) (S := []) rfl (sk_X5_0 hs h_p2) (Nat.le_of_ble_eq_true rfl) (fit_0 rfl rfl) rfl hF (fun r14 hF => ?_)
        show K _ _ [.int r14] _ _ _
        exact k_iret hK dX11_row_72 rfl rfl (done_0 rfl rfl) (qP_i hF)
      have hF := hF.2 h13
      refine swn ?_
      refine k_ic hK dX11_row_73 ci_m1 ?_
      exact k_iret hK dX11_row_74 rfl rfl (done_0 rfl rfl) (qP_i hF)
    · have hF := hF.2 h4
      refine k_ic hK dX11_row_15 ci_m1 ?_
      exact k_iret hK dX11_row_16 rfl rfl (done_0 rfl rfl) (qP_i hF)
theorem e_X11_row {d : Nat} {Q : Int32 → Prop} {I : HI} {J : HJ} {R : HR} {x1 : Int32} {x2 : Int32} (hs : Stat R)  (hF : ((x1 < 0 → Q (-1)) ∧ (¬ x1 < 0 → (∃ p2 : Nat, (R 0 5) = some p2 ∧ isX5 p2 ∧ ((x1 < (I p2 5) → ((x2 = 0 → (∃ n6 : Nat, x1 = nI n6 ∧ n6 < 6 ∧ Q (I (p2 + 3) n6))) ∧ (¬ x2 = 0 → ((x2 = 1 → (∃ n10 : Nat, x1 = nI n10 ∧ n10 < 6 ∧ Q (I (p2 + 2) n10))) ∧ (¬ x2 = 1 → ((x2 = 2 → Wp fi d M_X5_rowsThatShare [.ref p2, .int x1] I J R (fun r14 => Q r14)) ∧ (¬ x2 = 2 → Q (-1)))))))) ∧ (¬ x1 < (I p2 5) → Q (-1))))))) : Wp fi (d + 1) M_X11_row [.ref 0, .int x1, .int x2] I J R Q := ⟨Nat.le_of_ble_eq_true rfl, fun K hK => g_X11_row_0 hK hs hF⟩
set_option maxHeartbeats 4000000 in
theorem g_X11_variable_0 {d : Nat} {K : KT} {Q : Int32 → Prop} {I : HI} {J : HJ} {R : HR} {x1 : Int32} {x2 : Int32} (hK : am_R M_X11_variable (am_W d) none R (qP fi I J R Q) K) (hs : Stat R)  (hF : Wp fi d M_X11_read [.ref 18, .int x1, .int x2] I J R (fun r1 => Q r1)) : K 0 [(0, .ref 0), (1, .int x1), (2, .int x2)] [] I J R := by
  refine k_ld hK 0 dX11_variable_0 rfl rfl rfl rfl ?_
  refine k_gR hK dX11_variable_1 lf_X11_43 rfl (sc_0 hs) (sf_0_8 hs) ?_
  refine k_gR hK dX11_variable_4 lf_X11_161 rfl (sc_17 hs) (sf_17_1 hs) ?_
  refine k_ld hK 1 dX11_variable_7 rfl rfl rfl rfl ?_
  refine k_ld hK 2 dX11_variable_8 rfl rfl rfl rfl ?_
  refine k_cSp hK dX11_variable_9 lm_X11_165 (As := [.ref 18, .int x1, .int x2]) (S := []) rfl (Nat.le_of_ble_eq_true rfl) (fit_0 rfl rfl) rfl hF (fun r1 hF => ?_)
  show K _ _ [.int r1] _ _ _
  exact k_iret hK dX11_variable_12 rfl rfl (done_0 rfl rfl) (qP_i hF)
theorem e_X11_variable {d : Nat} {Q : Int32 → Prop} {I : HI} {J : HJ} {R : HR} {x1 : Int32} {x2 : Int32} (hs : Stat R)  (hF : Wp fi d M_X11_read [.ref 18, .int x1, .int x2] I J R (fun r1 => Q r1)) : Wp fi (d + 1) M_X11_variable [.ref 0, .int x1, .int x2] I J R Q := ⟨Nat.le_of_ble_eq_true rfl, fun K hK => g_X11_variable_0 hK hs hF⟩
set_option maxHeartbeats 4000000 in
theorem g_X11_cell_0 {d : Nat} {K : KT} {Q : Int32 → Prop} {I : HI} {J : HJ} {R : HR} {x1 : Int32} {x2 : Int32} (hK : am_R M_X11_cell (am_W d) none R (qP fi I J R Q) K) (hs : Stat R)  (hF : Wp fi d M_X11_read [.ref 21, .int x1, .int x2] I J R (fun r1 => Q r1)) : K 0 [(0, .ref 0), (1, .int x1), (2, .int x2)] [] I J R := by
  refine k_ld hK 0 dX11_cell_0 rfl rfl rfl rfl ?_
  refine k_gR hK dX11_cell_1 lf_X11_43 rfl (sc_0 hs) (sf_0_8 hs) ?_
  refine k_gR hK dX11_cell_4 lf_X11_169 rfl (sc_17 hs) (sf_17_2 hs) ?_
  refine k_ld hK 1 dX11_cell_7 rfl rfl rfl rfl ?_
  refine k_ld hK 2 dX11_cell_8 rfl rfl rfl rfl ?_
  refine k_cSp hK dX11_cell_9 lm_X11_165 (As := [.ref 21, .int x1, .int x2]) (S := []) rfl (Nat.le_of_ble_eq_true rfl) (fit_0 rfl rfl) rfl hF (fun r1 hF => ?_)
  show K _ _ [.int r1] _ _ _
  exact k_iret hK dX11_cell_12 rfl rfl (done_0 rfl rfl) (qP_i hF)
theorem e_X11_cell {d : Nat} {Q : Int32 → Prop} {I : HI} {J : HJ} {R : HR} {x1 : Int32} {x2 : Int32} (hs : Stat R)  (hF : Wp fi d M_X11_read [.ref 21, .int x1, .int x2] I J R (fun r1 => Q r1)) : Wp fi (d + 1) M_X11_cell [.ref 0, .int x1, .int x2] I J R Q := ⟨Nat.le_of_ble_eq_true rfl, fun K hK => g_X11_cell_0 hK hs hF⟩
set_option maxHeartbeats 4000000 in
theorem g_X11_out_0 {d : Nat} {K : KT} {Q : Int32 → Prop} {I : HI} {J : HJ} {R : HR} {x1 : Int32} {x2 : Int32} (hK : am_R M_X11_out (am_W d) none R (qP fi I J R Q) K) (hs : Stat R)  (hF : Wp fi d M_X11_read [.ref 27, .int x1, .int x2] I J R (fun r1 => Q r1)) : K 0 [(0, .ref 0), (1, .int x1), (2, .int x2)] [] I J R := by
  refine k_ld hK 0 dX11_out_0 rfl rfl rfl rfl ?_
  refine k_gR hK dX11_out_1 lf_X11_43 rfl (sc_0 hs) (sf_0_8 hs) ?_
  refine k_gR hK dX11_out_4 lf_X11_172 rfl (sc_17 hs) (sf_17_4 hs) ?_
  refine k_ld hK 1 dX11_out_7 rfl rfl rfl rfl ?_
  refine k_ld hK 2 dX11_out_8 rfl rfl rfl rfl ?_
  refine k_cSp hK dX11_out_9 lm_X11_165 (As := [.ref 27, .int x1, .int x2]) (S := []) rfl (Nat.le_of_ble_eq_true rfl) (fit_0 rfl rfl) rfl hF (fun r1 hF => ?_)
  show K _ _ [.int r1] _ _ _
  exact k_iret hK dX11_out_12 rfl rfl (done_0 rfl rfl) (qP_i hF)
theorem e_X11_out {d : Nat} {Q : Int32 → Prop} {I : HI} {J : HJ} {R : HR} {x1 : Int32} {x2 : Int32} (hs : Stat R)  (hF : Wp fi d M_X11_read [.ref 27, .int x1, .int x2] I J R (fun r1 => Q r1)) : Wp fi (d + 1) M_X11_out [.ref 0, .int x1, .int x2] I J R Q := ⟨Nat.le_of_ble_eq_true rfl, fun K hK => g_X11_out_0 hK hs hF⟩
set_option maxHeartbeats 4000000 in
theorem g_X11_read_0 {d : Nat} {K : KT} {Q : Int32 → Prop} {I : HI} {J : HJ} {R : HR} {p0 : Nat} {x1 : Int32} {x2 : Int32} (hK : am_R M_X11_read (am_W d) none R (qP fi I J R Q) K) (hs : Stat R) (h_p0 : isX8 p0) (hF : ((x1 < 0 → Q (-10)) ∧ (¬ x1 < 0 → ((x1 < (I p0 2) → ((x2 = 0 → Wp fi d M_X8_valueAt [.ref p0, .int x1] I J R (fun r4 => Q r4)) ∧ (¬ x2 = 0 → ((x2 = 1 → Wp fi d M_X8_sourceAt [.ref p0, .int x1] I J R (fun r6 => Q r6)) ∧ (¬ x2 = 1 → Q (-10)))))) ∧ (¬ x1 < (I p0 2) → Q (-10)))))) : K 0 [(0, .ref p0), (1, .int x1), (2, .int x2)] [] I J R := by
  refine k_ld hK 1 dX11_read_0 rfl rfl rfl rfl ?_
  refine k_lt hK dX11_read_1 (tgt := 12) rfl (fun h1 => ?_) (fun h1 => ?_)
  · have hF := hF.1 h1
    refine k_bi hK dX11_read_12 cb_m10 ?_
    exact k_iret hK dX11_read_14 rfl rfl (done_0 rfl rfl) (qP_i hF)
  · have hF := hF.2 h1
    refine k_ld hK 1 dX11_read_4 rfl rfl rfl rfl ?_
    refine k_ld hK 0 dX11_read_5 rfl rfl rfl rfl ?_
    refine k_gI hK dX11_read_6 lf_X11_175 rfl (sk_X8_0 hs h_p0) rfl ?_
    refine k_clt hK dX11_read_9 (tgt := 15) rfl (fun h2 => ?_) (fun h2 => ?_)
    · have hF := hF.1 h2
      refine k_ld hK 2 dX11_read_15 rfl rfl rfl rfl ?_
      refine k_lkp hK dX11_read_16 (cs := [(0, 44), (1, 50)]) (td := 56) (by decide) (by decide) ?_
      refine swc (fun h3 => ?_) (fun h3 => ?_)
      · have hF := hF.1 h3
        refine k_ld hK 0 dX11_read_44 rfl rfl rfl rfl ?_
        refine k_ld hK 1 dX11_read_45 rfl rfl rfl rfl ?_
        refine k_cVp hK dX11_read_46 (Or.inl lm_X11_180) (As := [.int x1]) (S := []) rfl (sk_X8_0 hs h_p0) (Nat.le_of_ble_eq_true rfl) (fit_0 rfl rfl) rfl hF (fun r4 hF => ?_)
        show K _ _ [.int r4] _ _ _
        exact k_iret hK dX11_read_49 rfl rfl (done_0 rfl rfl) (qP_i hF)
      have hF := hF.2 h3
      refine swc (fun h5 => ?_) (fun h5 => ?_)
      · have hF := hF.1 h5
        refine k_ld hK 0 dX11_read_50 rfl rfl rfl rfl ?_
        refine k_ld hK 1 dX11_read_51 rfl rfl rfl rfl ?_
        refine k_cVp hK dX11_read_52 (Or.inl lm_X11_183) (As := [.int x1]) (S := []) rfl (sk_X8_0 hs h_p0) (Nat.le_of_ble_eq_true rfl) (fit_0 rfl rfl) rfl hF (fun r6 hF => ?_)
        show K _ _ [.int r6] _ _ _
        exact k_iret hK dX11_read_55 rfl rfl (done_0 rfl rfl) (qP_i hF)
      have hF := hF.2 h5
      refine swn ?_
      refine k_bi hK dX11_read_56 cb_m10 ?_
      exact k_iret hK dX11_read_58 rfl rfl (done_0 rfl rfl) (qP_i hF)
    · have hF := hF.2 h2
      refine k_bi hK dX11_read_12 cb_m10 ?_
      exact k_iret hK dX11_read_14 rfl rfl (done_0 rfl rfl) (qP_i hF)
theorem e_X11_read {d : Nat} {Q : Int32 → Prop} {I : HI} {J : HJ} {R : HR} {p0 : Nat} {x1 : Int32} {x2 : Int32} (hs : Stat R) (h_p0 : isX8 p0) (hF : ((x1 < 0 → Q (-10)) ∧ (¬ x1 < 0 → ((x1 < (I p0 2) → ((x2 = 0 → Wp fi d M_X8_valueAt [.ref p0, .int x1] I J R (fun r4 => Q r4)) ∧ (¬ x2 = 0 → ((x2 = 1 → Wp fi d M_X8_sourceAt [.ref p0, .int x1] I J R (fun r6 => Q r6)) ∧ (¬ x2 = 1 → Q (-10)))))) ∧ (¬ x1 < (I p0 2) → Q (-10)))))) : Wp fi (d + 1) M_X11_read [.ref p0, .int x1, .int x2] I J R Q := ⟨Nat.le_of_ble_eq_true rfl, fun K hK => g_X11_read_0 hK hs h_p0 hF⟩
set_option maxHeartbeats 4000000 in
theorem g_X11_run_0 {d : Nat} {K : KT} {Q : Int32 → Prop} {I : HI} {J : HJ} {R : HR} {x1 : Int32} (hK : am_R M_X11_run (am_W d) none R (qP fi I J R Q) K) (hs : Stat R)  (hF : ((x1 = 0 → Q (I 17 11)) ∧ (¬ x1 = 0 → ((x1 = 1 → ((¬ (I 17 11) = 0 → Q (I 17 9)) ∧ ((I 17 11) = 0 → Q (-2)))) ∧ (¬ x1 = 1 → ((x1 = 2 → Q (I 17 10)) ∧ (¬ x1 = 2 → ((x1 = 3 → Q (I 27 2)) ∧ (¬ x1 = 3 → ((x1 = 4 → Q (I 30 0)) ∧ (¬ x1 = 4 → ((x1 = 5 → Q (I 41 1)) ∧ (¬ x1 = 5 → ((x1 = 6 → Q (I 41 2)) ∧ (¬ x1 = 6 → Q (-1)))))))))))))))) : K 0 [(0, .ref 0), (1, .int x1)] [] I J R := by
  refine k_ld hK 1 dX11_run_0 rfl rfl rfl rfl ?_
  refine k_tab hK dX11_run_1 (cs := [(0, 44), (1, 52), (2, 75), (3, 83), (4, 94), (5, 105), (6, 116)]) (td := 127) (by decide) (by decide) ?_
  refine swc (fun h1 => ?_) (fun h1 => ?_)
  · have hF := hF.1 h1
    refine k_ld hK 0 dX11_run_44 rfl rfl rfl rfl ?_
    refine k_gR hK dX11_run_45 lf_X11_43 rfl (sc_0 hs) (sf_0_8 hs) ?_
    refine k_gI hK dX11_run_48 lf_X11_186 rfl (sc_17 hs) rfl ?_
    exact k_iret hK dX11_run_51 rfl rfl (done_0 rfl rfl) (qP_i hF)
  have hF := hF.2 h1
  refine swc (fun h2 => ?_) (fun h2 => ?_)
  · have hF := hF.1 h2
    refine k_ld hK 0 dX11_run_52 rfl rfl rfl rfl ?_
    refine k_gR hK dX11_run_53 lf_X11_43 rfl (sc_0 hs) (sf_0_8 hs) ?_
    refine k_gI hK dX11_run_56 lf_X11_186 rfl (sc_17 hs) rfl ?_
    refine k_ne hK dX11_run_59 (tgt := 67) rfl (fun h3 => ?_) (fun h3 => ?_)
    · have hF := hF.1 h3
      refine k_ld hK 0 dX11_run_67 rfl rfl rfl rfl ?_
      refine k_gR hK dX11_run_68 lf_X11_43 rfl (sc_0 hs) (sf_0_8 hs) ?_
      refine k_gI hK dX11_run_71 lf_X11_189 rfl (sc_17 hs) rfl ?_
      exact k_iret hK dX11_run_74 rfl rfl (done_0 rfl rfl) (qP_i hF)
    · have hF := hF.2 h3
      refine k_bi hK dX11_run_62 cb_m2 ?_
      refine k_goto hK dX11_run_64 (tgt := 74) rfl ?_
      exact k_iret hK dX11_run_74 rfl rfl (done_0 rfl rfl) (qP_i hF)
  have hF := hF.2 h2
  refine swc (fun h4 => ?_) (fun h4 => ?_)
  · have hF := hF.1 h4
    refine k_ld hK 0 dX11_run_75 rfl rfl rfl rfl ?_
    refine k_gR hK dX11_run_76 lf_X11_43 rfl (sc_0 hs) (sf_0_8 hs) ?_
    refine k_gI hK dX11_run_79 lf_X11_192 rfl (sc_17 hs) rfl ?_
    exact k_iret hK dX11_run_82 rfl rfl (done_0 rfl rfl) (qP_i hF)
  have hF := hF.2 h4
  refine swc (fun h5 => ?_) (fun h5 => ?_)
  · have hF := hF.1 h5
    refine k_ld hK 0 dX11_run_83 rfl rfl rfl rfl ?_
    refine k_gR hK dX11_run_84 lf_X11_43 rfl (sc_0 hs) (sf_0_8 hs) ?_
    refine k_gR hK dX11_run_87 lf_X11_172 rfl (sc_17 hs) (sf_17_4 hs) ?_
    refine k_gI hK dX11_run_90 lf_X11_175 rfl (sc_27 hs) rfl ?_
    exact k_iret hK dX11_run_93 rfl rfl (done_0 rfl rfl) (qP_i hF)
  have hF := hF.2 h5
  refine swc (fun h6 => ?_) (fun h6 => ?_)
  · have hF := hF.1 h6
    refine k_ld hK 0 dX11_run_94 rfl rfl rfl rfl ?_
    refine k_gR hK dX11_run_95 lf_X11_43 rfl (sc_0 hs) (sf_0_8 hs) ?_
    refine k_gR hK dX11_run_98 lf_X11_195 rfl (sc_17 hs) (sf_17_5 hs) ?_
    refine k_gI hK dX11_run_101 lf_X11_199 rfl (sc_30 hs) rfl ?_
    exact k_iret hK dX11_run_104 rfl rfl (done_0 rfl rfl) (qP_i hF)
  have hF := hF.2 h6
  refine swc (fun h7 => ?_) (fun h7 => ?_)
  · have hF := hF.1 h7
    refine k_ld hK 0 dX11_run_105 rfl rfl rfl rfl ?_
    refine k_gR hK dX11_run_106 lf_X11_43 rfl (sc_0 hs) (sf_0_8 hs) ?_
    refine k_gR hK dX11_run_109 lf_X11_202 rfl (sc_17 hs) (sf_17_6 hs) ?_
    refine k_gI hK dX11_run_112 lf_X11_206 rfl (sc_41 hs) rfl ?_
    exact k_iret hK dX11_run_115 rfl rfl (done_0 rfl rfl) (qP_i hF)
  have hF := hF.2 h7
  refine swc (fun h8 => ?_) (fun h8 => ?_)
  · have hF := hF.1 h8
    refine k_ld hK 0 dX11_run_116 rfl rfl rfl rfl ?_
    refine k_gR hK dX11_run_117 lf_X11_43 rfl (sc_0 hs) (sf_0_8 hs) ?_
    refine k_gR hK dX11_run_120 lf_X11_202 rfl (sc_17 hs) (sf_17_6 hs) ?_
    refine k_gI hK dX11_run_123 lf_X11_209 rfl (sc_41 hs) rfl ?_
    exact k_iret hK dX11_run_126 rfl rfl (done_0 rfl rfl) (qP_i hF)
  have hF := hF.2 h8
  refine swn ?_
  refine k_ic hK dX11_run_127 ci_m1 ?_
  exact k_iret hK dX11_run_128 rfl rfl (done_0 rfl rfl) (qP_i hF)
theorem e_X11_run {d : Nat} {Q : Int32 → Prop} {I : HI} {J : HJ} {R : HR} {x1 : Int32} (hs : Stat R)  (hF : ((x1 = 0 → Q (I 17 11)) ∧ (¬ x1 = 0 → ((x1 = 1 → ((¬ (I 17 11) = 0 → Q (I 17 9)) ∧ ((I 17 11) = 0 → Q (-2)))) ∧ (¬ x1 = 1 → ((x1 = 2 → Q (I 17 10)) ∧ (¬ x1 = 2 → ((x1 = 3 → Q (I 27 2)) ∧ (¬ x1 = 3 → ((x1 = 4 → Q (I 30 0)) ∧ (¬ x1 = 4 → ((x1 = 5 → Q (I 41 1)) ∧ (¬ x1 = 5 → ((x1 = 6 → Q (I 41 2)) ∧ (¬ x1 = 6 → Q (-1)))))))))))))))) : Wp fi (d + 1) M_X11_run [.ref 0, .int x1] I J R Q := ⟨Nat.le_of_ble_eq_true rfl, fun K hK => g_X11_run_0 hK hs hF⟩
set_option maxHeartbeats 4000000 in
theorem g_X11_path_0 {d : Nat} {K : KT} {Q : Int32 → Prop} {I : HI} {J : HJ} {R : HR} {x1 : Int32} (hK : am_R M_X11_path (am_W d) none R (qP fi I J R Q) K) (hs : Stat R)  (hF : ((0 ≤ x1 → (((I 41 1) ≤ x1 → Q (-2)) ∧ (¬ (I 41 1) ≤ x1 → Wp fi d M_X0_answerAt [.ref 41, .int x1] I J R (fun r3 => Q r3)))) ∧ (¬ 0 ≤ x1 → Q (-1)))) : K 0 [(0, .ref 0), (1, .int x1)] [] I J R := by
  refine k_ld hK 1 dX11_path_0 rfl rfl rfl rfl ?_
  refine k_ge hK dX11_path_1 (tgt := 6) rfl (fun h1 => ?_) (fun h1 => ?_)
  · have hF := hF.1 h1
    refine k_ld hK 1 dX11_path_6 rfl rfl rfl rfl ?_
    refine k_ld hK 0 dX11_path_7 rfl rfl rfl rfl ?_
    refine k_gR hK dX11_path_8 lf_X11_43 rfl (sc_0 hs) (sf_0_8 hs) ?_
    refine k_gR hK dX11_path_11 lf_X11_202 rfl (sc_17 hs) (sf_17_6 hs) ?_
    refine k_gI hK dX11_path_14 lf_X11_206 rfl (sc_41 hs) rfl ?_
    refine k_cge hK dX11_path_17 (tgt := 34) rfl (fun h2 => ?_) (fun h2 => ?_)
    · have hF := hF.1 h2
      refine k_bi hK dX11_path_34 cb_m2 ?_
      exact k_iret hK dX11_path_36 rfl rfl (done_0 rfl rfl) (qP_i hF)
    · have hF := hF.2 h2
      refine k_ld hK 0 dX11_path_20 rfl rfl rfl rfl ?_
      refine k_gR hK dX11_path_21 lf_X11_43 rfl (sc_0 hs) (sf_0_8 hs) ?_
      refine k_gR hK dX11_path_24 lf_X11_202 rfl (sc_17 hs) (sf_17_6 hs) ?_
      refine k_ld hK 1 dX11_path_27 rfl rfl rfl rfl ?_
      refine k_cVp hK dX11_path_28 (Or.inl lm_X11_212) (As := [.int x1]) (S := []) rfl (sc_41 hs) (Nat.le_of_ble_eq_true rfl) (fit_0 rfl rfl) rfl hF (fun r3 hF => ?_)
      show K _ _ [.int r3] _ _ _
      refine k_goto hK dX11_path_31 (tgt := 36) rfl ?_
      exact k_iret hK dX11_path_36 rfl rfl (done_0 rfl rfl) (qP_i hF)
  · have hF := hF.2 h1
    refine k_ic hK dX11_path_4 ci_m1 ?_
    exact k_iret hK dX11_path_5 rfl rfl (done_0 rfl rfl) (qP_i hF)
theorem e_X11_path {d : Nat} {Q : Int32 → Prop} {I : HI} {J : HJ} {R : HR} {x1 : Int32} (hs : Stat R)  (hF : ((0 ≤ x1 → (((I 41 1) ≤ x1 → Q (-2)) ∧ (¬ (I 41 1) ≤ x1 → Wp fi d M_X0_answerAt [.ref 41, .int x1] I J R (fun r3 => Q r3)))) ∧ (¬ 0 ≤ x1 → Q (-1)))) : Wp fi (d + 1) M_X11_path [.ref 0, .int x1] I J R Q := ⟨Nat.le_of_ble_eq_true rfl, fun K hK => g_X11_path_0 hK hs hF⟩
set_option maxHeartbeats 4000000 in
theorem g_X11_entry_0 {d : Nat} {K : KT} {Q : Int32 → HI → Prop} {I : HI} {J : HJ} {R : HR} {x1 : Int32} {x2 : Int32} (hK : am_R M_X11_entry (am_W d) none R (qC fi J R Q) K) (hs : Stat R)  (hF : Wp fb d M_X11_hasEntry [.ref 0, .int x1] I J R (fun b1 => ((b1 = true → ((x2 = 0 → (∃ n4 : Nat, x1 = nI n4 ∧ n4 < 400 ∧ Q (I 31 n4) I)) ∧ (¬ x2 = 0 → ((x2 = 1 → (∃ n8 : Nat, x1 = nI n8 ∧ n8 < 400 ∧ Q (I 33 n8) I)) ∧ (¬ x2 = 1 → ((x2 = 2 → (∃ n12 : Nat, x1 = nI n12 ∧ n12 < 400 ∧ Q (I 34 n12) I)) ∧ (¬ x2 = 2 → ((x2 = 3 → (∃ n16 : Nat, x1 = nI n16 ∧ n16 < 400 ∧ Q (I 35 n16) I)) ∧ (¬ x2 = 3 → ((x2 = 4 → (∃ n20 : Nat, x1 = nI n20 ∧ n20 < 400 ∧ Q (I 36 n20) I)) ∧ (¬ x2 = 4 → ((x2 = 5 → (∃ n24 : Nat, x1 = nI n24 ∧ n24 < 400 ∧ Q (I 37 n24) I)) ∧ (¬ x2 = 5 → ((x2 = 6 → (∃ n28 : Nat, x1 = nI n28 ∧ n28 < 400 ∧ Q (I 32 n28) I)) ∧ (¬ x2 = 6 → ((x2 = 7 → Wc fi d M_X11_outsThatHangOn [.ref 0, .int x1] I J R (fun r32 I33 => Q r32 I33)) ∧ (¬ x2 = 7 → ((x2 = 8 → (∃ n35 : Nat, x1 = nI n35 ∧ n35 < 400 ∧ Q (I 39 n35) I)) ∧ (¬ x2 = 8 → Q (-10) I))))))))))))))))))) ∧ (b1 = false → Q (-10) I)))) : K 0 [(0, .ref 0), (1, .int x1), (2, .int x2)] [] I J R := by
  refine k_ld hK 0 dX11_entry_0 rfl rfl rfl rfl ?_
  refine k_ld hK 1 dX11_entry_1 rfl rfl rfl rfl ?_
  refine k_cVp hK dX11_entry_2 (Or.inl lm_X11_215) (As := [.int x1]) (S := []) rfl (sc_0 hs) (Nat.le_of_ble_eq_true rfl) (fit_0 rfl rfl) rfl hF (fun b1 hF => ?_)
  show K _ _ [.int (b2i b1)] _ _ _
  refine k_bne hK dX11_entry_5 (tgt := 11) rfl (fun h2 => ?_) (fun h2 => ?_)
  · have hF := hF.1 h2
    refine k_ld hK 0 dX11_entry_11 rfl rfl rfl rfl ?_
    refine k_gR hK dX11_entry_12 lf_X11_43 rfl (sc_0 hs) (sf_0_8 hs) ?_
    refine k_gR hK dX11_entry_15 lf_X11_195 rfl (sc_17 hs) (sf_17_5 hs) ?_
    refine k_st hK dX11_entry_18 rfl rfl rfl (Nat.le_of_ble_eq_true rfl) rfl ?_
    refine k_ld hK 3 dX11_entry_19 rfl rfl rfl rfl ?_
    refine k_tab hK dX11_entry_20 (cs := [(0, 72), (1, 79), (2, 86), (3, 93), (4, 100), (5, 107), (6, 114), (7, 121), (8, 127)]) (td := 134) (by decide) (by decide) ?_
    refine swc (fun h3 => ?_) (fun h3 => ?_)
    · have hF := hF.1 h3
      refine k_ld hK 0 dX11_entry_72 rfl rfl rfl rfl ?_
      refine k_gR hK dX11_entry_73 lf_X11_218 rfl (sc_30 hs) (sf_30_1 hs) ?_
      refine k_ld hK 2 dX11_entry_76 rfl rfl rfl rfl ?_
      obtain ⟨n4, i5, j6, hF⟩ := hF
      refine k_iald hK dX11_entry_77 (sc_31 hs) sn_31 (by decide) i5 j6 rfl ?_
      exact k_iret hK dX11_entry_78 rfl rfl (done_0 rfl rfl) (qC_i hF)
    have hF := hF.2 h3
    refine swc (fun h7 => ?_) (fun h7 => ?_)
    · have hF := hF.1 h7
      refine k_ld hK 0 dX11_entry_79 rfl rfl rfl rfl ?_
      refine k_gR hK dX11_entry_80 lf_X11_221 rfl (sc_30 hs) (sf_30_3 hs) ?_
      refine k_ld hK 2 dX11_entry_83 rfl rfl rfl rfl ?_
      obtain ⟨n8, i9, j10, hF⟩ := hF
      refine k_iald hK dX11_entry_84 (sc_33 hs) sn_33 (by decide) i9 j10 rfl ?_
      exact k_iret hK dX11_entry_85 rfl rfl (done_0 rfl rfl) (qC_i hF)
    have hF := hF.2 h7
    refine swc (fun h11 => ?_) (fun h11 => ?_)
    · have hF := hF.1 h11
      refine k_ld hK 0 dX11_entry_86 rfl rfl rfl rfl ?_
      refine k_gR hK dX11_entry_87 lf_X11_224 rfl (sc_30 hs) (sf_30_4 hs) ?_
      refine k_ld hK 2 dX11_entry_90 rfl rfl rfl rfl ?_
      obtain ⟨n12, i13, j14, hF⟩ := hF
      refine k_iald hK dX11_entry_91 (sc_34 hs) sn_34 (by decide) i13 j14 rfl ?_
      exact k_iret hK dX11_entry_92 rfl rfl (done_0 rfl rfl) (qC_i hF)
    have hF := hF.2 h11
    refine swc (fun h15 => ?_) (fun h15 => ?_)
    · have hF := hF.1 h15
      refine k_ld hK 0 dX11_entry_93 rfl rfl rfl rfl ?_
      refine k_gR hK dX11_entry_94 lf_X11_227 rfl (sc_30 hs) (sf_30_5 hs) ?_
      refine k_ld hK 2 dX11_entry_97 rfl rfl rfl rfl ?_
      obtain ⟨n16, i17, j18, hF⟩ := hF
      refine k_iald hK dX11_entry_98 (sc_35 hs) sn_35 (by decide) i17 j18 rfl ?_
      exact k_iret hK dX11_entry_99 rfl rfl (done_0 rfl rfl) (qC_i hF)
    have hF := hF.2 h15
    refine swc (fun h19 => ?_) (fun h19 => ?_)
    · have hF := hF.1 h19
      refine k_ld hK 0 dX11_entry_100 rfl rfl rfl rfl ?_
      refine k_gR hK dX11_entry_101 lf_X11_230 rfl (sc_30 hs) (sf_30_6 hs) ?_
      refine k_ld hK 2 dX11_entry_104 rfl rfl rfl rfl ?_
      obtain ⟨n20, i21, j22, hF⟩ := hF
      refine k_iald hK dX11_entry_105 (sc_36 hs) sn_36 (by decide) i21 j22 rfl ?_
      exact k_iret hK dX11_entry_106 rfl rfl (done_0 rfl rfl) (qC_i hF)
    have hF := hF.2 h19
    refine swc (fun h23 => ?_) (fun h23 => ?_)
    · have hF := hF.1 h23
      refine k_ld hK 0 dX11_entry_107 rfl rfl rfl rfl ?_
      refine k_gR hK dX11_entry_108 lf_X11_233 rfl (sc_30 hs) (sf_30_7 hs) ?_
      refine k_ld hK 2 dX11_entry_111 rfl rfl rfl rfl ?_
      obtain ⟨n24, i25, j26, hF⟩ := hF
      refine k_iald hK dX11_entry_112 (sc_37 hs) sn_37 (by decide) i25 j26 rfl ?_
      exact k_iret hK dX11_entry_113 rfl rfl (done_0 rfl rfl) (qC_i hF)
    have hF := hF.2 h23
    refine swc (fun h27 => ?_) (fun h27 => ?_)
    · have hF := hF.1 h27
      refine k_ld hK 0 dX11_entry_114 rfl rfl rfl rfl ?_
      refine k_gR hK dX11_entry_115 lf_X11_236 rfl (sc_30 hs) (sf_30_2 hs) ?_
      refine k_ld hK 2 dX11_entry_118 rfl rfl rfl rfl ?_
      obtain ⟨n28, i29, j30, hF⟩ := hF
      refine k_iald hK dX11_entry_119 (sc_32 hs) sn_32 (by decide) i29 j30 rfl ?_
      exact k_iret hK dX11_entry_120 rfl rfl (done_0 rfl rfl) (qC_i hF)
    have hF := hF.2 h27
    refine swc (fun h31 => ?_) (fun h31 => ?_)
    · have hF := hF.1 h31
      refine k_ld hK 1 dX11_entry_121 rfl rfl rfl rfl ?_
      refine k_ld hK 2 dX11_entry_122 rfl rfl rfl rfl ?_
      refine k_cVc hK dX11_entry_123 (Or.inl lm_X11_239) (As := [.int x1]) (S := []) rfl (sc_0 hs) (Nat.le_of_ble_eq_true rfl) (fit_0 rfl rfl) rfl hF (fun r32 I33 hF => ?_)
      show K _ _ [.int r32] _ _ _
      exact k_iret hK dX11_entry_126 rfl rfl (done_0 rfl rfl) (qC_i hF)
    have hF := hF.2 h31
    refine swc (fun h34 => ?_) (fun h34 => ?_)
    · have hF := hF.1 h34
      refine k_ld hK 0 dX11_entry_127 rfl rfl rfl rfl ?_
      refine k_gR hK dX11_entry_128 lf_X11_242 rfl (sc_30 hs) (sf_30_9 hs) ?_
      refine k_ld hK 2 dX11_entry_131 rfl rfl rfl rfl ?_
      obtain ⟨n35, i36, j37, hF⟩ := hF
      refine k_iald hK dX11_entry_132 (sc_39 hs) sn_39 (by decide) i36 j37 rfl ?_
      exact k_iret hK dX11_entry_133 rfl rfl (done_0 rfl rfl) (qC_i hF)
    have hF := hF.2 h34
    refine swn ?_
    refine k_bi hK dX11_entry_134 cb_m10 ?_
    exact k_iret hK dX11_entry_136 rfl rfl (done_0 rfl rfl) (qC_i hF)
  · have hF := hF.2 h2
    refine k_bi hK dX11_entry_8 cb_m10 ?_
    exact k_iret hK dX11_entry_10 rfl rfl (done_0 rfl rfl) (qC_i hF)
theorem e_X11_entry {d : Nat} {Q : Int32 → HI → Prop} {I : HI} {J : HJ} {R : HR} {x1 : Int32} {x2 : Int32} (hs : Stat R)  (hF : Wp fb d M_X11_hasEntry [.ref 0, .int x1] I J R (fun b1 => ((b1 = true → ((x2 = 0 → (∃ n4 : Nat, x1 = nI n4 ∧ n4 < 400 ∧ Q (I 31 n4) I)) ∧ (¬ x2 = 0 → ((x2 = 1 → (∃ n8 : Nat, x1 = nI n8 ∧ n8 < 400 ∧ Q (I 33 n8) I)) ∧ (¬ x2 = 1 → ((x2 = 2 → (∃ n12 : Nat, x1 = nI n12 ∧ n12 < 400 ∧ Q (I 34 n12) I)) ∧ (¬ x2 = 2 → ((x2 = 3 → (∃ n16 : Nat, x1 = nI n16 ∧ n16 < 400 ∧ Q (I 35 n16) I)) ∧ (¬ x2 = 3 → ((x2 = 4 → (∃ n20 : Nat, x1 = nI n20 ∧ n20 < 400 ∧ Q (I 36 n20) I)) ∧ (¬ x2 = 4 → ((x2 = 5 → (∃ n24 : Nat, x1 = nI n24 ∧ n24 < 400 ∧ Q (I 37 n24) I)) ∧ (¬ x2 = 5 → ((x2 = 6 → (∃ n28 : Nat, x1 = nI n28 ∧ n28 < 400 ∧ Q (I 32 n28) I)) ∧ (¬ x2 = 6 → ((x2 = 7 → Wc fi d M_X11_outsThatHangOn [.ref 0, .int x1] I J R (fun r32 I33 => Q r32 I33)) ∧ (¬ x2 = 7 → ((x2 = 8 → (∃ n35 : Nat, x1 = nI n35 ∧ n35 < 400 ∧ Q (I 39 n35) I)) ∧ (¬ x2 = 8 → Q (-10) I))))))))))))))))))) ∧ (b1 = false → Q (-10) I)))) : Wc fi (d + 1) M_X11_entry [.ref 0, .int x1, .int x2] I J R Q := ⟨Nat.le_of_ble_eq_true rfl, fun K hK => g_X11_entry_0 hK hs hF⟩
set_option maxHeartbeats 4000000 in
theorem g_X11_outsThatHangOn_0 {d : Nat} {K : KT} {Q : Int32 → HI → Prop} {I : HI} {J : HJ} {R : HR} {x1 : Int32} (hK : am_R M_X11_outsThatHangOn (am_W d) none R (qC fi J R Q) K) (hs : Stat R)  (hF : Wc fv d M_X9_markForward [.ref 30, .int x1] I J R (fun u1 I2 => K 15 [(0, .ref 0), (2, .int 0), (3, .int 0)] [] I2 J R)) : K 0 [(0, .ref 0), (1, .int x1)] [] I J R := by
  refine k_ld hK 0 dX11_outsThatHangOn_0 rfl rfl rfl rfl ?_
  refine k_gR hK dX11_outsThatHangOn_1 lf_X11_43 rfl (sc_0 hs) (sf_0_8 hs) ?_
  refine k_gR hK dX11_outsThatHangOn_4 lf_X11_195 rfl (sc_17 hs) (sf_17_5 hs) ?_
  refine k_ld hK 1 dX11_outsThatHangOn_7 rfl rfl rfl rfl ?_
  refine k_cVc hK dX11_outsThatHangOn_8 (Or.inl lm_X11_245) (As := [.int x1]) (S := []) rfl (sc_30 hs) (Nat.le_of_ble_eq_true rfl) (fit_0 rfl rfl) rfl hF (fun u1 I2 hF => ?_)
  show K _ _ [] _ _ _
  refine k_ic hK dX11_outsThatHangOn_11 ci_0 ?_
  refine k_st hK dX11_outsThatHangOn_12 rfl rfl rfl (Nat.le_of_ble_eq_true rfl) rfl ?_
  refine k_ic hK dX11_outsThatHangOn_13 ci_0 ?_
  refine k_st hK dX11_outsThatHangOn_14 rfl rfl rfl (Nat.le_of_ble_eq_true rfl) rfl ?_
  exact k_sub hK [2, 1, 0] rfl hF
set_option maxHeartbeats 4000000 in
theorem g_X11_outsThatHangOn_15 {d : Nat} {K : KT} {Q : Int32 → HI → Prop} {I : HI} {J : HJ} {R : HR} {x2 : Int32} {x3 : Int32} (hK : am_R M_X11_outsThatHangOn (am_W d) none R (qC fi J R Q) K) (hs : Stat R)  (hF : (((I 27 2) ≤ x3 → Q x2 I) ∧ (¬ (I 27 2) ≤ x3 → Wp fi d M_X8_sourceAt [.ref 27, .int x3] I J R (fun r2 => Wp fb d M_X9_isMarked [.ref 30, .int r2] I J R (fun b3 => ((b3 = false → K 15 [(0, .ref 0), (2, .int x2), (3, .int (x3 + 1))] [] I J R) ∧ (b3 = true → K 15 [(0, .ref 0), (2, .int (x2 + 1)), (3, .int (x3 + 1))] [] I J R))))))) : K 15 [(0, .ref 0), (2, .int x2), (3, .int x3)] [] I J R := by
  refine k_ld hK 2 dX11_outsThatHangOn_15 rfl rfl rfl rfl ?_
  refine k_ld hK 0 dX11_outsThatHangOn_16 rfl rfl rfl rfl ?_
  refine k_gR hK dX11_outsThatHangOn_17 lf_X11_43 rfl (sc_0 hs) (sf_0_8 hs) ?_
  refine k_gR hK dX11_outsThatHangOn_20 lf_X11_172 rfl (sc_17 hs) (sf_17_4 hs) ?_
  refine k_gI hK dX11_outsThatHangOn_23 lf_X11_175 rfl (sc_27 hs) rfl ?_
  refine k_cge hK dX11_outsThatHangOn_26 (tgt := 62) rfl (fun h1 => ?_) (fun h1 => ?_)
  · have hF := hF.1 h1
    refine k_ld hK 1 dX11_outsThatHangOn_62 rfl rfl rfl rfl ?_
    exact k_iret hK dX11_outsThatHangOn_63 rfl rfl (done_0 rfl rfl) (qC_i hF)
  · have hF := hF.2 h1
    refine k_ld hK 0 dX11_outsThatHangOn_29 rfl rfl rfl rfl ?_
    refine k_gR hK dX11_outsThatHangOn_30 lf_X11_43 rfl (sc_0 hs) (sf_0_8 hs) ?_
    refine k_gR hK dX11_outsThatHangOn_33 lf_X11_195 rfl (sc_17 hs) (sf_17_5 hs) ?_
    refine k_ld hK 0 dX11_outsThatHangOn_36 rfl rfl rfl rfl ?_
    refine k_gR hK dX11_outsThatHangOn_37 lf_X11_43 rfl (sc_0 hs) (sf_0_8 hs) ?_
    refine k_gR hK dX11_outsThatHangOn_40 lf_X11_172 rfl (sc_17 hs) (sf_17_4 hs) ?_
    refine k_ld hK 2 dX11_outsThatHangOn_43 rfl rfl rfl rfl ?_
    refine k_cVp hK dX11_outsThatHangOn_44 (Or.inl lm_X11_183) (As := [.int x3]) (S := [.ref 30]) rfl (sc_27 hs) (Nat.le_of_ble_eq_true rfl) (fit_0 rfl rfl) rfl hF (fun r2 hF => ?_)
    show K _ _ [.int r2, .ref 30] _ _ _
    refine k_cVp hK dX11_outsThatHangOn_47 (Or.inl lm_X11_248) (As := [.int r2]) (S := []) rfl (sc_30 hs) (Nat.le_of_ble_eq_true rfl) (fit_0 rfl rfl) rfl hF (fun b3 hF => ?_)
    show K _ _ [.int (b2i b3)] _ _ _
    refine k_beq hK dX11_outsThatHangOn_50 (tgt := 56) rfl (fun h4 => ?_) (fun h4 => ?_)
    · have hF := hF.1 h4
      refine k_iinc hK 2 dX11_outsThatHangOn_56 (v := (x3 + 1)) rfl (Nat.le_of_ble_eq_true rfl) (congrArg (fun q => x3 + q) ci_1) rfl ?_
      refine k_goto hK dX11_outsThatHangOn_59 (tgt := 15) rfl ?_
      exact k_sub hK [1, 2, 0] rfl hF
    · have hF := hF.2 h4
      refine k_iinc hK 1 dX11_outsThatHangOn_53 (v := (x2 + 1)) rfl (Nat.le_of_ble_eq_true rfl) (congrArg (fun q => x2 + q) ci_1) rfl ?_
      refine k_iinc hK 2 dX11_outsThatHangOn_56 (v := (x3 + 1)) rfl (Nat.le_of_ble_eq_true rfl) (congrArg (fun q => x3 + q) ci_1) rfl ?_
      refine k_goto hK dX11_outsThatHangOn_59 (tgt := 15) rfl ?_
      exact k_sub hK [2, 1, 0] rfl hF
set_option maxHeartbeats 4000000 in
theorem g_X11_slope_0 {d : Nat} {K : KT} {Q : Int32 → HI → Prop} {I : HI} {J : HJ} {R : HR} {x1 : Int32} {x2 : Int32} (hK : am_R M_X11_slope (am_W d) none R (qC fi J R Q) K) (hs : Stat R)  (hF : Wp fb d M_X11_hasOut [.ref 0, .int x1] I J R (fun b1 => ((b1 = false → Q (-1) I) ∧ (b1 = true → Wp fb d M_X11_hasInput [.ref 0, .int x2] I J R (fun b3 => ((b3 = true → Wp fi d M_X8_sourceAt [.ref 27, .int x1] I J R (fun r5 => Wc fi d M_X7_once [.ref 72, .ref 30, .int r5, .int (1000 + x2)] I J R (fun r6 I7 => Q r6 I7))) ∧ (b3 = false → Q (-1) I))))))) : K 0 [(0, .ref 0), (1, .int x1), (2, .int x2)] [] I J R := by
  refine k_ld hK 0 dX11_slope_0 rfl rfl rfl rfl ?_
  refine k_ld hK 1 dX11_slope_1 rfl rfl rfl rfl ?_
  refine k_cVp hK dX11_slope_2 (Or.inl lm_X11_251) (As := [.int x1]) (S := []) rfl (sc_0 hs) (Nat.le_of_ble_eq_true rfl) (fit_0 rfl rfl) rfl hF (fun b1 hF => ?_)
  show K _ _ [.int (b2i b1)] _ _ _
  refine k_beq hK dX11_slope_5 (tgt := 16) rfl (fun h2 => ?_) (fun h2 => ?_)
  · have hF := hF.1 h2
    refine k_ic hK dX11_slope_16 ci_m1 ?_
    exact k_iret hK dX11_slope_17 rfl rfl (done_0 rfl rfl) (qC_i hF)
  · have hF := hF.2 h2
    refine k_ld hK 0 dX11_slope_8 rfl rfl rfl rfl ?_
    refine k_ld hK 2 dX11_slope_9 rfl rfl rfl rfl ?_
    refine k_cVp hK dX11_slope_10 (Or.inl lm_X11_106) (As := [.int x2]) (S := []) rfl (sc_0 hs) (Nat.le_of_ble_eq_true rfl) (fit_0 rfl rfl) rfl hF (fun b3 hF => ?_)
    show K _ _ [.int (b2i b3)] _ _ _
    refine k_bne hK dX11_slope_13 (tgt := 18) rfl (fun h4 => ?_) (fun h4 => ?_)
    · have hF := hF.1 h4
      refine k_ld hK 0 dX11_slope_18 rfl rfl rfl rfl ?_
      refine k_gR hK dX11_slope_19 lf_X11_56 rfl (sc_0 hs) (sf_0_11 hs) ?_
      refine k_ld hK 0 dX11_slope_22 rfl rfl rfl rfl ?_
      refine k_gR hK dX11_slope_23 lf_X11_43 rfl (sc_0 hs) (sf_0_8 hs) ?_
      refine k_gR hK dX11_slope_26 lf_X11_195 rfl (sc_17 hs) (sf_17_5 hs) ?_
      refine k_ld hK 0 dX11_slope_29 rfl rfl rfl rfl ?_
      refine k_gR hK dX11_slope_30 lf_X11_43 rfl (sc_0 hs) (sf_0_8 hs) ?_
      refine k_gR hK dX11_slope_33 lf_X11_172 rfl (sc_17 hs) (sf_17_4 hs) ?_
      refine k_ld hK 1 dX11_slope_36 rfl rfl rfl rfl ?_
      refine k_cVp hK dX11_slope_37 (Or.inl lm_X11_183) (As := [.int x1]) (S := [.ref 30, .ref 72]) rfl (sc_27 hs) (Nat.le_of_ble_eq_true rfl) (fit_0 rfl rfl) rfl hF (fun r5 hF => ?_)
      show K _ _ [.int r5, .ref 30, .ref 72] _ _ _
      refine k_si hK dX11_slope_40 cs_1000 ?_
      refine k_ld hK 2 dX11_slope_43 rfl rfl rfl rfl ?_
      refine k_op hK dX11_slope_44 rfl rfl ?_
      refine k_cVc hK dX11_slope_45 (Or.inl lm_X11_254) (As := [.ref 30, .int r5, .int (1000 + x2)]) (S := []) rfl (sc_72 hs) (Nat.le_of_ble_eq_true rfl) (fit_0 rfl rfl) rfl hF (fun r6 I7 hF => ?_)
      show K _ _ [.int r6] _ _ _
      exact k_iret hK dX11_slope_48 rfl rfl (done_0 rfl rfl) (qC_i hF)
    · have hF := hF.2 h4
      refine k_ic hK dX11_slope_16 ci_m1 ?_
      exact k_iret hK dX11_slope_17 rfl rfl (done_0 rfl rfl) (qC_i hF)
theorem e_X11_slope {d : Nat} {Q : Int32 → HI → Prop} {I : HI} {J : HJ} {R : HR} {x1 : Int32} {x2 : Int32} (hs : Stat R)  (hF : Wp fb d M_X11_hasOut [.ref 0, .int x1] I J R (fun b1 => ((b1 = false → Q (-1) I) ∧ (b1 = true → Wp fb d M_X11_hasInput [.ref 0, .int x2] I J R (fun b3 => ((b3 = true → Wp fi d M_X8_sourceAt [.ref 27, .int x1] I J R (fun r5 => Wc fi d M_X7_once [.ref 72, .ref 30, .int r5, .int (1000 + x2)] I J R (fun r6 I7 => Q r6 I7))) ∧ (b3 = false → Q (-1) I))))))) : Wc fi (d + 1) M_X11_slope [.ref 0, .int x1, .int x2] I J R Q := ⟨Nat.le_of_ble_eq_true rfl, fun K hK => g_X11_slope_0 hK hs hF⟩
set_option maxHeartbeats 4000000 in
theorem g_X11_bar_0 {d : Nat} {K : KT} {Q : Int32 → HI → Prop} {I : HI} {J : HJ} {R : HR} {x1 : Int32} {x2 : Int32} (hK : am_R M_X11_bar (am_W d) none R (qC fi J R Q) K) (hs : Stat R)  (hF : Wp fb d M_X11_hasOut [.ref 0, .int x1] I J R (fun b1 => ((b1 = false → Q (-1) I) ∧ (b1 = true → Wp fb d M_X11_hasEntry [.ref 0, .int x2] I J R (fun b3 => ((b3 = true → Wp fi d M_X8_sourceAt [.ref 27, .int x1] I J R (fun r5 => Wc fi d M_X7_once [.ref 72, .ref 30, .int r5, .int x2] I J R (fun r6 I7 => Q r6 I7))) ∧ (b3 = false → Q (-1) I))))))) : K 0 [(0, .ref 0), (1, .int x1), (2, .int x2)] [] I J R := by
  refine k_ld hK 0 dX11_bar_0 rfl rfl rfl rfl ?_
  refine k_ld hK 1 dX11_bar_1 rfl rfl rfl rfl ?_
  refine k_cVp hK dX11_bar_2 (Or.inl lm_X11_251) (As := [.int x1]) (S := []) rfl (sc_0 hs) (Nat.le_of_ble_eq_true rfl) (fit_0 rfl rfl) rfl hF (fun b1 hF => ?_)
  show K _ _ [.int (b2i b1)] _ _ _
  refine k_beq hK dX11_bar_5 (tgt := 16) rfl (fun h2 => ?_) (fun h2 => ?_)
  · have hF := hF.1 h2
    refine k_ic hK dX11_bar_16 ci_m1 ?_
    exact k_iret hK dX11_bar_17 rfl rfl (done_0 rfl rfl) (qC_i hF)
  · have hF := hF.2 h2
    refine k_ld hK 0 dX11_bar_8 rfl rfl rfl rfl ?_
    refine k_ld hK 2 dX11_bar_9 rfl rfl rfl rfl ?_
    refine k_cVp hK dX11_bar_10 (Or.inl lm_X11_215) (As := [.int x2]) (S := []) rfl (sc_0 hs) (Nat.le_of_ble_eq_true rfl) (fit_0 rfl rfl) rfl hF (fun b3 hF => ?_)
    show K _ _ [.int (b2i b3)] _ _ _
    refine k_bne hK dX11_bar_13 (tgt := 18) rfl (fun h4 => ?_) (fun h4 => ?_)
    · have hF := hF.1 h4
      refine k_ld hK 0 dX11_bar_18 rfl rfl rfl rfl ?_
      refine k_gR hK dX11_bar_19 lf_X11_56 rfl (sc_0 hs) (sf_0_11 hs) ?_
      refine k_ld hK 0 dX11_bar_22 rfl rfl rfl rfl ?_
      refine k_gR hK dX11_bar_23 lf_X11_43 rfl (sc_0 hs) (sf_0_8 hs) ?_
      refine k_gR hK dX11_bar_26 lf_X11_195 rfl (sc_17 hs) (sf_17_5 hs) ?_
      refine k_ld hK 0 dX11_bar_29 rfl rfl rfl rfl ?_
      refine k_gR hK dX11_bar_30 lf_X11_43 rfl (sc_0 hs) (sf_0_8 hs) ?_
      refine k_gR hK dX11_bar_33 lf_X11_172 rfl (sc_17 hs) (sf_17_4 hs) ?_
      refine k_ld hK 1 dX11_bar_36 rfl rfl rfl rfl ?_
      refine k_cVp hK dX11_bar_37 (Or.inl lm_X11_183) (As := [.int x1]) (S := [.ref 30, .ref 72]) rfl (sc_27 hs) (Nat.le_of_ble_eq_true rfl) (fit_0 rfl rfl) rfl hF (fun r5 hF => ?_)
      show K _ _ [.int r5, .ref 30, .ref 72] _ _ _
      refine k_ld hK 2 dX11_bar_40 rfl rfl rfl rfl ?_
      refine k_cVc hK dX11_bar_41 (Or.inl lm_X11_254) (As := [.ref 30, .int r5, .int x2]) (S := []) rfl (sc_72 hs) (Nat.le_of_ble_eq_true rfl) (fit_0 rfl rfl) rfl hF (fun r6 I7 hF => ?_)
      show K _ _ [.int r6] _ _ _
      exact k_iret hK dX11_bar_44 rfl rfl (done_0 rfl rfl) (qC_i hF)
    · have hF := hF.2 h4
      refine k_ic hK dX11_bar_16 ci_m1 ?_
      exact k_iret hK dX11_bar_17 rfl rfl (done_0 rfl rfl) (qC_i hF)
theorem e_X11_bar {d : Nat} {Q : Int32 → HI → Prop} {I : HI} {J : HJ} {R : HR} {x1 : Int32} {x2 : Int32} (hs : Stat R)  (hF : Wp fb d M_X11_hasOut [.ref 0, .int x1] I J R (fun b1 => ((b1 = false → Q (-1) I) ∧ (b1 = true → Wp fb d M_X11_hasEntry [.ref 0, .int x2] I J R (fun b3 => ((b3 = true → Wp fi d M_X8_sourceAt [.ref 27, .int x1] I J R (fun r5 => Wc fi d M_X7_once [.ref 72, .ref 30, .int r5, .int x2] I J R (fun r6 I7 => Q r6 I7))) ∧ (b3 = false → Q (-1) I))))))) : Wc fi (d + 1) M_X11_bar [.ref 0, .int x1, .int x2] I J R Q := ⟨Nat.le_of_ble_eq_true rfl, fun K hK => g_X11_bar_0 hK hs hF⟩
set_option maxHeartbeats 4000000 in
theorem g_X11_second_0 {d : Nat} {K : KT} {Q : Int32 → HI → Prop} {I : HI} {J : HJ} {R : HR} {x1 : Int32} {x2 : Int32} {x3 : Int32} (hK : am_R M_X11_second (am_W d) none R (qC fi J R Q) K) (hs : Stat R)  (hF : Wp fb d M_X11_hasOut [.ref 0, .int x1] I J R (fun b1 => ((b1 = false → Q (-1) I) ∧ (b1 = true → Wp fb d M_X11_hasInput [.ref 0, .int x2] I J R (fun b3 => ((b3 = false → Q (-1) I) ∧ (b3 = true → Wp fb d M_X11_hasInput [.ref 0, .int x3] I J R (fun b5 => ((b5 = true → Wc fi d M_X11_secondSlope [.ref 0, .int x1, .int x2, .int x3] I J R (fun r7 I8 => Q r7 I8)) ∧ (b5 = false → Q (-1) I)))))))))) : K 0 [(0, .ref 0), (1, .int x1), (2, .int x2), (3, .int x3)] [] I J R := by
  refine k_ld hK 0 dX11_second_0 rfl rfl rfl rfl ?_
  refine k_ld hK 1 dX11_second_1 rfl rfl rfl rfl ?_
  refine k_cVp hK dX11_second_2 (Or.inl lm_X11_251) (As := [.int x1]) (S := []) rfl (sc_0 hs) (Nat.le_of_ble_eq_true rfl) (fit_0 rfl rfl) rfl hF (fun b1 hF => ?_)
  show K _ _ [.int (b2i b1)] _ _ _
  refine k_beq hK dX11_second_5 (tgt := 24) rfl (fun h2 => ?_) (fun h2 => ?_)
  · have hF := hF.1 h2
    refine k_ic hK dX11_second_24 ci_m1 ?_
    exact k_iret hK dX11_second_25 rfl rfl (done_0 rfl rfl) (qC_i hF)
  · have hF := hF.2 h2
    refine k_ld hK 0 dX11_second_8 rfl rfl rfl rfl ?_
    refine k_ld hK 2 dX11_second_9 rfl rfl rfl rfl ?_
    refine k_cVp hK dX11_second_10 (Or.inl lm_X11_106) (As := [.int x2]) (S := []) rfl (sc_0 hs) (Nat.le_of_ble_eq_true rfl) (fit_0 rfl rfl) rfl hF (fun b3 hF => ?_)
    show K _ _ [.int (b2i b3)] _ _ _
    refine k_beq hK dX11_second_13 (tgt := 24) rfl (fun h4 => ?_) (fun h4 => ?_)
    · have hF := hF.1 h4
      refine k_ic hK dX11_second_24 ci_m1 ?_
      exact k_iret hK dX11_second_25 rfl rfl (done_0 rfl rfl) (qC_i hF)
    · have hF := hF.2 h4
      refine k_ld hK 0 dX11_second_16 rfl rfl rfl rfl ?_
      refine k_ld hK 3 dX11_second_17 rfl rfl rfl rfl ?_
      refine k_cVp hK dX11_second_18 (Or.inl lm_X11_106) (As := [.int x3]) (S := []) rfl (sc_0 hs) (Nat.le_of_ble_eq_true rfl) (fit_0 rfl rfl) rfl hF (fun b5 hF => ?_)
      show K _ _ [.int (b2i b5)] _ _ _
      refine k_bne hK dX11_second_21 (tgt := 26) rfl (fun h6 => ?_) (fun h6 => ?_)
      · have hF := hF.1 h6
        refine k_ld hK 0 dX11_second_26 rfl rfl rfl rfl ?_
        refine k_ld hK 1 dX11_second_27 rfl rfl rfl rfl ?_
        refine k_ld hK 2 dX11_second_28 rfl rfl rfl rfl ?_
        refine k_ld hK 3 dX11_second_29 rfl rfl rfl rfl ?_
        refine k_cVc hK dX11_second_30 (Or.inl lm_X11_258) (As := [.int x1, .int x2, .int x3]) (S := []) rfl (sc_0 hs) (Nat.le_of_ble_eq_true rfl) (fit_0 rfl rfl) rfl hF (fun r7 I8 hF => ?_)
        show K _ _ [.int r7] _ _ _
        exact k_iret hK dX11_second_33 rfl rfl (done_0 rfl rfl) (qC_i hF)
      · have hF := hF.2 h6
        refine k_ic hK dX11_second_24 ci_m1 ?_
        exact k_iret hK dX11_second_25 rfl rfl (done_0 rfl rfl) (qC_i hF)
theorem e_X11_second {d : Nat} {Q : Int32 → HI → Prop} {I : HI} {J : HJ} {R : HR} {x1 : Int32} {x2 : Int32} {x3 : Int32} (hs : Stat R)  (hF : Wp fb d M_X11_hasOut [.ref 0, .int x1] I J R (fun b1 => ((b1 = false → Q (-1) I) ∧ (b1 = true → Wp fb d M_X11_hasInput [.ref 0, .int x2] I J R (fun b3 => ((b3 = false → Q (-1) I) ∧ (b3 = true → Wp fb d M_X11_hasInput [.ref 0, .int x3] I J R (fun b5 => ((b5 = true → Wc fi d M_X11_secondSlope [.ref 0, .int x1, .int x2, .int x3] I J R (fun r7 I8 => Q r7 I8)) ∧ (b5 = false → Q (-1) I)))))))))) : Wc fi (d + 1) M_X11_second [.ref 0, .int x1, .int x2, .int x3] I J R Q := ⟨Nat.le_of_ble_eq_true rfl, fun K hK => g_X11_second_0 hK hs hF⟩
set_option maxHeartbeats 4000000 in
theorem g_X11_secondSlope_0 {d : Nat} {K : KT} {Q : Int32 → HI → Prop} {I : HI} {J : HJ} {R : HR} {x1 : Int32} {x2 : Int32} {x3 : Int32} (hK : am_R M_X11_secondSlope (am_W d) none R (qC fi J R Q) K) (hs : Stat R)  (hF : Wp fi d M_X8_sourceAt [.ref 27, .int x1] I J R (fun r1 => Wc fi d M_X7_twice [.ref 72, .ref 30, .int r1, .int (1000 + x2), .int (1000 + x3)] I J R (fun r2 I3 => Q r2 I3))) : K 0 [(0, .ref 0), (1, .int x1), (2, .int x2), (3, .int x3)] [] I J R := by
  refine k_ld hK 0 dX11_secondSlope_0 rfl rfl rfl rfl ?_
  refine k_gR hK dX11_secondSlope_1 lf_X11_56 rfl (sc_0 hs) (sf_0_11 hs) ?_
  refine k_ld hK 0 dX11_secondSlope_4 rfl rfl rfl rfl ?_
  refine k_gR hK dX11_secondSlope_5 lf_X11_43 rfl (sc_0 hs) (sf_0_8 hs) ?_
  refine k_gR hK dX11_secondSlope_8 lf_X11_195 rfl (sc_17 hs) (sf_17_5 hs) ?_
  refine k_ld hK 0 dX11_secondSlope_11 rfl rfl rfl rfl ?_
  refine k_gR hK dX11_secondSlope_12 lf_X11_43 rfl (sc_0 hs) (sf_0_8 hs) ?_
  refine k_gR hK dX11_secondSlope_15 lf_X11_172 rfl (sc_17 hs) (sf_17_4 hs) ?_
  refine k_ld hK 1 dX11_secondSlope_18 rfl rfl rfl rfl ?_
  refine k_cVp hK dX11_secondSlope_19 (Or.inl lm_X11_183) (As := [.int x1]) (S := [.ref 30, .ref 72]) rfl (sc_27 hs) (Nat.le_of_ble_eq_true rfl) (fit_0 rfl rfl) rfl hF (fun r1 hF => ?_)
  show K _ _ [.int r1, .ref 30, .ref 72] _ _ _
  refine k_si hK dX11_secondSlope_22 cs_1000 ?_
  refine k_ld hK 2 dX11_secondSlope_25 rfl rfl rfl rfl ?_
  refine k_op hK dX11_secondSlope_26 rfl rfl ?_
  refine k_si hK dX11_secondSlope_27 cs_1000 ?_
  refine k_ld hK 3 dX11_secondSlope_30 rfl rfl rfl rfl ?_
  refine k_op hK dX11_secondSlope_31 rfl rfl ?_
  refine k_cVc hK dX11_secondSlope_32 (Or.inl lm_X11_262) (As := [.ref 30, .int r1, .int (1000 + x2), .int (1000 + x3)]) (S := []) rfl (sc_72 hs) (Nat.le_of_ble_eq_true rfl) (fit_0 rfl rfl) rfl hF (fun r2 I3 hF => ?_)
  show K _ _ [.int r2] _ _ _
  exact k_iret hK dX11_secondSlope_35 rfl rfl (done_0 rfl rfl) (qC_i hF)
theorem e_X11_secondSlope {d : Nat} {Q : Int32 → HI → Prop} {I : HI} {J : HJ} {R : HR} {x1 : Int32} {x2 : Int32} {x3 : Int32} (hs : Stat R)  (hF : Wp fi d M_X8_sourceAt [.ref 27, .int x1] I J R (fun r1 => Wc fi d M_X7_twice [.ref 72, .ref 30, .int r1, .int (1000 + x2), .int (1000 + x3)] I J R (fun r2 I3 => Q r2 I3))) : Wc fi (d + 1) M_X11_secondSlope [.ref 0, .int x1, .int x2, .int x3] I J R Q := ⟨Nat.le_of_ble_eq_true rfl, fun K hK => g_X11_secondSlope_0 hK hs hF⟩
set_option maxHeartbeats 4000000 in
theorem g_X11_turned_0 {d : Nat} {K : KT} {Q : Int32 → HI → Prop} {I : HI} {J : HJ} {R : HR} {x1 : Int32} {x2 : Int32} {x3 : Int32} {x4 : Int32} {x5 : Int32} {x6 : Int32} (hK : am_R M_X11_turned (am_W d) none R (qC fi J R Q) K) (hs : Stat R)  (hF : Wp fb d M_X11_hasOut [.ref 0, .int x1] I J R (fun b1 => ((b1 = false → Q (-1) I) ∧ (b1 = true → Wp fb d M_X11_hasInput [.ref 0, .int x2] I J R (fun b3 => ((b3 = true → K 24 [(0, .ref 0), (1, .int x1), (2, .int x2), (3, .int x3), (4, .int x4), (5, .int x5), (6, .int x6), (7, .int 0), (8, .int 0)] [] I J R) ∧ (b3 = false → Q (-1) I))))))) : K 0 [(0, .ref 0), (1, .int x1), (2, .int x2), (3, .int x3), (4, .int x4), (5, .int x5), (6, .int x6)] [] I J R := by
  refine k_ld hK 0 dX11_turned_0 rfl rfl rfl rfl ?_
  refine k_ld hK 1 dX11_turned_1 rfl rfl rfl rfl ?_
  refine k_cVp hK dX11_turned_2 (Or.inl lm_X11_251) (As := [.int x1]) (S := []) rfl (sc_0 hs) (Nat.le_of_ble_eq_true rfl) (fit_0 rfl rfl) rfl hF (fun b1 hF => ?_)
  show K _ _ [.int (b2i b1)] _ _ _
  refine k_beq hK dX11_turned_5 (tgt := 16) rfl (fun h2 => ?_) (fun h2 => ?_)
  · have hF := hF.1 h2
    refine k_ic hK dX11_turned_16 ci_m1 ?_
    exact k_iret hK dX11_turned_17 rfl rfl (done_0 rfl rfl) (qC_i hF)
  · have hF := hF.2 h2
    refine k_ld hK 0 dX11_turned_8 rfl rfl rfl rfl ?_
    refine k_ld hK 2 dX11_turned_9 rfl rfl rfl rfl ?_
    refine k_cVp hK dX11_turned_10 (Or.inl lm_X11_106) (As := [.int x2]) (S := []) rfl (sc_0 hs) (Nat.le_of_ble_eq_true rfl) (fit_0 rfl rfl) rfl hF (fun b3 hF => ?_)
    show K _ _ [.int (b2i b3)] _ _ _
    refine k_bne hK dX11_turned_13 (tgt := 18) rfl (fun h4 => ?_) (fun h4 => ?_)
    · have hF := hF.1 h4
      refine k_ic hK dX11_turned_18 ci_0 ?_
      refine k_st hK dX11_turned_19 rfl rfl rfl (Nat.le_of_ble_eq_true rfl) rfl ?_
      refine k_ic hK dX11_turned_21 ci_0 ?_
      refine k_st hK dX11_turned_22 rfl rfl rfl (Nat.le_of_ble_eq_true rfl) rfl ?_
      exact k_sub hK [2, 3, 4, 5, 6, 7, 8, 1, 0] rfl hF
    · have hF := hF.2 h4
      refine k_ic hK dX11_turned_16 ci_m1 ?_
      exact k_iret hK dX11_turned_17 rfl rfl (done_0 rfl rfl) (qC_i hF)
set_option maxHeartbeats 4000000 in
theorem g_X11_turned_24 {d : Nat} {K : KT} {Q : Int32 → HI → Prop} {I : HI} {J : HJ} {R : HR} {x1 : Int32} {x2 : Int32} {x3 : Int32} {x4 : Int32} {x5 : Int32} {x6 : Int32} {x7 : Int32} {x8 : Int32} (hK : am_R M_X11_turned (am_W d) none R (qC fi J R Q) K) (hs : Stat R)  (hF : (∃ p1 : Nat, (R 0 5) = some p1 ∧ isX5 p1 ∧ (((I p1 3) ≤ x8 → Q x7 I) ∧ (¬ (I p1 3) ≤ x8 → ((¬ x8 = 0 → ((¬ x8 = 1 → ((¬ x8 = 2 → K 69 [(0, .ref 0), (1, .int x1), (2, .int x2), (3, .int x3), (4, .int x4), (5, .int x5), (6, .int x6), (7, .int x7), (8, .int x8)] [.int x6] I J R) ∧ (x8 = 2 → K 69 [(0, .ref 0), (1, .int x1), (2, .int x2), (3, .int x3), (4, .int x4), (5, .int x5), (6, .int x6), (7, .int x7), (8, .int x8)] [.int x5] I J R))) ∧ (x8 = 1 → K 69 [(0, .ref 0), (1, .int x1), (2, .int x2), (3, .int x3), (4, .int x4), (5, .int x5), (6, .int x6), (7, .int x7), (8, .int x8)] [.int x4] I J R))) ∧ (x8 = 0 → K 69 [(0, .ref 0), (1, .int x1), (2, .int x2), (3, .int x3), (4, .int x4), (5, .int x5), (6, .int x6), (7, .int x7), (8, .int x8)] [.int x3] I J R)))))) : K 24 [(0, .ref 0), (1, .int x1), (2, .int x2), (3, .int x3), (4, .int x4), (5, .int x5), (6, .int x6), (7, .int x7), (8, .int x8)] [] I J R := by
  refine k_ld hK 8 dX11_turned_24 rfl rfl rfl rfl ?_
  refine k_ld hK 0 dX11_turned_26 rfl rfl rfl rfl ?_
  obtain ⟨p1, e2, h_p1, hF⟩ := hF
  refine k_gR hK dX11_turned_27 lf_X11_29 rfl (sc_0 hs) e2 ?_
  refine k_gI hK dX11_turned_30 lf_X11_266 rfl (sk_X5_0 hs h_p1) rfl ?_
  refine k_cge hK dX11_turned_33 (tgt := 100) rfl (fun h3 => ?_) (fun h3 => ?_)
  · have hF := hF.1 h3
    refine k_ld hK 7 dX11_turned_100 rfl rfl rfl rfl ?_
    exact k_iret hK dX11_turned_102 rfl rfl (done_0 rfl rfl) (qC_i hF)
  · have hF := hF.2 h3
    refine k_ld hK 8 dX11_turned_36 rfl rfl rfl rfl ?_
    refine k_ne hK dX11_turned_38 (tgt := 45) rfl (fun h4 => ?_) (fun h4 => ?_)
    · have hF := hF.1 h4
      refine k_ld hK 8 dX11_turned_45 rfl rfl rfl rfl ?_
      refine k_ic hK dX11_turned_47 ci_1 ?_
      refine k_cne hK dX11_turned_48 (tgt := 56) rfl (fun h5 => ?_) (fun h5 => ?_)
      · have hF := hF.1 h5
        refine k_ld hK 8 dX11_turned_56 rfl rfl rfl rfl ?_
        refine k_ic hK dX11_turned_58 ci_2 ?_
        refine k_cne hK dX11_turned_59 (tgt := 67) rfl (fun h6 => ?_) (fun h6 => ?_)
        · have hF := hF.1 h6
          refine k_ld hK 6 dX11_turned_67 rfl rfl rfl rfl ?_
          exact k_sub hK [0, 1, 2, 3, 4, 5, 6, 7, 8] rfl hF
        · have hF := hF.2 h6
          refine k_ld hK 5 dX11_turned_62 rfl rfl rfl rfl ?_
          refine k_goto hK dX11_turned_64 (tgt := 69) rfl ?_
          exact k_sub hK [0, 1, 2, 3, 4, 5, 6, 7, 8] rfl hF
      · have hF := hF.2 h5
        refine k_ld hK 4 dX11_turned_51 rfl rfl rfl rfl ?_
        refine k_goto hK dX11_turned_53 (tgt := 69) rfl ?_
        exact k_sub hK [0, 1, 2, 3, 4, 5, 6, 7, 8] rfl hF
    · have hF := hF.2 h4
      refine k_ld hK 3 dX11_turned_41 rfl rfl rfl rfl ?_
      refine k_goto hK dX11_turned_42 (tgt := 69) rfl ?_
      exact k_sub hK [0, 1, 2, 3, 4, 5, 6, 7, 8] rfl hF
set_option maxHeartbeats 4000000 in
theorem g_X11_turned_69 {d : Nat} {K : KT} {Q : Int32 → HI → Prop} {I : HI} {J : HJ} {R : HR} {x1 : Int32} {x2 : Int32} {x3 : Int32} {x4 : Int32} {x5 : Int32} {x6 : Int32} {x7 : Int32} {x8 : Int32} {u0 : Int32} (hK : am_R M_X11_turned (am_W d) none R (qC fi J R Q) K) (hs : Stat R)  (hF : Wc fi d M_X11_secondSlope [.ref 0, .int x1, .int x2, .int x8] I J R (fun r1 I2 => Wp fi d M_X3_of [.int u0] I2 J R (fun r3 => Wp fi d M_X3_times [.int r1, .int r3] I2 J R (fun r4 => Wp fi d M_X3_plus [.int x7, .int r4] I2 J R (fun r5 => K 24 [(0, .ref 0), (1, .int x1), (2, .int x2), (3, .int x3), (4, .int x4), (5, .int x5), (6, .int x6), (7, .int r5), (8, .int (x8 + 1))] [] I2 J R))))) : K 69 [(0, .ref 0), (1, .int x1), (2, .int x2), (3, .int x3), (4, .int x4), (5, .int x5), (6, .int x6), (7, .int x7), (8, .int x8)] [.int u0] I J R := by
  refine k_st hK dX11_turned_69 rfl rfl rfl (Nat.le_of_ble_eq_true rfl) rfl ?_
  refine k_ld hK 8 dX11_turned_71 rfl rfl rfl rfl ?_
  refine k_ld hK 1 dX11_turned_73 rfl rfl rfl rfl ?_
  refine k_ld hK 2 dX11_turned_74 rfl rfl rfl rfl ?_
  refine k_ld hK 3 dX11_turned_75 rfl rfl rfl rfl ?_
  refine k_ld hK 9 dX11_turned_76 rfl rfl rfl rfl ?_
  refine k_cVc hK dX11_turned_78 (Or.inl lm_X11_258) (As := [.int x1, .int x2, .int x8]) (S := [.int x7]) rfl (sc_0 hs) (Nat.le_of_ble_eq_true rfl) (fit_0 rfl rfl) rfl hF (fun r1 I2 hF => ?_)
  show K _ _ [.int r1, .int x7] _ _ _
  refine k_ld hK 0 dX11_turned_81 rfl rfl rfl rfl ?_
  refine k_cSp hK dX11_turned_83 lm_X11_112 (As := [.int u0]) (S := [.int r1, .int x7]) rfl (Nat.le_of_ble_eq_true rfl) (fit_0 rfl rfl) rfl hF (fun r3 hF => ?_)
  show K _ _ [.int r3, .int r1, .int x7] _ _ _
  refine k_cSp hK dX11_turned_86 lm_X11_121 (As := [.int r1, .int r3]) (S := [.int x7]) rfl (Nat.le_of_ble_eq_true rfl) (fit_0 rfl rfl) rfl hF (fun r4 hF => ?_)
  show K _ _ [.int r4, .int x7] _ _ _
  refine k_cSp hK dX11_turned_89 lm_X11_268 (As := [.int x7, .int r4]) (S := []) rfl (Nat.le_of_ble_eq_true rfl) (fit_0 rfl rfl) rfl hF (fun r5 hF => ?_)
  show K _ _ [.int r5] _ _ _
  refine k_st hK dX11_turned_92 rfl rfl rfl (Nat.le_of_ble_eq_true rfl) rfl ?_
  refine k_iinc hK 9 dX11_turned_94 (v := (x8 + 1)) rfl (Nat.le_of_ble_eq_true rfl) (congrArg (fun q => x8 + q) ci_1) rfl ?_
  refine k_goto hK dX11_turned_97 (tgt := 24) rfl ?_
  exact k_sub hK [3, 4, 5, 6, 7, 8, 9, 1, 0] rfl hF
set_option maxHeartbeats 4000000 in
theorem g_X11_determinant_0 {d : Nat} {K : KT} {Q : Int32 → HI → Prop} {I : HI} {J : HJ} {R : HR} {x1 : Int32} (hK : am_R M_X11_determinant (am_W d) none R (qC fi J R Q) K) (hs : Stat R)  (hF : ((x1 < 1 → Q (-1) I) ∧ (¬ x1 < 1 → ((4 < x1 → Q (-1) I) ∧ (¬ 4 < x1 → (((I 27 2) < x1 → Q (-1) I) ∧ (¬ (I 27 2) < x1 → (∃ p4 : Nat, (R 0 5) = some p4 ∧ isX5 p4 ∧ ((x1 ≤ (I p4 3) → Wc fv d M_X11_fillMatrix [.ref 0, .int x1, .int x1] I J R (fun u7 I8 => Wc fv d M_X2_eliminate [.ref 76, .int x1, .int x1] I8 J R (fun u9 I10 => ((¬ (I10 76 1) = x1 → Q 0 I10) ∧ ((I10 76 1) = x1 → Q (I10 76 2) I10))))) ∧ (¬ x1 ≤ (I p4 3) → Q (-1) I)))))))))) : K 0 [(0, .ref 0), (1, .int x1)] [] I J R := by
  refine k_ld hK 1 dX11_determinant_0 rfl rfl rfl rfl ?_
  refine k_ic hK dX11_determinant_1 ci_1 ?_
  refine k_clt hK dX11_determinant_2 (tgt := 35) rfl (fun h1 => ?_) (fun h1 => ?_)
  · have hF := hF.1 h1
    refine k_ic hK dX11_determinant_35 ci_m1 ?_
    exact k_iret hK dX11_determinant_36 rfl rfl (done_0 rfl rfl) (qC_i hF)
  · have hF := hF.2 h1
    refine k_ld hK 1 dX11_determinant_5 rfl rfl rfl rfl ?_
    refine k_ic hK dX11_determinant_6 ci_4 ?_
    refine k_cgt hK dX11_determinant_7 (tgt := 35) rfl (fun h2 => ?_) (fun h2 => ?_)
    · have hF := hF.1 h2
      refine k_ic hK dX11_determinant_35 ci_m1 ?_
      exact k_iret hK dX11_determinant_36 rfl rfl (done_0 rfl rfl) (qC_i hF)
    · have hF := hF.2 h2
      refine k_ld hK 1 dX11_determinant_10 rfl rfl rfl rfl ?_
      refine k_ld hK 0 dX11_determinant_11 rfl rfl rfl rfl ?_
      refine k_gR hK dX11_determinant_12 lf_X11_43 rfl (sc_0 hs) (sf_0_8 hs) ?_
      refine k_gR hK dX11_determinant_15 lf_X11_172 rfl (sc_17 hs) (sf_17_4 hs) ?_
      refine k_gI hK dX11_determinant_18 lf_X11_175 rfl (sc_27 hs) rfl ?_
      refine k_cgt hK dX11_determinant_21 (tgt := 35) rfl (fun h3 => ?_) (fun h3 => ?_)
      · have hF := hF.1 h3
        refine k_ic hK dX11_determinant_35 ci_m1 ?_
        exact k_iret hK dX11_determinant_36 rfl rfl (done_0 rfl rfl) (qC_i hF)
      · have hF := hF.2 h3
        refine k_ld hK 1 dX11_determinant_24 rfl rfl rfl rfl ?_
        refine k_ld hK 0 dX11_determinant_25 rfl rfl rfl rfl ?_
        obtain ⟨p4, e5, h_p4, hF⟩ := hF
        refine k_gR hK dX11_determinant_26 lf_X11_29 rfl (sc_0 hs) e5 ?_
        refine k_gI hK dX11_determinant_29 lf_X11_266 rfl (sk_X5_0 hs h_p4) rfl ?_
        refine k_cle hK dX11_determinant_32 (tgt := 37) rfl (fun h6 => ?_) (fun h6 => ?_)
        · have hF := hF.1 h6
          refine k_ld hK 0 dX11_determinant_37 rfl rfl rfl rfl ?_
          refine k_ld hK 1 dX11_determinant_38 rfl rfl rfl rfl ?_
          refine k_ld hK 1 dX11_determinant_39 rfl rfl rfl rfl ?_
          refine k_cVc hK dX11_determinant_40 (Or.inl lm_X11_271) (As := [.int x1, .int x1]) (S := []) rfl (sc_0 hs) (Nat.le_of_ble_eq_true rfl) (fit_0 rfl rfl) rfl hF (fun u7 I8 hF => ?_)
          show K _ _ [] _ _ _
          refine k_ld hK 0 dX11_determinant_43 rfl rfl rfl rfl ?_
          refine k_gR hK dX11_determinant_44 lf_X11_63 rfl (sc_0 hs) (sf_0_12 hs) ?_
          refine k_ld hK 1 dX11_determinant_47 rfl rfl rfl rfl ?_
          refine k_ld hK 1 dX11_determinant_48 rfl rfl rfl rfl ?_
          refine k_cVc hK dX11_determinant_49 (Or.inl lm_X11_275) (As := [.int x1, .int x1]) (S := []) rfl (sc_76 hs) (Nat.le_of_ble_eq_true rfl) (fit_0 rfl rfl) rfl hF (fun u9 I10 hF => ?_)
          show K _ _ [] _ _ _
          refine k_ld hK 0 dX11_determinant_52 rfl rfl rfl rfl ?_
          refine k_gR hK dX11_determinant_53 lf_X11_63 rfl (sc_0 hs) (sf_0_12 hs) ?_
          refine k_gI hK dX11_determinant_56 lf_X11_278 rfl (sc_76 hs) rfl ?_
          refine k_ld hK 1 dX11_determinant_59 rfl rfl rfl rfl ?_
          refine k_cne hK dX11_determinant_60 (tgt := 73) rfl (fun h11 => ?_) (fun h11 => ?_)
          · have hF := hF.1 h11
            refine k_ic hK dX11_determinant_73 ci_0 ?_
            exact k_iret hK dX11_determinant_74 rfl rfl (done_0 rfl rfl) (qC_i hF)
          · have hF := hF.2 h11
            refine k_ld hK 0 dX11_determinant_63 rfl rfl rfl rfl ?_
            refine k_gR hK dX11_determinant_64 lf_X11_63 rfl (sc_0 hs) (sf_0_12 hs) ?_
            refine k_gI hK dX11_determinant_67 lf_X11_281 rfl (sc_76 hs) rfl ?_
            refine k_goto hK dX11_determinant_70 (tgt := 74) rfl ?_
            exact k_iret hK dX11_determinant_74 rfl rfl (done_0 rfl rfl) (qC_i hF)
        · have hF := hF.2 h6
          refine k_ic hK dX11_determinant_35 ci_m1 ?_
          exact k_iret hK dX11_determinant_36 rfl rfl (done_0 rfl rfl) (qC_i hF)
theorem e_X11_determinant {d : Nat} {Q : Int32 → HI → Prop} {I : HI} {J : HJ} {R : HR} {x1 : Int32} (hs : Stat R)  (hF : ((x1 < 1 → Q (-1) I) ∧ (¬ x1 < 1 → ((4 < x1 → Q (-1) I) ∧ (¬ 4 < x1 → (((I 27 2) < x1 → Q (-1) I) ∧ (¬ (I 27 2) < x1 → (∃ p4 : Nat, (R 0 5) = some p4 ∧ isX5 p4 ∧ ((x1 ≤ (I p4 3) → Wc fv d M_X11_fillMatrix [.ref 0, .int x1, .int x1] I J R (fun u7 I8 => Wc fv d M_X2_eliminate [.ref 76, .int x1, .int x1] I8 J R (fun u9 I10 => ((¬ (I10 76 1) = x1 → Q 0 I10) ∧ ((I10 76 1) = x1 → Q (I10 76 2) I10))))) ∧ (¬ x1 ≤ (I p4 3) → Q (-1) I)))))))))) : Wc fi (d + 1) M_X11_determinant [.ref 0, .int x1] I J R Q := ⟨Nat.le_of_ble_eq_true rfl, fun K hK => g_X11_determinant_0 hK hs hF⟩
set_option maxHeartbeats 4000000 in
theorem g_X11_rank_0 {d : Nat} {K : KT} {Q : Int32 → HI → Prop} {I : HI} {J : HJ} {R : HR}  (hK : am_R M_X11_rank (am_W d) none R (qC fi J R Q) K) (hs : Stat R)  (hF : (∃ p1 : Nat, (R 0 5) = some p1 ∧ isX5 p1 ∧ Wc fv d M_X11_fillMatrix [.ref 0, .int (I 27 2), .int (I p1 3)] I J R (fun u3 I4 => Wc fv d M_X2_eliminate [.ref 76, .int (I4 27 2), .int (I4 p1 3)] I4 J R (fun u5 I6 => Q (I6 76 1) I6)))) : K 0 [(0, .ref 0)] [] I J R := by
  refine k_ld hK 0 dX11_rank_0 rfl rfl rfl rfl ?_
  refine k_ld hK 0 dX11_rank_1 rfl rfl rfl rfl ?_
  refine k_gR hK dX11_rank_2 lf_X11_43 rfl (sc_0 hs) (sf_0_8 hs) ?_
  refine k_gR hK dX11_rank_5 lf_X11_172 rfl (sc_17 hs) (sf_17_4 hs) ?_
  refine k_gI hK dX11_rank_8 lf_X11_175 rfl (sc_27 hs) rfl ?_
  refine k_ld hK 0 dX11_rank_11 rfl rfl rfl rfl ?_
  obtain ⟨p1, e2, h_p1, hF⟩ := hF
  refine k_gR hK dX11_rank_12 lf_X11_29 rfl (sc_0 hs) e2 ?_
  refine k_gI hK dX11_rank_15 lf_X11_266 rfl (sk_X5_0 hs h_p1) rfl ?_
  refine k_cVc hK dX11_rank_18 (Or.inl lm_X11_271) (As := [.int (I 27 2), .int (I p1 3)]) (S := []) rfl (sc_0 hs) (Nat.le_of_ble_eq_true rfl) (fit_0 rfl rfl) rfl hF (fun u3 I4 hF => ?_)
  show K _ _ [] _ _ _
  refine k_ld hK 0 dX11_rank_21 rfl rfl rfl rfl ?_
  refine k_gR hK dX11_rank_22 lf_X11_63 rfl (sc_0 hs) (sf_0_12 hs) ?_
  refine k_ld hK 0 dX11_rank_25 rfl rfl rfl rfl ?_
  refine k_gR hK dX11_rank_26 lf_X11_43 rfl (sc_0 hs) (sf_0_8 hs) ?_
  refine k_gR hK dX11_rank_29 lf_X11_172 rfl (sc_17 hs) (sf_17_4 hs) ?_
  refine k_gI hK dX11_rank_32 lf_X11_175 rfl (sc_27 hs) rfl ?_
  refine k_ld hK 0 dX11_rank_35 rfl rfl rfl rfl ?_
  refine k_gR hK dX11_rank_36 lf_X11_29 rfl (sc_0 hs) e2 ?_
  refine k_gI hK dX11_rank_39 lf_X11_266 rfl (sk_X5_0 hs h_p1) rfl ?_
  refine k_cVc hK dX11_rank_42 (Or.inl lm_X11_275) (As := [.int (I4 27 2), .int (I4 p1 3)]) (S := []) rfl (sc_76 hs) (Nat.le_of_ble_eq_true rfl) (fit_0 rfl rfl) rfl hF (fun u5 I6 hF => ?_)
  show K _ _ [] _ _ _
  refine k_ld hK 0 dX11_rank_45 rfl rfl rfl rfl ?_
  refine k_gR hK dX11_rank_46 lf_X11_63 rfl (sc_0 hs) (sf_0_12 hs) ?_
  refine k_gI hK dX11_rank_49 lf_X11_278 rfl (sc_76 hs) rfl ?_
  exact k_iret hK dX11_rank_52 rfl rfl (done_0 rfl rfl) (qC_i hF)
theorem e_X11_rank {d : Nat} {Q : Int32 → HI → Prop} {I : HI} {J : HJ} {R : HR}  (hs : Stat R)  (hF : (∃ p1 : Nat, (R 0 5) = some p1 ∧ isX5 p1 ∧ Wc fv d M_X11_fillMatrix [.ref 0, .int (I 27 2), .int (I p1 3)] I J R (fun u3 I4 => Wc fv d M_X2_eliminate [.ref 76, .int (I4 27 2), .int (I4 p1 3)] I4 J R (fun u5 I6 => Q (I6 76 1) I6)))) : Wc fi (d + 1) M_X11_rank [.ref 0] I J R Q := ⟨Nat.le_of_ble_eq_true rfl, fun K hK => g_X11_rank_0 hK hs hF⟩
set_option maxHeartbeats 4000000 in
theorem g_X11_fillMatrix_0 {d : Nat} {K : KT} {Q : Unit → HI → Prop} {I : HI} {J : HJ} {R : HR} {x1 : Int32} {x2 : Int32} (hK : am_R M_X11_fillMatrix (am_W d) none R (qC fv J R Q) K) (hs : Stat R)  (hF : K 2 [(0, .ref 0), (1, .int x1), (2, .int x2), (3, .int 0)] [] I J R) : K 0 [(0, .ref 0), (1, .int x1), (2, .int x2)] [] I J R := by
  refine k_ic hK dX11_fillMatrix_0 ci_0 ?_
  refine k_st hK dX11_fillMatrix_1 rfl rfl rfl (Nat.le_of_ble_eq_true rfl) rfl ?_
  exact k_sub hK [1, 2, 3, 0] rfl hF
set_option maxHeartbeats 4000000 in
theorem g_X11_fillMatrix_2 {d : Nat} {K : KT} {Q : Unit → HI → Prop} {I : HI} {J : HJ} {R : HR} {x1 : Int32} {x2 : Int32} {x3 : Int32} (hK : am_R M_X11_fillMatrix (am_W d) none R (qC fv J R Q) K) (hs : Stat R)  (hF : ((x2 ≤ x3 → Q () I) ∧ (¬ x2 ≤ x3 → Wc fv d M_X7_fillFirst [.ref 72, .ref 30, .int (1000 + x3)] I J R (fun u2 I3 => K 29 [(0, .ref 0), (1, .int x1), (2, .int x2), (3, .int x3), (4, .int 0)] [] I3 J R)))) : K 2 [(0, .ref 0), (1, .int x1), (2, .int x2), (3, .int x3)] [] I J R := by
  refine k_ld hK 3 dX11_fillMatrix_2 rfl rfl rfl rfl ?_
  refine k_ld hK 2 dX11_fillMatrix_3 rfl rfl rfl rfl ?_
  refine k_cge hK dX11_fillMatrix_4 (tgt := 81) rfl (fun h1 => ?_) (fun h1 => ?_)
  · have hF := hF.1 h1
    exact k_vret hK dX11_fillMatrix_81 rfl (done_0 rfl rfl) (qC_i hF)
  · have hF := hF.2 h1
    refine k_ld hK 0 dX11_fillMatrix_7 rfl rfl rfl rfl ?_
    refine k_gR hK dX11_fillMatrix_8 lf_X11_56 rfl (sc_0 hs) (sf_0_11 hs) ?_
    refine k_ld hK 0 dX11_fillMatrix_11 rfl rfl rfl rfl ?_
    refine k_gR hK dX11_fillMatrix_12 lf_X11_43 rfl (sc_0 hs) (sf_0_8 hs) ?_
    refine k_gR hK dX11_fillMatrix_15 lf_X11_195 rfl (sc_17 hs) (sf_17_5 hs) ?_
    refine k_si hK dX11_fillMatrix_18 cs_1000 ?_
    refine k_ld hK 3 dX11_fillMatrix_21 rfl rfl rfl rfl ?_
    refine k_op hK dX11_fillMatrix_22 rfl rfl ?_
    refine k_cVc hK dX11_fillMatrix_23 (Or.inl lm_X11_284) (As := [.ref 30, .int (1000 + x3)]) (S := []) rfl (sc_72 hs) (Nat.le_of_ble_eq_true rfl) (fit_0 rfl rfl) rfl hF (fun u2 I3 hF => ?_)
    show K _ _ [] _ _ _
    refine k_ic hK dX11_fillMatrix_26 ci_0 ?_
    refine k_st hK dX11_fillMatrix_27 rfl rfl rfl (Nat.le_of_ble_eq_true rfl) rfl ?_
    exact k_sub hK [1, 2, 3, 4, 0] rfl hF
set_option maxHeartbeats 4000000 in
theorem g_X11_fillMatrix_29 {d : Nat} {K : KT} {Q : Unit → HI → Prop} {I : HI} {J : HJ} {R : HR} {x1 : Int32} {x2 : Int32} {x3 : Int32} {x4 : Int32} (hK : am_R M_X11_fillMatrix (am_W d) none R (qC fv J R Q) K) (hs : Stat R)  (hF : ((x1 ≤ x4 → K 2 [(0, .ref 0), (1, .int x1), (2, .int x2), (3, .int (x3 + 1))] [] I J R) ∧ (¬ x1 ≤ x4 → Wp fi d M_X8_sourceAt [.ref 27, .int x4] I J R (fun r2 => Wp fi d M_X7_firstOf [.ref 72, .int r2, .int (1000 + x3)] I J R (fun r3 => Wc fv d M_X2_put [.ref 76, .int x4, .int x3, .int r3] I J R (fun u4 I5 => K 29 [(0, .ref 0), (1, .int x1), (2, .int x2), (3, .int x3), (4, .int (x4 + 1))] [] I5 J R)))))) : K 29 [(0, .ref 0), (1, .int x1), (2, .int x2), (3, .int x3), (4, .int x4)] [] I J R := by
  refine k_ld hK 4 dX11_fillMatrix_29 rfl rfl rfl rfl ?_
  refine k_ld hK 1 dX11_fillMatrix_31 rfl rfl rfl rfl ?_
  refine k_cge hK dX11_fillMatrix_32 (tgt := 75) rfl (fun h1 => ?_) (fun h1 => ?_)
  · have hF := hF.1 h1
    refine k_iinc hK 3 dX11_fillMatrix_75 (v := (x3 + 1)) rfl (Nat.le_of_ble_eq_true rfl) (congrArg (fun q => x3 + q) ci_1) rfl ?_
    refine k_goto hK dX11_fillMatrix_78 (tgt := 2) rfl ?_
    exact k_sub hK [1, 2, 3, 0] rfl hF
  · have hF := hF.2 h1
    refine k_ld hK 0 dX11_fillMatrix_35 rfl rfl rfl rfl ?_
    refine k_gR hK dX11_fillMatrix_36 lf_X11_63 rfl (sc_0 hs) (sf_0_12 hs) ?_
    refine k_ld hK 4 dX11_fillMatrix_39 rfl rfl rfl rfl ?_
    refine k_ld hK 3 dX11_fillMatrix_41 rfl rfl rfl rfl ?_
    refine k_ld hK 0 dX11_fillMatrix_42 rfl rfl rfl rfl ?_
    refine k_gR hK dX11_fillMatrix_43 lf_X11_56 rfl (sc_0 hs) (sf_0_11 hs) ?_
    refine k_ld hK 0 dX11_fillMatrix_46 rfl rfl rfl rfl ?_
    refine k_gR hK dX11_fillMatrix_47 lf_X11_43 rfl (sc_0 hs) (sf_0_8 hs) ?_
    refine k_gR hK dX11_fillMatrix_50 lf_X11_172 rfl (sc_17 hs) (sf_17_4 hs) ?_
    refine k_ld hK 4 dX11_fillMatrix_53 rfl rfl rfl rfl ?_
    refine k_cVp hK dX11_fillMatrix_55 (Or.inl lm_X11_183) (As := [.int x4]) (S := [.ref 72, .int x3, .int x4, .ref 76]) rfl (sc_27 hs) (Nat.le_of_ble_eq_true rfl) (fit_0 rfl rfl) rfl hF (fun r2 hF => ?_)
    show K _ _ [.int r2, .ref 72, .int x3, .int x4, .ref 76] _ _ _
    refine k_si hK dX11_fillMatrix_58 cs_1000 ?_
    refine k_ld hK 3 dX11_fillMatrix_61 rfl rfl rfl rfl ?_
    refine k_op hK dX11_fillMatrix_62 rfl rfl ?_
    refine k_cVp hK dX11_fillMatrix_63 (Or.inl lm_X11_288) (As := [.int r2, .int (1000 + x3)]) (S := [.int x3, .int x4, .ref 76]) rfl (sc_72 hs) (Nat.le_of_ble_eq_true rfl) (fit_0 rfl rfl) rfl hF (fun r3 hF => ?_)
    show K _ _ [.int r3, .int x3, .int x4, .ref 76] _ _ _
    refine k_cVc hK dX11_fillMatrix_66 (Or.inl lm_X11_291) (As := [.int x4, .int x3, .int r3]) (S := []) rfl (sc_76 hs) (Nat.le_of_ble_eq_true rfl) (fit_0 rfl rfl) rfl hF (fun u4 I5 hF => ?_)
    show K _ _ [] _ _ _
    refine k_iinc hK 4 dX11_fillMatrix_69 (v := (x4 + 1)) rfl (Nat.le_of_ble_eq_true rfl) (congrArg (fun q => x4 + q) ci_1) rfl ?_
    refine k_goto hK dX11_fillMatrix_72 (tgt := 29) rfl ?_
    exact k_sub hK [1, 2, 3, 4, 0] rfl hF
set_option maxHeartbeats 4000000 in
theorem g_X11_newton_0 {d : Nat} {K : KT} {Q : Int32 → HI → HR → Prop} {I : HI} {J : HJ} {R : HR} {R0 : HR} {x1 : Int32} {x2 : Int32} {x3 : Int32} (hK : am_R M_X11_newton (am_W d) none R0 (qR fi J R0 Q) K) (hs0 : Stat R0) (hs : Stat R) (hg : am_g R = am_g R0)  (hF : Wp fb d M_X11_hasOut [.ref 0, .int x1] I J R (fun b1 => ((b1 = false → Q (-1) I R) ∧ (b1 = true → Wp fb d M_X11_hasInput [.ref 0, .int x2] I J R (fun b3 => ((b3 = false → Q (-1) I R) ∧ (b3 = true → ((x3 < 1 → Q (-1) I R) ∧ (¬ x3 < 1 → ((x3 ≤ 20 → (∃ n7 : Nat, x2 = nI n7 ∧ n7 < 4 ∧ K 40 [(0, .ref 0), (1, .int x1), (2, .int x2), (3, .int x3), (4, .int (I 16 n7)), (5, .int 0)] [] I J R)) ∧ (¬ x3 ≤ 20 → Q (-1) I R))))))))))) : K 0 [(0, .ref 0), (1, .int x1), (2, .int x2), (3, .int x3)] [] I J R := by
  refine k_ld hK 0 dX11_newton_0 rfl rfl rfl rfl ?_
  refine k_ld hK 1 dX11_newton_1 rfl rfl rfl rfl ?_
  refine k_cVp hK dX11_newton_2 (Or.inl lm_X11_251) (As := [.int x1]) (S := []) rfl (sc_0 hs) (Nat.le_of_ble_eq_true rfl) (fit_of hs0 hs hg rfl rfl) rfl hF (fun b1 hF => ?_)
  show K _ _ [.int (b2i b1)] _ _ _
  refine k_beq hK dX11_newton_5 (tgt := 27) rfl (fun h2 => ?_) (fun h2 => ?_)
  · have hF := hF.1 h2
    refine k_ic hK dX11_newton_27 ci_m1 ?_
    exact k_iret hK dX11_newton_28 rfl rfl (done_of hs0 hs hg rfl rfl) (qR_i hs hg hF)
  · have hF := hF.2 h2
    refine k_ld hK 0 dX11_newton_8 rfl rfl rfl rfl ?_
    refine k_ld hK 2 dX11_newton_9 rfl rfl rfl rfl ?_
    refine k_cVp hK dX11_newton_10 (Or.inl lm_X11_106) (As := [.int x2]) (S := []) rfl (sc_0 hs) (Nat.le_of_ble_eq_true rfl) (fit_of hs0 hs hg rfl rfl) rfl hF (fun b3 hF => ?_)
    show K _ _ [.int (b2i b3)] _ _ _
    refine k_beq hK dX11_newton_13 (tgt := 27) rfl (fun h4 => ?_) (fun h4 => ?_)
    · have hF := hF.1 h4
      refine k_ic hK dX11_newton_27 ci_m1 ?_
      exact k_iret hK dX11_newton_28 rfl rfl (done_of hs0 hs hg rfl rfl) (qR_i hs hg hF)
    · have hF := hF.2 h4
      refine k_ld hK 3 dX11_newton_16 rfl rfl rfl rfl ?_
      refine k_ic hK dX11_newton_17 ci_1 ?_
      refine k_clt hK dX11_newton_18 (tgt := 27) rfl (fun h5 => ?_) (fun h5 => ?_)
      · have hF := hF.1 h5
        refine k_ic hK dX11_newton_27 ci_m1 ?_
        exact k_iret hK dX11_newton_28 rfl rfl (done_of hs0 hs hg rfl rfl) (qR_i hs hg hF)
      · have hF := hF.2 h5
        refine k_ld hK 3 dX11_newton_21 rfl rfl rfl rfl ?_
        refine k_bi hK dX11_newton_22 cb_20 ?_
        refine k_cle hK dX11_newton_24 (tgt := 29) rfl (fun h6 => ?_) (fun h6 => ?_)
        · have hF := hF.1 h6
          refine k_ld hK 0 dX11_newton_29 rfl rfl rfl rfl ?_
          refine k_gR hK dX11_newton_30 lf_X11_36 rfl (sc_0 hs) (sf_0_7 hs) ?_
          refine k_ld hK 2 dX11_newton_33 rfl rfl rfl rfl ?_
          obtain ⟨n7, i8, j9, hF⟩ := hF
          refine k_iald hK dX11_newton_34 (sc_16 hs) sn_16 (by decide) i8 j9 rfl ?_
          refine k_st hK dX11_newton_35 rfl rfl rfl (Nat.le_of_ble_eq_true rfl) rfl ?_
          refine k_ic hK dX11_newton_37 ci_0 ?_
          refine k_st hK dX11_newton_38 rfl rfl rfl (Nat.le_of_ble_eq_true rfl) rfl ?_
          exact k_sub hK [2, 3, 4, 5, 1, 0] rfl hF
        · have hF := hF.2 h6
          refine k_ic hK dX11_newton_27 ci_m1 ?_
          exact k_iret hK dX11_newton_28 rfl rfl (done_of hs0 hs hg rfl rfl) (qR_i hs hg hF)
set_option maxHeartbeats 4000000 in
theorem g_X11_newton_40 {d : Nat} {K : KT} {Q : Int32 → HI → HR → Prop} {I : HI} {J : HJ} {R : HR} {R0 : HR} {x1 : Int32} {x2 : Int32} {x3 : Int32} {x4 : Int32} {x5 : Int32} (hK : am_R M_X11_newton (am_W d) none R0 (qR fi J R0 Q) K) (hs0 : Stat R0) (hs : Stat R) (hg : am_g R = am_g R0)  (hF : ((x3 ≤ x5 → Q x4 I R) ∧ (¬ x3 ≤ x5 → Wr fv d M_X11_tryInput [.ref 0, .int x2, .int x4] I J R (fun u2 I3 R4 => ((x1 < (I3 55 2) → Wp fi d M_X8_sourceAt [.ref 55, .int x1] I3 J R4 (fun r6 => Wc fi d M_X7_once [.ref 72, .ref 58, .int r6, .int (1000 + x2)] I3 J R4 (fun r7 I8 => ((¬ r7 = 0 → Wp fi d M_X8_valueAt [.ref 55, .int x1] I8 J R4 (fun r10 => Wp fi d M_X3_inverse [.int r7] I8 J R4 (fun r11 => Wp fi d M_X3_times [.int r10, .int r11] I8 J R4 (fun r12 => Wp fi d M_X3_minus [.int x4, .int r12] I8 J R4 (fun r13 => K 40 [(0, .ref 0), (1, .int x1), (2, .int x2), (3, .int x3), (4, .int r13), (5, .int (x5 + 1))] [] I8 J R4))))) ∧ (r7 = 0 → Q (-2) I8 R4))))) ∧ (¬ x1 < (I3 55 2) → Q (-2) I3 R4)))))) : K 40 [(0, .ref 0), (1, .int x1), (2, .int x2), (3, .int x3), (4, .int x4), (5, .int x5)] [] I J R := by
  refine k_ld hK 5 dX11_newton_40 rfl rfl rfl rfl ?_
  refine k_ld hK 3 dX11_newton_42 rfl rfl rfl rfl ?_
  refine k_cge hK dX11_newton_43 (tgt := 142) rfl (fun h1 => ?_) (fun h1 => ?_)
  · have hF := hF.1 h1
    refine k_ld hK 4 dX11_newton_142 rfl rfl rfl rfl ?_
    exact k_iret hK dX11_newton_144 rfl rfl (done_of hs0 hs hg rfl rfl) (qR_i hs hg hF)
  · have hF := hF.2 h1
    refine k_ld hK 0 dX11_newton_46 rfl rfl rfl rfl ?_
    refine k_ld hK 2 dX11_newton_47 rfl rfl rfl rfl ?_
    refine k_ld hK 4 dX11_newton_48 rfl rfl rfl rfl ?_
    refine k_cVr hK dX11_newton_50 (Or.inl lm_X11_295) (As := [.int x2, .int x4]) (S := []) rfl (sc_0 hs) (Nat.le_of_ble_eq_true rfl) (fit_of hs0 hs hg rfl rfl) rfl hF (fun u2 I3 R4 hs hg1 hF => ?_)
    have hg := hg1.trans hg
    show K _ _ [] _ _ _
    refine k_ld hK 1 dX11_newton_53 rfl rfl rfl rfl ?_
    refine k_ld hK 0 dX11_newton_54 rfl rfl rfl rfl ?_
    refine k_gR hK dX11_newton_55 lf_X11_50 rfl (sc_0 hs) (sf_0_10 hs) ?_
    refine k_gR hK dX11_newton_58 lf_X11_172 rfl (sc_45 hs) (sf_45_4 hs) ?_
    refine k_gI hK dX11_newton_61 lf_X11_175 rfl (sc_55 hs) rfl ?_
    refine k_clt hK dX11_newton_64 (tgt := 70) rfl (fun h5 => ?_) (fun h5 => ?_)
    · have hF := hF.1 h5
      refine k_ld hK 0 dX11_newton_70 rfl rfl rfl rfl ?_
      refine k_gR hK dX11_newton_71 lf_X11_56 rfl (sc_0 hs) (sf_0_11 hs) ?_
      refine k_ld hK 0 dX11_newton_74 rfl rfl rfl rfl ?_
      refine k_gR hK dX11_newton_75 lf_X11_50 rfl (sc_0 hs) (sf_0_10 hs) ?_
      refine k_gR hK dX11_newton_78 lf_X11_195 rfl (sc_45 hs) (sf_45_5 hs) ?_
      refine k_ld hK 0 dX11_newton_81 rfl rfl rfl rfl ?_
      refine k_gR hK dX11_newton_82 lf_X11_50 rfl (sc_0 hs) (sf_0_10 hs) ?_
      refine k_gR hK dX11_newton_85 lf_X11_172 rfl (sc_45 hs) (sf_45_4 hs) ?_
      refine k_ld hK 1 dX11_newton_88 rfl rfl rfl rfl ?_
      refine k_cVp hK dX11_newton_89 (Or.inl lm_X11_183) (As := [.int x1]) (S := [.ref 58, .ref 72]) rfl (sc_55 hs) (Nat.le_of_ble_eq_true rfl) (fit_of hs0 hs hg rfl rfl) rfl hF (fun r6 hF => ?_)
      show K _ _ [.int r6, .ref 58, .ref 72] _ _ _
      refine k_si hK dX11_newton_92 cs_1000 ?_
      refine k_ld hK 2 dX11_newton_95 rfl rfl rfl rfl ?_
      refine k_op hK dX11_newton_96 rfl rfl ?_
      refine k_cVc hK dX11_newton_97 (Or.inl lm_X11_254) (As := [.ref 58, .int r6, .int (1000 + x2)]) (S := []) rfl (sc_72 hs) (Nat.le_of_ble_eq_true rfl) (fit_of hs0 hs hg rfl rfl) rfl hF (fun r7 I8 hF => ?_)
      show K _ _ [.int r7] _ _ _
      refine k_st hK dX11_newton_100 rfl rfl rfl (Nat.le_of_ble_eq_true rfl) rfl ?_
      refine k_ld hK 0 dX11_newton_102 rfl rfl rfl rfl ?_
      refine k_ne hK dX11_newton_104 (tgt := 110) rfl (fun h9 => ?_) (fun h9 => ?_)
      · have hF := hF.1 h9
        refine k_ld hK 5 dX11_newton_110 rfl rfl rfl rfl ?_
        refine k_ld hK 1 dX11_newton_112 rfl rfl rfl rfl ?_
        refine k_gR hK dX11_newton_113 lf_X11_50 rfl (sc_0 hs) (sf_0_10 hs) ?_
        refine k_gR hK dX11_newton_116 lf_X11_172 rfl (sc_45 hs) (sf_45_4 hs) ?_
        refine k_ld hK 2 dX11_newton_119 rfl rfl rfl rfl ?_
        refine k_cVp hK dX11_newton_120 (Or.inl lm_X11_180) (As := [.int x1]) (S := [.int x4]) rfl (sc_55 hs) (Nat.le_of_ble_eq_true rfl) (fit_of hs0 hs hg rfl rfl) rfl hF (fun r10 hF => ?_)
        show K _ _ [.int r10, .int x4] _ _ _
        refine k_ld hK 0 dX11_newton_123 rfl rfl rfl rfl ?_
        refine k_cSp hK dX11_newton_125 lm_X11_118 (As := [.int r7]) (S := [.int r10, .int x4]) rfl (Nat.le_of_ble_eq_true rfl) (fit_of hs0 hs hg rfl rfl) rfl hF (fun r11 hF => ?_)
        show K _ _ [.int r11, .int r10, .int x4] _ _ _
        refine k_cSp hK dX11_newton_128 lm_X11_121 (As := [.int r10, .int r11]) (S := [.int x4]) rfl (Nat.le_of_ble_eq_true rfl) (fit_of hs0 hs hg rfl rfl) rfl hF (fun r12 hF => ?_)
        show K _ _ [.int r12, .int x4] _ _ _
        refine k_cSp hK dX11_newton_131 lm_X11_298 (As := [.int x4, .int r12]) (S := []) rfl (Nat.le_of_ble_eq_true rfl) (fit_of hs0 hs hg rfl rfl) rfl hF (fun r13 hF => ?_)
        show K _ _ [.int r13] _ _ _
        refine k_st hK dX11_newton_134 rfl rfl rfl (Nat.le_of_ble_eq_true rfl) rfl ?_
        refine k_iinc hK 6 dX11_newton_136 (v := (x5 + 1)) rfl (Nat.le_of_ble_eq_true rfl) (congrArg (fun q => x5 + q) ci_1) rfl ?_
        refine k_goto hK dX11_newton_139 (tgt := 40) rfl ?_
        exact k_sub hK [3, 4, 5, 6, 1, 0] rfl hF
      · have hF := hF.2 h9
        refine k_bi hK dX11_newton_107 cb_m2 ?_
        exact k_iret hK dX11_newton_109 rfl rfl (done_of hs0 hs hg rfl rfl) (qR_i hs hg hF)
    · have hF := hF.2 h5
      refine k_bi hK dX11_newton_67 cb_m2 ?_
      exact k_iret hK dX11_newton_69 rfl rfl (done_of hs0 hs hg rfl rfl) (qR_i hs hg hF)
set_option maxHeartbeats 4000000 in
theorem g_X11_tryInput_0 {d : Nat} {K : KT} {Q : Unit → HI → HR → Prop} {I : HI} {J : HJ} {R : HR} {R0 : HR} {x1 : Int32} {x2 : Int32} (hK : am_R M_X11_tryInput (am_W d) none R0 (qR fv J R0 Q) K) (hs0 : Stat R0) (hs : Stat R) (hg : am_g R = am_g R0)  (hF : ((x1 < 0 → (∃ p2 : Nat, (R 0 5) = some p2 ∧ isX5 p2 ∧ Wr fv d M_X1_execute [.ref 45, .ref p2, .ref 44] (am_cp I 16 44 0 0 4) J R (fun u4 I5 R6 => Q () I5 R6))) ∧ (¬ x1 < 0 → ((4 ≤ x1 → (∃ p8 : Nat, (R 0 5) = some p8 ∧ isX5 p8 ∧ Wr fv d M_X1_execute [.ref 45, .ref p8, .ref 44] (am_cp I 16 44 0 0 4) J R (fun u10 I11 R12 => Q () I11 R12))) ∧ (¬ 4 ≤ x1 → (∃ n13 : Nat, x1 = nI n13 ∧ n13 < 4 ∧ (∃ p16 : Nat, (R 0 5) = some p16 ∧ isX5 p16 ∧ Wr fv d M_X1_execute [.ref 45, .ref p16, .ref 44] (up (am_cp I 16 44 0 0 4) 44 n13 x2) J R (fun u18 I19 R20 => Q () I19 R20)))))))) : K 0 [(0, .ref 0), (1, .int x1), (2, .int x2)] [] I J R := by
  refine k_ld hK 0 dX11_tryInput_0 rfl rfl rfl rfl ?_
  refine k_gR hK dX11_tryInput_1 lf_X11_36 rfl (sc_0 hs) (sf_0_7 hs) ?_
  refine k_ic hK dX11_tryInput_4 ci_0 ?_
  refine k_ld hK 0 dX11_tryInput_5 rfl rfl rfl rfl ?_
  refine k_gR hK dX11_tryInput_6 lf_X11_47 rfl (sc_0 hs) (sf_0_9 hs) ?_
  refine k_ic hK dX11_tryInput_9 ci_0 ?_
  refine k_ic hK dX11_tryInput_10 ci_4 ?_
  refine k_copy hK dX11_tryInput_11 lcopy_1 lcopy_2 lcopy_3 lcopy_4 (sc_16 hs) (sc_44 hs) (Nat.le_of_ble_eq_true rfl) (s0 := 0) (d0 := 0) (n0 := 4) rfl rfl rfl (by decide) (by decide) (by decide) sn_16 sn_44 (by decide) (by decide) ?_
  refine k_ld hK 1 dX11_tryInput_14 rfl rfl rfl rfl ?_
  refine k_lt hK dX11_tryInput_15 (tgt := 30) rfl (fun h1 => ?_) (fun h1 => ?_)
  · have hF := hF.1 h1
    refine k_ld hK 0 dX11_tryInput_30 rfl rfl rfl rfl ?_
    refine k_gR hK dX11_tryInput_31 lf_X11_50 rfl (sc_0 hs) (sf_0_10 hs) ?_
    refine k_ld hK 0 dX11_tryInput_34 rfl rfl rfl rfl ?_
    obtain ⟨p2, e3, h_p2, hF⟩ := hF
    refine k_gR hK dX11_tryInput_35 lf_X11_29 rfl (sc_0 hs) e3 ?_
    refine k_ld hK 0 dX11_tryInput_38 rfl rfl rfl rfl ?_
    refine k_gR hK dX11_tryInput_39 lf_X11_47 rfl (sc_0 hs) (sf_0_9 hs) ?_
    refine k_cVr hK dX11_tryInput_42 (Or.inl lm_X11_99) (As := [.ref p2, .ref 44]) (S := []) rfl (sc_45 hs) (Nat.le_of_ble_eq_true rfl) (fit_of hs0 hs hg rfl rfl) rfl hF (fun u4 I5 R6 hs hg1 hF => ?_)
    have hg := hg1.trans hg
    show K _ _ [] _ _ _
    exact k_vret hK dX11_tryInput_45 rfl (done_of hs0 hs hg rfl rfl) (qR_i hs hg hF)
  · have hF := hF.2 h1
    refine k_ld hK 1 dX11_tryInput_18 rfl rfl rfl rfl ?_
    refine k_ic hK dX11_tryInput_19 ci_4 ?_
    refine k_cge hK dX11_tryInput_20 (tgt := 30) rfl (fun h7 => ?_) (fun h7 => ?_)
    · have hF := hF.1 h7
      refine k_ld hK 0 dX11_tryInput_30 rfl rfl rfl rfl ?_
      refine k_gR hK dX11_tryInput_31 lf_X11_50 rfl (sc_0 hs) (sf_0_10 hs) ?_
      refine k_ld hK 0 dX11_tryInput_34 rfl rfl rfl rfl ?_
      obtain ⟨p8, e9, h_p8, hF⟩ := hF
      refine k_gR hK dX11_tryInput_35 lf_X11_29 rfl (sc_0 hs) e9 ?_
      refine k_ld hK 0 dX11_tryInput_38 rfl rfl rfl rfl ?_
      refine k_gR hK dX11_tryInput_39 lf_X11_47 rfl (sc_0 hs) (sf_0_9 hs) ?_
      refine k_cVr hK dX11_tryInput_42 (Or.inl lm_X11_99) (As := [.ref p8, .ref 44]) (S := []) rfl (sc_45 hs) (Nat.le_of_ble_eq_true rfl) (fit_of hs0 hs hg rfl rfl) rfl hF (fun u10 I11 R12 hs hg1 hF => ?_)
      have hg := hg1.trans hg
      show K _ _ [] _ _ _
      exact k_vret hK dX11_tryInput_45 rfl (done_of hs0 hs hg rfl rfl) (qR_i hs hg hF)
    · have hF := hF.2 h7
      refine k_ld hK 0 dX11_tryInput_23 rfl rfl rfl rfl ?_
      refine k_gR hK dX11_tryInput_24 lf_X11_47 rfl (sc_0 hs) (sf_0_9 hs) ?_
      refine k_ld hK 1 dX11_tryInput_27 rfl rfl rfl rfl ?_
      refine k_ld hK 2 dX11_tryInput_28 rfl rfl rfl rfl ?_
      obtain ⟨n13, i14, j15, hF⟩ := hF
      refine k_iast hK dX11_tryInput_29 (sc_44 hs) sn_44 (by decide) i14 j15 ?_
      refine k_ld hK 0 dX11_tryInput_30 rfl rfl rfl rfl ?_
      refine k_gR hK dX11_tryInput_31 lf_X11_50 rfl (sc_0 hs) (sf_0_10 hs) ?_
      refine k_ld hK 0 dX11_tryInput_34 rfl rfl rfl rfl ?_
      obtain ⟨p16, e17, h_p16, hF⟩ := hF
      refine k_gR hK dX11_tryInput_35 lf_X11_29 rfl (sc_0 hs) e17 ?_
      refine k_ld hK 0 dX11_tryInput_38 rfl rfl rfl rfl ?_
      refine k_gR hK dX11_tryInput_39 lf_X11_47 rfl (sc_0 hs) (sf_0_9 hs) ?_
      refine k_cVr hK dX11_tryInput_42 (Or.inl lm_X11_99) (As := [.ref p16, .ref 44]) (S := []) rfl (sc_45 hs) (Nat.le_of_ble_eq_true rfl) (fit_of hs0 hs hg rfl rfl) rfl hF (fun u18 I19 R20 hs hg1 hF => ?_)
      have hg := hg1.trans hg
      show K _ _ [] _ _ _
      exact k_vret hK dX11_tryInput_45 rfl (done_of hs0 hs hg rfl rfl) (qR_i hs hg hF)
theorem e_X11_tryInput {d : Nat} {Q : Unit → HI → HR → Prop} {I : HI} {J : HJ} {R : HR} {x1 : Int32} {x2 : Int32} (hs : Stat R)  (hF : ((x1 < 0 → (∃ p2 : Nat, (R 0 5) = some p2 ∧ isX5 p2 ∧ Wr fv d M_X1_execute [.ref 45, .ref p2, .ref 44] (am_cp I 16 44 0 0 4) J R (fun u4 I5 R6 => Q () I5 R6))) ∧ (¬ x1 < 0 → ((4 ≤ x1 → (∃ p8 : Nat, (R 0 5) = some p8 ∧ isX5 p8 ∧ Wr fv d M_X1_execute [.ref 45, .ref p8, .ref 44] (am_cp I 16 44 0 0 4) J R (fun u10 I11 R12 => Q () I11 R12))) ∧ (¬ 4 ≤ x1 → (∃ n13 : Nat, x1 = nI n13 ∧ n13 < 4 ∧ (∃ p16 : Nat, (R 0 5) = some p16 ∧ isX5 p16 ∧ Wr fv d M_X1_execute [.ref 45, .ref p16, .ref 44] (up (am_cp I 16 44 0 0 4) 44 n13 x2) J R (fun u18 I19 R20 => Q () I19 R20)))))))) : Wr fv (d + 1) M_X11_tryInput [.ref 0, .int x1, .int x2] I J R Q := ⟨Nat.le_of_ble_eq_true rfl, fun K hK => g_X11_tryInput_0 hK hs hs rfl hF⟩
set_option maxHeartbeats 4000000 in
theorem g_X11_change_0 {d : Nat} {K : KT} {Q : Int32 → HI → HR → Prop} {I : HI} {J : HJ} {R : HR} {R0 : HR} {x1 : Int32} {x2 : Int32} {x3 : Int32} (hK : am_R M_X11_change (am_W d) none R0 (qR fi J R0 Q) K) (hs0 : Stat R0) (hs : Stat R) (hg : am_g R = am_g R0)  (hF : Wp fb d M_X11_hasOut [.ref 0, .int x1] I J R (fun b1 => ((b1 = false → Q (-1) I R) ∧ (b1 = true → Wp fb d M_X11_hasInput [.ref 0, .int x2] I J R (fun b3 => ((b3 = false → Q (-1) I R) ∧ (b3 = true → ((x3 < (-1000000000) → Q (-1) I R) ∧ (¬ x3 < (-1000000000) → ((x3 ≤ 1000000000 → (∃ n7 : Nat, x2 = nI n7 ∧ n7 < 4 ∧ Wp fi d M_X3_of [.int x3] I J R (fun r10 => Wp fi d M_X3_plus [.int (I 16 n7), .int r10] I J R (fun r11 => Wr fv d M_X11_tryInput [.ref 0, .int x2, .int r11] I J R (fun u12 I13 R14 => ((x1 < (I13 55 2) → Wp fi d M_X8_valueAt [.ref 55, .int x1] I13 J R14 (fun r16 => Wp fi d M_X8_valueAt [.ref 27, .int x1] I13 J R14 (fun r17 => Wp fi d M_X3_minus [.int r16, .int r17] I13 J R14 (fun r18 => Q r18 I13 R14)))) ∧ (¬ x1 < (I13 55 2) → Q (-2) I13 R14))))))) ∧ (¬ x3 ≤ 1000000000 → Q (-1) I R))))))))))) : K 0 [(0, .ref 0), (1, .int x1), (2, .int x2), (3, .int x3)] [] I J R := by
  refine k_ld hK 0 dX11_change_0 rfl rfl rfl rfl ?_
  refine k_ld hK 1 dX11_change_1 rfl rfl rfl rfl ?_
  refine k_cVp hK dX11_change_2 (Or.inl lm_X11_251) (As := [.int x1]) (S := []) rfl (sc_0 hs) (Nat.le_of_ble_eq_true rfl) (fit_of hs0 hs hg rfl rfl) rfl hF (fun b1 hF => ?_)
  show K _ _ [.int (b2i b1)] _ _ _
  refine k_beq hK dX11_change_5 (tgt := 28) rfl (fun h2 => ?_) (fun h2 => ?_)
  · have hF := hF.1 h2
    refine k_ic hK dX11_change_28 ci_m1 ?_
    exact k_iret hK dX11_change_29 rfl rfl (done_of hs0 hs hg rfl rfl) (qR_i hs hg hF)
  · have hF := hF.2 h2
    refine k_ld hK 0 dX11_change_8 rfl rfl rfl rfl ?_
    refine k_ld hK 2 dX11_change_9 rfl rfl rfl rfl ?_
    refine k_cVp hK dX11_change_10 (Or.inl lm_X11_106) (As := [.int x2]) (S := []) rfl (sc_0 hs) (Nat.le_of_ble_eq_true rfl) (fit_of hs0 hs hg rfl rfl) rfl hF (fun b3 hF => ?_)
    show K _ _ [.int (b2i b3)] _ _ _
    refine k_beq hK dX11_change_13 (tgt := 28) rfl (fun h4 => ?_) (fun h4 => ?_)
    · have hF := hF.1 h4
      refine k_ic hK dX11_change_28 ci_m1 ?_
      exact k_iret hK dX11_change_29 rfl rfl (done_of hs0 hs hg rfl rfl) (qR_i hs hg hF)
    · have hF := hF.2 h4
      refine k_ld hK 3 dX11_change_16 rfl rfl rfl rfl ?_
      refine k_ldc hK dX11_change_17 lc_X11_110 ?_
      refine k_clt hK dX11_change_19 (tgt := 28) rfl (fun h5 => ?_) (fun h5 => ?_)
      · have hF := hF.1 h5
        refine k_ic hK dX11_change_28 ci_m1 ?_
        exact k_iret hK dX11_change_29 rfl rfl (done_of hs0 hs hg rfl rfl) (qR_i hs hg hF)
      · have hF := hF.2 h5
        refine k_ld hK 3 dX11_change_22 rfl rfl rfl rfl ?_
        refine k_ldc hK dX11_change_23 lc_X11_111 ?_
        refine k_cle hK dX11_change_25 (tgt := 30) rfl (fun h6 => ?_) (fun h6 => ?_)
        · have hF := hF.1 h6
          refine k_ld hK 0 dX11_change_30 rfl rfl rfl rfl ?_
          refine k_ld hK 2 dX11_change_31 rfl rfl rfl rfl ?_
          refine k_ld hK 0 dX11_change_32 rfl rfl rfl rfl ?_
          refine k_gR hK dX11_change_33 lf_X11_36 rfl (sc_0 hs) (sf_0_7 hs) ?_
          refine k_ld hK 2 dX11_change_36 rfl rfl rfl rfl ?_
          obtain ⟨n7, i8, j9, hF⟩ := hF
          refine k_iald hK dX11_change_37 (sc_16 hs) sn_16 (by decide) i8 j9 rfl ?_
          refine k_ld hK 3 dX11_change_38 rfl rfl rfl rfl ?_
          refine k_cSp hK dX11_change_39 lm_X11_112 (As := [.int x3]) (S := [.int (I 16 n7), .int x2, .ref 0]) rfl (Nat.le_of_ble_eq_true rfl) (fit_of hs0 hs hg rfl rfl) rfl hF (fun r10 hF => ?_)
          show K _ _ [.int r10, .int (I 16 n7), .int x2, .ref 0] _ _ _
          refine k_cSp hK dX11_change_42 lm_X11_268 (As := [.int (I 16 n7), .int r10]) (S := [.int x2, .ref 0]) rfl (Nat.le_of_ble_eq_true rfl) (fit_of hs0 hs hg rfl rfl) rfl hF (fun r11 hF => ?_)
          show K _ _ [.int r11, .int x2, .ref 0] _ _ _
          refine k_cVr hK dX11_change_45 (Or.inl lm_X11_295) (As := [.int x2, .int r11]) (S := []) rfl (sc_0 hs) (Nat.le_of_ble_eq_true rfl) (fit_of hs0 hs hg rfl rfl) rfl hF (fun u12 I13 R14 hs hg1 hF => ?_)
          have hg := hg1.trans hg
          show K _ _ [] _ _ _
          refine k_ld hK 1 dX11_change_48 rfl rfl rfl rfl ?_
          refine k_ld hK 0 dX11_change_49 rfl rfl rfl rfl ?_
          refine k_gR hK dX11_change_50 lf_X11_50 rfl (sc_0 hs) (sf_0_10 hs) ?_
          refine k_gR hK dX11_change_53 lf_X11_172 rfl (sc_45 hs) (sf_45_4 hs) ?_
          refine k_gI hK dX11_change_56 lf_X11_175 rfl (sc_55 hs) rfl ?_
          refine k_clt hK dX11_change_59 (tgt := 65) rfl (fun h15 => ?_) (fun h15 => ?_)
          · have hF := hF.1 h15
            refine k_ld hK 0 dX11_change_65 rfl rfl rfl rfl ?_
            refine k_gR hK dX11_change_66 lf_X11_50 rfl (sc_0 hs) (sf_0_10 hs) ?_
            refine k_gR hK dX11_change_69 lf_X11_172 rfl (sc_45 hs) (sf_45_4 hs) ?_
            refine k_ld hK 1 dX11_change_72 rfl rfl rfl rfl ?_
            refine k_cVp hK dX11_change_73 (Or.inl lm_X11_180) (As := [.int x1]) (S := []) rfl (sc_55 hs) (Nat.le_of_ble_eq_true rfl) (fit_of hs0 hs hg rfl rfl) rfl hF (fun r16 hF => ?_)
            show K _ _ [.int r16] _ _ _
            refine k_ld hK 0 dX11_change_76 rfl rfl rfl rfl ?_
            refine k_gR hK dX11_change_77 lf_X11_43 rfl (sc_0 hs) (sf_0_8 hs) ?_
            refine k_gR hK dX11_change_80 lf_X11_172 rfl (sc_17 hs) (sf_17_4 hs) ?_
            refine k_ld hK 1 dX11_change_83 rfl rfl rfl rfl ?_
            refine k_cVp hK dX11_change_84 (Or.inl lm_X11_180) (As := [.int x1]) (S := [.int r16]) rfl (sc_27 hs) (Nat.le_of_ble_eq_true rfl) (fit_of hs0 hs hg rfl rfl) rfl hF (fun r17 hF => ?_)
            show K _ _ [.int r17, .int r16] _ _ _
            refine k_cSp hK dX11_change_87 lm_X11_298 (As := [.int r16, .int r17]) (S := []) rfl (Nat.le_of_ble_eq_true rfl) (fit_of hs0 hs hg rfl rfl) rfl hF (fun r18 hF => ?_)
            show K _ _ [.int r18] _ _ _
            exact k_iret hK dX11_change_90 rfl rfl (done_of hs0 hs hg rfl rfl) (qR_i hs hg hF)
          · have hF := hF.2 h15
            refine k_bi hK dX11_change_62 cb_m2 ?_
            exact k_iret hK dX11_change_64 rfl rfl (done_of hs0 hs hg rfl rfl) (qR_i hs hg hF)
        · have hF := hF.2 h6
          refine k_ic hK dX11_change_28 ci_m1 ?_
          exact k_iret hK dX11_change_29 rfl rfl (done_of hs0 hs hg rfl rfl) (qR_i hs hg hF)
theorem e_X11_change {d : Nat} {Q : Int32 → HI → HR → Prop} {I : HI} {J : HJ} {R : HR} {x1 : Int32} {x2 : Int32} {x3 : Int32} (hs : Stat R)  (hF : Wp fb d M_X11_hasOut [.ref 0, .int x1] I J R (fun b1 => ((b1 = false → Q (-1) I R) ∧ (b1 = true → Wp fb d M_X11_hasInput [.ref 0, .int x2] I J R (fun b3 => ((b3 = false → Q (-1) I R) ∧ (b3 = true → ((x3 < (-1000000000) → Q (-1) I R) ∧ (¬ x3 < (-1000000000) → ((x3 ≤ 1000000000 → (∃ n7 : Nat, x2 = nI n7 ∧ n7 < 4 ∧ Wp fi d M_X3_of [.int x3] I J R (fun r10 => Wp fi d M_X3_plus [.int (I 16 n7), .int r10] I J R (fun r11 => Wr fv d M_X11_tryInput [.ref 0, .int x2, .int r11] I J R (fun u12 I13 R14 => ((x1 < (I13 55 2) → Wp fi d M_X8_valueAt [.ref 55, .int x1] I13 J R14 (fun r16 => Wp fi d M_X8_valueAt [.ref 27, .int x1] I13 J R14 (fun r17 => Wp fi d M_X3_minus [.int r16, .int r17] I13 J R14 (fun r18 => Q r18 I13 R14)))) ∧ (¬ x1 < (I13 55 2) → Q (-2) I13 R14))))))) ∧ (¬ x3 ≤ 1000000000 → Q (-1) I R))))))))))) : Wr fi (d + 1) M_X11_change [.ref 0, .int x1, .int x2, .int x3] I J R Q := ⟨Nat.le_of_ble_eq_true rfl, fun K hK => g_X11_change_0 hK hs hs rfl hF⟩
set_option maxHeartbeats 4000000 in
theorem g_X11_degree_0 {d : Nat} {K : KT} {Q : Int32 → HI → HR → Prop} {I : HI} {J : HJ} {R : HR} {R0 : HR} {x1 : Int32} {x2 : Int32} (hK : am_R M_X11_degree (am_W d) none R0 (qR fi J R0 Q) K) (hs0 : Stat R0) (hs : Stat R) (hg : am_g R = am_g R0)  (hF : Wp fb d M_X11_hasOut [.ref 0, .int x1] I J R (fun b1 => ((b1 = false → Q (-1) I R) ∧ (b1 = true → Wp fb d M_X11_hasInput [.ref 0, .int x2] I J R (fun b3 => ((b3 = true → K 20 [(0, .ref 0), (1, .int x1), (2, .int x2), (3, .int 0)] [] I J R) ∧ (b3 = false → Q (-1) I R))))))) : K 0 [(0, .ref 0), (1, .int x1), (2, .int x2)] [] I J R := by
  refine k_ld hK 0 dX11_degree_0 rfl rfl rfl rfl ?_
  refine k_ld hK 1 dX11_degree_1 rfl rfl rfl rfl ?_
  refine k_cVp hK dX11_degree_2 (Or.inl lm_X11_251) (As := [.int x1]) (S := []) rfl (sc_0 hs) (Nat.le_of_ble_eq_true rfl) (fit_of hs0 hs hg rfl rfl) rfl hF (fun b1 hF => ?_)
  show K _ _ [.int (b2i b1)] _ _ _
  refine k_beq hK dX11_degree_5 (tgt := 16) rfl (fun h2 => ?_) (fun h2 => ?_)
  · have hF := hF.1 h2
    refine k_ic hK dX11_degree_16 ci_m1 ?_
    exact k_iret hK dX11_degree_17 rfl rfl (done_of hs0 hs hg rfl rfl) (qR_i hs hg hF)
  · have hF := hF.2 h2
    refine k_ld hK 0 dX11_degree_8 rfl rfl rfl rfl ?_
    refine k_ld hK 2 dX11_degree_9 rfl rfl rfl rfl ?_
    refine k_cVp hK dX11_degree_10 (Or.inl lm_X11_106) (As := [.int x2]) (S := []) rfl (sc_0 hs) (Nat.le_of_ble_eq_true rfl) (fit_of hs0 hs hg rfl rfl) rfl hF (fun b3 hF => ?_)
    show K _ _ [.int (b2i b3)] _ _ _
    refine k_bne hK dX11_degree_13 (tgt := 18) rfl (fun h4 => ?_) (fun h4 => ?_)
    · have hF := hF.1 h4
      refine k_ic hK dX11_degree_18 ci_0 ?_
      refine k_st hK dX11_degree_19 rfl rfl rfl (Nat.le_of_ble_eq_true rfl) rfl ?_
      exact k_sub hK [1, 2, 3, 0] rfl hF
    · have hF := hF.2 h4
      refine k_ic hK dX11_degree_16 ci_m1 ?_
      exact k_iret hK dX11_degree_17 rfl rfl (done_of hs0 hs hg rfl rfl) (qR_i hs hg hF)
set_option maxHeartbeats 4000000 in
theorem g_X11_degree_20 {d : Nat} {K : KT} {Q : Int32 → HI → HR → Prop} {I : HI} {J : HJ} {R : HR} {R0 : HR} {x1 : Int32} {x2 : Int32} {x3 : Int32} (hK : am_R M_X11_degree (am_W d) none R0 (qR fi J R0 Q) K) (hs0 : Stat R0) (hs : Stat R) (hg : am_g R = am_g R0)  (hF : ((11 ≤ x3 → K 83 [(0, .ref 0), (3, .int 0)] [] I J R) ∧ (¬ 11 ≤ x3 → (∃ n2 : Nat, x2 = nI n2 ∧ n2 < 4 ∧ Wp fi d M_X3_plus [.int (I 16 n2), .int x3] I J R (fun r5 => Wr fv d M_X11_tryInput [.ref 0, .int x2, .int r5] I J R (fun u6 I7 R8 => ((x1 < (I7 55 2) → Wp fi d M_X8_valueAt [.ref 55, .int x1] I7 J R8 (fun r10 => (∃ n11 : Nat, x3 = nI n11 ∧ n11 < 11 ∧ K 20 [(0, .ref 0), (1, .int x1), (2, .int x2), (3, .int (x3 + 1))] [] (up I7 79 n11 r10) J R8))) ∧ (¬ x1 < (I7 55 2) → Q (-2) I7 R8)))))))) : K 20 [(0, .ref 0), (1, .int x1), (2, .int x2), (3, .int x3)] [] I J R := by
  refine k_ld hK 3 dX11_degree_20 rfl rfl rfl rfl ?_
  refine k_bi hK dX11_degree_21 cb_11 ?_
  refine k_cge hK dX11_degree_23 (tgt := 81) rfl (fun h1 => ?_) (fun h1 => ?_)
  · have hF := hF.1 h1
    refine k_ic hK dX11_degree_81 ci_0 ?_
    refine k_st hK dX11_degree_82 rfl rfl rfl (Nat.le_of_ble_eq_true rfl) rfl ?_
    exact k_sub hK [1, 0] rfl hF
  · have hF := hF.2 h1
    refine k_ld hK 0 dX11_degree_26 rfl rfl rfl rfl ?_
    refine k_ld hK 2 dX11_degree_27 rfl rfl rfl rfl ?_
    refine k_ld hK 0 dX11_degree_28 rfl rfl rfl rfl ?_
    refine k_gR hK dX11_degree_29 lf_X11_36 rfl (sc_0 hs) (sf_0_7 hs) ?_
    refine k_ld hK 2 dX11_degree_32 rfl rfl rfl rfl ?_
    obtain ⟨n2, i3, j4, hF⟩ := hF
    refine k_iald hK dX11_degree_33 (sc_16 hs) sn_16 (by decide) i3 j4 rfl ?_
    refine k_ld hK 3 dX11_degree_34 rfl rfl rfl rfl ?_
    refine k_cSp hK dX11_degree_35 lm_X11_268 (As := [.int (I 16 n2), .int x3]) (S := [.int x2, .ref 0]) rfl (Nat.le_of_ble_eq_true rfl) (fit_of hs0 hs hg rfl rfl) rfl hF (fun r5 hF => ?_)
    show K _ _ [.int r5, .int x2, .ref 0] _ _ _
    refine k_cVr hK dX11_degree_38 (Or.inl lm_X11_295) (As := [.int x2, .int r5]) (S := []) rfl (sc_0 hs) (Nat.le_of_ble_eq_true rfl) (fit_of hs0 hs hg rfl rfl) rfl hF (fun u6 I7 R8 hs hg1 hF => ?_)
    have hg := hg1.trans hg
    show K _ _ [] _ _ _
    refine k_ld hK 1 dX11_degree_41 rfl rfl rfl rfl ?_
    refine k_ld hK 0 dX11_degree_42 rfl rfl rfl rfl ?_
    refine k_gR hK dX11_degree_43 lf_X11_50 rfl (sc_0 hs) (sf_0_10 hs) ?_
    refine k_gR hK dX11_degree_46 lf_X11_172 rfl (sc_45 hs) (sf_45_4 hs) ?_
    refine k_gI hK dX11_degree_49 lf_X11_175 rfl (sc_55 hs) rfl ?_
    refine k_clt hK dX11_degree_52 (tgt := 58) rfl (fun h9 => ?_) (fun h9 => ?_)
    · have hF := hF.1 h9
      refine k_ld hK 0 dX11_degree_58 rfl rfl rfl rfl ?_
      refine k_gR hK dX11_degree_59 lf_X11_74 rfl (sc_0 hs) (sf_0_14 hs) ?_
      refine k_ld hK 3 dX11_degree_62 rfl rfl rfl rfl ?_
      refine k_ld hK 0 dX11_degree_63 rfl rfl rfl rfl ?_
      refine k_gR hK dX11_degree_64 lf_X11_50 rfl (sc_0 hs) (sf_0_10 hs) ?_
      refine k_gR hK dX11_degree_67 lf_X11_172 rfl (sc_45 hs) (sf_45_4 hs) ?_
      refine k_ld hK 1 dX11_degree_70 rfl rfl rfl rfl ?_
      refine k_cVp hK dX11_degree_71 (Or.inl lm_X11_180) (As := [.int x1]) (S := [.int x3, .ref 79]) rfl (sc_55 hs) (Nat.le_of_ble_eq_true rfl) (fit_of hs0 hs hg rfl rfl) rfl hF (fun r10 hF => ?_)
      show K _ _ [.int r10, .int x3, .ref 79] _ _ _
      obtain ⟨n11, i12, j13, hF⟩ := hF
      refine k_iast hK dX11_degree_74 (sc_79 hs) sn_79 (by decide) i12 j13 ?_
      refine k_iinc hK 3 dX11_degree_75 (v := (x3 + 1)) rfl (Nat.le_of_ble_eq_true rfl) (congrArg (fun q => x3 + q) ci_1) rfl ?_
      refine k_goto hK dX11_degree_78 (tgt := 20) rfl ?_
      exact k_sub hK [1, 2, 3, 0] rfl hF
    · have hF := hF.2 h9
      refine k_bi hK dX11_degree_55 cb_m2 ?_
      exact k_iret hK dX11_degree_57 rfl rfl (done_of hs0 hs hg rfl rfl) (qR_i hs hg hF)
set_option maxHeartbeats 4000000 in
theorem g_X11_degree_83 {d : Nat} {K : KT} {Q : Int32 → HI → HR → Prop} {I : HI} {J : HJ} {R : HR} {R0 : HR} {x3 : Int32} (hK : am_R M_X11_degree (am_W d) none R0 (qR fi J R0 Q) K) (hs0 : Stat R0) (hs : Stat R) (hg : am_g R = am_g R0)  (hF : ((8 < x3 → Q (-2) I R) ∧ (¬ 8 < x3 → Wc fb d M_X11_takeDifferences [.ref 0, .int (10 - x3)] I J R (fun b2 I3 => ((b2 = false → K 83 [(0, .ref 0), (3, .int (x3 + 1))] [] I3 J R) ∧ (b2 = true → Q x3 I3 R)))))) : K 83 [(0, .ref 0), (3, .int x3)] [] I J R := by
  refine k_ld hK 1 dX11_degree_83 rfl rfl rfl rfl ?_
  refine k_bi hK dX11_degree_84 cb_8 ?_
  refine k_cgt hK dX11_degree_86 (tgt := 108) rfl (fun h1 => ?_) (fun h1 => ?_)
  · have hF := hF.1 h1
    refine k_bi hK dX11_degree_108 cb_m2 ?_
    exact k_iret hK dX11_degree_110 rfl rfl (done_of hs0 hs hg rfl rfl) (qR_i hs hg hF)
  · have hF := hF.2 h1
    refine k_ld hK 0 dX11_degree_89 rfl rfl rfl rfl ?_
    refine k_bi hK dX11_degree_90 cb_10 ?_
    refine k_ld hK 1 dX11_degree_92 rfl rfl rfl rfl ?_
    refine k_op hK dX11_degree_93 rfl rfl ?_
    refine k_cVc hK dX11_degree_94 (Or.inl lm_X11_307) (As := [.int (10 - x3)]) (S := []) rfl (sc_0 hs) (Nat.le_of_ble_eq_true rfl) (fit_of hs0 hs hg rfl rfl) rfl hF (fun b2 I3 hF => ?_)
    show K _ _ [.int (b2i b2)] _ _ _
    refine k_beq hK dX11_degree_97 (tgt := 102) rfl (fun h4 => ?_) (fun h4 => ?_)
    · have hF := hF.1 h4
      refine k_iinc hK 1 dX11_degree_102 (v := (x3 + 1)) rfl (Nat.le_of_ble_eq_true rfl) (congrArg (fun q => x3 + q) ci_1) rfl ?_
      refine k_goto hK dX11_degree_105 (tgt := 83) rfl ?_
      exact k_sub hK [1, 0] rfl hF
    · have hF := hF.2 h4
      refine k_ld hK 1 dX11_degree_100 rfl rfl rfl rfl ?_
      exact k_iret hK dX11_degree_101 rfl rfl (done_of hs0 hs hg rfl rfl) (qR_i hs hg hF)
set_option maxHeartbeats 4000000 in
theorem g_X11_takeDifferences_0 {d : Nat} {K : KT} {Q : Bool → HI → Prop} {I : HI} {J : HJ} {R : HR} {x1 : Int32} (hK : am_R M_X11_takeDifferences (am_W d) none R (qC fb J R Q) K) (hs : Stat R)  (hF : K 4 [(0, .ref 0), (1, .int x1), (2, .int (b2i true)), (3, .int 0)] [] I J R) : K 0 [(0, .ref 0), (1, .int x1)] [] I J R := by
  refine k_ic hK dX11_takeDifferences_0 ci_1 ?_
  refine k_st hK dX11_takeDifferences_1 rfl rfl rfl (Nat.le_of_ble_eq_true rfl) rfl ?_
  refine k_ic hK dX11_takeDifferences_2 ci_0 ?_
  refine k_st hK dX11_takeDifferences_3 rfl rfl rfl (Nat.le_of_ble_eq_true rfl) rfl ?_
  exact k_sub hK [2, 3, 1, 0] rfl hF
set_option maxHeartbeats 4000000 in
theorem g_X11_takeDifferences_4 {d : Nat} {K : KT} {Q : Bool → HI → Prop} {I : HI} {J : HJ} {R : HR} {x1 : Int32} {y2 : Bool} {x3 : Int32} (hK : am_R M_X11_takeDifferences (am_W d) none R (qC fb J R Q) K) (hs : Stat R)  (hF : ((x1 ≤ x3 → Q y2 I) ∧ (¬ x1 ≤ x3 → ((11 ≤ (x3 + 1) → Q y2 I) ∧ (¬ 11 ≤ (x3 + 1) → (∃ n3 : Nat, (x3 + 1) = nI n3 ∧ n3 < 11 ∧ (∃ n6 : Nat, x3 = nI n6 ∧ n6 < 11 ∧ Wp fi d M_X3_minus [.int (I 79 n3), .int (I 79 n6)] I J R (fun r9 => ((y2 = false → K 4 [(0, .ref 0), (1, .int x1), (2, .int (b2i false)), (3, .int (x3 + 1))] [] (up I 79 n6 r9) J R) ∧ (y2 = true → ((¬ r9 = 0 → K 4 [(0, .ref 0), (1, .int x1), (2, .int (b2i false)), (3, .int (x3 + 1))] [] (up I 79 n6 r9) J R) ∧ (r9 = 0 → K 4 [(0, .ref 0), (1, .int x1), (2, .int (b2i true)), (3, .int (x3 + 1))] [] (up I 79 n6 r9) J R)))))))))))) : K 4 [(0, .ref 0), (1, .int x1), (2, .int (b2i y2)), (3, .int x3)] [] I J R := by
  refine k_ld hK 3 dX11_takeDifferences_4 rfl rfl rfl rfl ?_
  refine k_ld hK 1 dX11_takeDifferences_5 rfl rfl rfl rfl ?_
  refine k_cge hK dX11_takeDifferences_6 (tgt := 65) rfl (fun h1 => ?_) (fun h1 => ?_)
  · have hF := hF.1 h1
    refine k_ld hK 2 dX11_takeDifferences_65 rfl rfl rfl rfl ?_
    exact k_iret (x := b2i y2) hK dX11_takeDifferences_66 rfl (b2i_nar _) (done_0 rfl rfl) (qC_i hF)
  · have hF := hF.2 h1
    refine k_ld hK 3 dX11_takeDifferences_9 rfl rfl rfl rfl ?_
    refine k_ic hK dX11_takeDifferences_10 ci_1 ?_
    refine k_op hK dX11_takeDifferences_11 rfl rfl ?_
    refine k_bi hK dX11_takeDifferences_12 cb_11 ?_
    refine k_cge hK dX11_takeDifferences_14 (tgt := 65) rfl (fun h2 => ?_) (fun h2 => ?_)
    · have hF := hF.1 h2
      refine k_ld hK 2 dX11_takeDifferences_65 rfl rfl rfl rfl ?_
      exact k_iret (x := b2i y2) hK dX11_takeDifferences_66 rfl (b2i_nar _) (done_0 rfl rfl) (qC_i hF)
    · have hF := hF.2 h2
      refine k_ld hK 0 dX11_takeDifferences_17 rfl rfl rfl rfl ?_
      refine k_gR hK dX11_takeDifferences_18 lf_X11_74 rfl (sc_0 hs) (sf_0_14 hs) ?_
      refine k_ld hK 3 dX11_takeDifferences_21 rfl rfl rfl rfl ?_
      refine k_ld hK 0 dX11_takeDifferences_22 rfl rfl rfl rfl ?_
      refine k_gR hK dX11_takeDifferences_23 lf_X11_74 rfl (sc_0 hs) (sf_0_14 hs) ?_
      refine k_ld hK 3 dX11_takeDifferences_26 rfl rfl rfl rfl ?_
      refine k_ic hK dX11_takeDifferences_27 ci_1 ?_
      refine k_op hK dX11_takeDifferences_28 rfl rfl ?_
      obtain ⟨n3, i4, j5, hF⟩ := hF
      refine k_iald hK dX11_takeDifferences_29 (sc_79 hs) sn_79 (by decide) i4 j5 rfl ?_
      refine k_ld hK 0 dX11_takeDifferences_30 rfl rfl rfl rfl ?_
      refine k_gR hK dX11_takeDifferences_31 lf_X11_74 rfl (sc_0 hs) (sf_0_14 hs) ?_
      refine k_ld hK 3 dX11_takeDifferences_34 rfl rfl rfl rfl ?_
      obtain ⟨n6, i7, j8, hF⟩ := hF
      refine k_iald hK dX11_takeDifferences_35 (sc_79 hs) sn_79 (by decide) i7 j8 rfl ?_
      refine k_cSp hK dX11_takeDifferences_36 lm_X11_298 (As := [.int (I 79 n3), .int (I 79 n6)]) (S := [.int x3, .ref 79]) rfl (Nat.le_of_ble_eq_true rfl) (fit_0 rfl rfl) rfl hF (fun r9 hF => ?_)
      show K _ _ [.int r9, .int x3, .ref 79] _ _ _
      refine k_iast hK dX11_takeDifferences_39 (sc_79 hs) sn_79 (by decide) i7 j8 ?_
      refine k_ld hK 2 dX11_takeDifferences_40 rfl rfl rfl rfl ?_
      refine k_beq hK dX11_takeDifferences_41 (tgt := 57) rfl (fun h10 => ?_) (fun h10 => ?_)
      · have hF := hF.1 h10
        refine k_ic hK dX11_takeDifferences_57 ci_0 ?_
        refine k_st hK dX11_takeDifferences_58 rfl rfl rfl (Nat.le_of_ble_eq_true rfl) rfl ?_
        refine k_iinc hK 3 dX11_takeDifferences_59 (v := (x3 + 1)) rfl (Nat.le_of_ble_eq_true rfl) (congrArg (fun q => x3 + q) ci_1) rfl ?_
        refine k_goto hK dX11_takeDifferences_62 (tgt := 4) rfl ?_
        exact k_sub hK [2, 3, 1, 0] rfl hF
      · have hF := hF.2 h10
        refine k_ld hK 0 dX11_takeDifferences_44 rfl rfl rfl rfl ?_
        refine k_gR hK dX11_takeDifferences_45 lf_X11_74 rfl (sc_0 hs) (sf_0_14 hs) ?_
        refine k_ld hK 3 dX11_takeDifferences_48 rfl rfl rfl rfl ?_
        refine k_iald hK dX11_takeDifferences_49 (sc_79 hs) sn_79 (by decide) i7 j8 up_s ?_
        refine k_ne hK dX11_takeDifferences_50 (tgt := 57) rfl (fun h11 => ?_) (fun h11 => ?_)
        · have hF := hF.1 h11
          refine k_ic hK dX11_takeDifferences_57 ci_0 ?_
          refine k_st hK dX11_takeDifferences_58 rfl rfl rfl (Nat.le_of_ble_eq_true rfl) rfl ?_
          refine k_iinc hK 3 dX11_takeDifferences_59 (v := (x3 + 1)) rfl (Nat.le_of_ble_eq_true rfl) (congrArg (fun q => x3 + q) ci_1) rfl ?_
          refine k_goto hK dX11_takeDifferences_62 (tgt := 4) rfl ?_
          exact k_sub hK [2, 3, 1, 0] rfl hF
        · have hF := hF.2 h11
          refine k_ic hK dX11_takeDifferences_53 ci_1 ?_
          refine k_goto hK dX11_takeDifferences_54 (tgt := 58) rfl ?_
          refine k_st hK dX11_takeDifferences_58 rfl rfl rfl (Nat.le_of_ble_eq_true rfl) rfl ?_
          refine k_iinc hK 3 dX11_takeDifferences_59 (v := (x3 + 1)) rfl (Nat.le_of_ble_eq_true rfl) (congrArg (fun q => x3 + q) ci_1) rfl ?_
          refine k_goto hK dX11_takeDifferences_62 (tgt := 4) rfl ?_
          exact k_sub hK [2, 3, 1, 0] rfl hF
set_option maxHeartbeats 4000000 in
theorem g_X11_bends_0 {d : Nat} {K : KT} {Q : Int32 → HI → HR → Prop} {I : HI} {J : HJ} {R : HR} {R0 : HR} {x1 : Int32} (hK : am_R M_X11_bends (am_W d) none R0 (qR fi J R0 Q) K) (hs0 : Stat R0) (hs : Stat R) (hg : am_g R = am_g R0)  (hF : Wp fb d M_X11_hasInput [.ref 0, .int x1] I J R (fun b1 => ((b1 = true → (∃ p3 : Nat, (R 0 5) = some p3 ∧ isX5 p3 ∧ Wp fb d M_X5_hasTest [.ref p3] I J R (fun b5 => ((b5 = true → K 25 [(0, .ref 0), (1, .int x1), (2, .int 1)] [] I J R) ∧ (b5 = false → Q (-2) I R))))) ∧ (b1 = false → Q (-1) I R)))) : K 0 [(0, .ref 0), (1, .int x1)] [] I J R := by
  refine k_ld hK 0 dX11_bends_0 rfl rfl rfl rfl ?_
  refine k_ld hK 1 dX11_bends_1 rfl rfl rfl rfl ?_
  refine k_cVp hK dX11_bends_2 (Or.inl lm_X11_106) (As := [.int x1]) (S := []) rfl (sc_0 hs) (Nat.le_of_ble_eq_true rfl) (fit_of hs0 hs hg rfl rfl) rfl hF (fun b1 hF => ?_)
  show K _ _ [.int (b2i b1)] _ _ _
  refine k_bne hK dX11_bends_5 (tgt := 10) rfl (fun h2 => ?_) (fun h2 => ?_)
  · have hF := hF.1 h2
    refine k_ld hK 0 dX11_bends_10 rfl rfl rfl rfl ?_
    obtain ⟨p3, e4, h_p3, hF⟩ := hF
    refine k_gR hK dX11_bends_11 lf_X11_29 rfl (sc_0 hs) e4 ?_
    refine k_cVp hK dX11_bends_14 (Or.inl lm_X11_310) (As := []) (S := []) rfl (sk_X5_0 hs h_p3) (Nat.le_of_ble_eq_true rfl) (fit_of hs0 hs hg rfl rfl) rfl hF (fun b5 hF => ?_)
    show K _ _ [.int (b2i b5)] _ _ _
    refine k_bne hK dX11_bends_17 (tgt := 23) rfl (fun h6 => ?_) (fun h6 => ?_)
    · have hF := hF.1 h6
      refine k_ic hK dX11_bends_23 ci_1 ?_
      refine k_st hK dX11_bends_24 rfl rfl rfl (Nat.le_of_ble_eq_true rfl) rfl ?_
      exact k_sub hK [1, 2, 0] rfl hF
    · have hF := hF.2 h6
      refine k_bi hK dX11_bends_20 cb_m2 ?_
      exact k_iret hK dX11_bends_22 rfl rfl (done_of hs0 hs hg rfl rfl) (qR_i hs hg hF)
  · have hF := hF.2 h2
    refine k_ic hK dX11_bends_8 ci_m1 ?_
    exact k_iret hK dX11_bends_9 rfl rfl (done_of hs0 hs hg rfl rfl) (qR_i hs hg hF)
set_option maxHeartbeats 4000000 in
theorem g_X11_bends_25 {d : Nat} {K : KT} {Q : Int32 → HI → HR → Prop} {I : HI} {J : HJ} {R : HR} {R0 : HR} {x1 : Int32} {x2 : Int32} (hK : am_R M_X11_bends (am_W d) none R0 (qR fi J R0 Q) K) (hs0 : Stat R0) (hs : Stat R) (hg : am_g R = am_g R0)  (hF : ((100 < x2 → Q (-2) I R) ∧ (¬ 100 < x2 → (∃ n2 : Nat, x1 = nI n2 ∧ n2 < 4 ∧ Wp fi d M_X3_plus [.int (I 16 n2), .int x2] I J R (fun r5 => Wr fv d M_X11_tryInput [.ref 0, .int x1, .int r5] I J R (fun u6 I7 R8 => Wp fb d M_X0_isLike [.ref 41, .ref 69] I7 J R8 (fun b9 => ((b9 = true → K 25 [(0, .ref 0), (1, .int x1), (2, .int (x2 + 1))] [] I7 J R8) ∧ (b9 = false → Q x2 I7 R8))))))))) : K 25 [(0, .ref 0), (1, .int x1), (2, .int x2)] [] I J R := by
  refine k_ld hK 2 dX11_bends_25 rfl rfl rfl rfl ?_
  refine k_bi hK dX11_bends_26 cb_100 ?_
  refine k_cgt hK dX11_bends_28 (tgt := 74) rfl (fun h1 => ?_) (fun h1 => ?_)
  · have hF := hF.1 h1
    refine k_bi hK dX11_bends_74 cb_m2 ?_
    exact k_iret hK dX11_bends_76 rfl rfl (done_of hs0 hs hg rfl rfl) (qR_i hs hg hF)
  · have hF := hF.2 h1
    refine k_ld hK 0 dX11_bends_31 rfl rfl rfl rfl ?_
    refine k_ld hK 1 dX11_bends_32 rfl rfl rfl rfl ?_
    refine k_ld hK 0 dX11_bends_33 rfl rfl rfl rfl ?_
    refine k_gR hK dX11_bends_34 lf_X11_36 rfl (sc_0 hs) (sf_0_7 hs) ?_
    refine k_ld hK 1 dX11_bends_37 rfl rfl rfl rfl ?_
    obtain ⟨n2, i3, j4, hF⟩ := hF
    refine k_iald hK dX11_bends_38 (sc_16 hs) sn_16 (by decide) i3 j4 rfl ?_
    refine k_ld hK 2 dX11_bends_39 rfl rfl rfl rfl ?_
    refine k_cSp hK dX11_bends_40 lm_X11_268 (As := [.int (I 16 n2), .int x2]) (S := [.int x1, .ref 0]) rfl (Nat.le_of_ble_eq_true rfl) (fit_of hs0 hs hg rfl rfl) rfl hF (fun r5 hF => ?_)
    show K _ _ [.int r5, .int x1, .ref 0] _ _ _
    refine k_cVr hK dX11_bends_43 (Or.inl lm_X11_295) (As := [.int x1, .int r5]) (S := []) rfl (sc_0 hs) (Nat.le_of_ble_eq_true rfl) (fit_of hs0 hs hg rfl rfl) rfl hF (fun u6 I7 R8 hs hg1 hF => ?_)
    have hg := hg1.trans hg
    show K _ _ [] _ _ _
    refine k_ld hK 0 dX11_bends_46 rfl rfl rfl rfl ?_
    refine k_gR hK dX11_bends_47 lf_X11_43 rfl (sc_0 hs) (sf_0_8 hs) ?_
    refine k_gR hK dX11_bends_50 lf_X11_202 rfl (sc_17 hs) (sf_17_6 hs) ?_
    refine k_ld hK 0 dX11_bends_53 rfl rfl rfl rfl ?_
    refine k_gR hK dX11_bends_54 lf_X11_50 rfl (sc_0 hs) (sf_0_10 hs) ?_
    refine k_gR hK dX11_bends_57 lf_X11_202 rfl (sc_45 hs) (sf_45_6 hs) ?_
    refine k_cVp hK dX11_bends_60 (Or.inl lm_X11_314) (As := [.ref 69]) (S := []) rfl (sc_41 hs) (Nat.le_of_ble_eq_true rfl) (fit_of hs0 hs hg rfl rfl) rfl hF (fun b9 hF => ?_)
    show K _ _ [.int (b2i b9)] _ _ _
    refine k_bne hK dX11_bends_63 (tgt := 68) rfl (fun h10 => ?_) (fun h10 => ?_)
    · have hF := hF.1 h10
      refine k_iinc hK 2 dX11_bends_68 (v := (x2 + 1)) rfl (Nat.le_of_ble_eq_true rfl) (congrArg (fun q => x2 + q) ci_1) rfl ?_
      refine k_goto hK dX11_bends_71 (tgt := 25) rfl ?_
      exact k_sub hK [1, 2, 0] rfl hF
    · have hF := hF.2 h10
      refine k_ld hK 2 dX11_bends_66 rfl rfl rfl rfl ?_
      exact k_iret hK dX11_bends_67 rfl rfl (done_of hs0 hs hg rfl rfl) (qR_i hs hg hF)
set_option maxHeartbeats 4000000 in
theorem g_X11_hangs_0 {d : Nat} {K : KT} {Q : Int32 → HI → Prop} {I : HI} {J : HJ} {R : HR} {x1 : Int32} {x2 : Int32} {x3 : Int32} (hK : am_R M_X11_hangs (am_W d) none R (qC fi J R Q) K) (hs : Stat R)  (hF : Wp fb d M_X11_hasOut [.ref 0, .int x1] I J R (fun b1 => ((b1 = false → Q (-1) I) ∧ (b1 = true → ((x3 < 0 → Q (-1) I) ∧ (¬ x3 < 0 → ((1 < x3 → Q (-1) I) ∧ (¬ 1 < x3 → ((¬ x3 = 1 → Wp fi d M_X8_sourceAt [.ref 27, .int x1] I J R (fun r6 => Wc fv d M_X9_markBack [.ref 30, .int r6] I J R (fun u7 I8 => K 59 [(0, .ref 0), (2, .int x2), (3, .int x3), (4, .int 0), (5, .int 0)] [] I8 J R))) ∧ (x3 = 1 → Wp fb d M_X11_hasInput [.ref 0, .int x2] I J R (fun b9 => ((b9 = true → Wp fi d M_X8_sourceAt [.ref 27, .int x1] I J R (fun r11 => Wc fv d M_X9_markBack [.ref 30, .int r11] I J R (fun u12 I13 => K 59 [(0, .ref 0), (2, .int x2), (3, .int x3), (4, .int 0), (5, .int 0)] [] I13 J R))) ∧ (b9 = false → Q (-1) I))))))))))))) : K 0 [(0, .ref 0), (1, .int x1), (2, .int x2), (3, .int x3)] [] I J R := by
  refine k_ld hK 0 dX11_hangs_0 rfl rfl rfl rfl ?_
  refine k_ld hK 1 dX11_hangs_1 rfl rfl rfl rfl ?_
  refine k_cVp hK dX11_hangs_2 (Or.inl lm_X11_251) (As := [.int x1]) (S := []) rfl (sc_0 hs) (Nat.le_of_ble_eq_true rfl) (fit_0 rfl rfl) rfl hF (fun b1 hF => ?_)
  show K _ _ [.int (b2i b1)] _ _ _
  refine k_beq hK dX11_hangs_5 (tgt := 30) rfl (fun h2 => ?_) (fun h2 => ?_)
  · have hF := hF.1 h2
    refine k_ic hK dX11_hangs_30 ci_m1 ?_
    exact k_iret hK dX11_hangs_31 rfl rfl (done_0 rfl rfl) (qC_i hF)
  · have hF := hF.2 h2
    refine k_ld hK 3 dX11_hangs_8 rfl rfl rfl rfl ?_
    refine k_lt hK dX11_hangs_9 (tgt := 30) rfl (fun h3 => ?_) (fun h3 => ?_)
    · have hF := hF.1 h3
      refine k_ic hK dX11_hangs_30 ci_m1 ?_
      exact k_iret hK dX11_hangs_31 rfl rfl (done_0 rfl rfl) (qC_i hF)
    · have hF := hF.2 h3
      refine k_ld hK 3 dX11_hangs_12 rfl rfl rfl rfl ?_
      refine k_ic hK dX11_hangs_13 ci_1 ?_
      refine k_cgt hK dX11_hangs_14 (tgt := 30) rfl (fun h4 => ?_) (fun h4 => ?_)
      · have hF := hF.1 h4
        refine k_ic hK dX11_hangs_30 ci_m1 ?_
        exact k_iret hK dX11_hangs_31 rfl rfl (done_0 rfl rfl) (qC_i hF)
      · have hF := hF.2 h4
        refine k_ld hK 3 dX11_hangs_17 rfl rfl rfl rfl ?_
        refine k_ic hK dX11_hangs_18 ci_1 ?_
        refine k_cne hK dX11_hangs_19 (tgt := 32) rfl (fun h5 => ?_) (fun h5 => ?_)
        · have hF := hF.1 h5
          refine k_ld hK 0 dX11_hangs_32 rfl rfl rfl rfl ?_
          refine k_gR hK dX11_hangs_33 lf_X11_43 rfl (sc_0 hs) (sf_0_8 hs) ?_
          refine k_gR hK dX11_hangs_36 lf_X11_195 rfl (sc_17 hs) (sf_17_5 hs) ?_
          refine k_ld hK 0 dX11_hangs_39 rfl rfl rfl rfl ?_
          refine k_gR hK dX11_hangs_40 lf_X11_43 rfl (sc_0 hs) (sf_0_8 hs) ?_
          refine k_gR hK dX11_hangs_43 lf_X11_172 rfl (sc_17 hs) (sf_17_4 hs) ?_
          refine k_ld hK 1 dX11_hangs_46 rfl rfl rfl rfl ?_
          refine k_cVp hK dX11_hangs_47 (Or.inl lm_X11_183) (As := [.int x1]) (S := [.ref 30]) rfl (sc_27 hs) (Nat.le_of_ble_eq_true rfl) (fit_0 rfl rfl) rfl hF (fun r6 hF => ?_)
          show K _ _ [.int r6, .ref 30] _ _ _
          refine k_cVc hK dX11_hangs_50 (Or.inl lm_X11_318) (As := [.int r6]) (S := []) rfl (sc_30 hs) (Nat.le_of_ble_eq_true rfl) (fit_0 rfl rfl) rfl hF (fun u7 I8 hF => ?_)
          show K _ _ [] _ _ _
          refine k_ic hK dX11_hangs_53 ci_0 ?_
          refine k_st hK dX11_hangs_54 rfl rfl rfl (Nat.le_of_ble_eq_true rfl) rfl ?_
          refine k_ic hK dX11_hangs_56 ci_0 ?_
          refine k_st hK dX11_hangs_57 rfl rfl rfl (Nat.le_of_ble_eq_true rfl) rfl ?_
          exact k_sub hK [2, 4, 5, 1, 0] rfl hF
        · have hF := hF.2 h5
          refine k_ld hK 0 dX11_hangs_22 rfl rfl rfl rfl ?_
          refine k_ld hK 2 dX11_hangs_23 rfl rfl rfl rfl ?_
          refine k_cVp hK dX11_hangs_24 (Or.inl lm_X11_106) (As := [.int x2]) (S := []) rfl (sc_0 hs) (Nat.le_of_ble_eq_true rfl) (fit_0 rfl rfl) rfl hF (fun b9 hF => ?_)
          show K _ _ [.int (b2i b9)] _ _ _
          refine k_bne hK dX11_hangs_27 (tgt := 32) rfl (fun h10 => ?_) (fun h10 => ?_)
          · have hF := hF.1 h10
            refine k_ld hK 0 dX11_hangs_32 rfl rfl rfl rfl ?_
            refine k_gR hK dX11_hangs_33 lf_X11_43 rfl (sc_0 hs) (sf_0_8 hs) ?_
            refine k_gR hK dX11_hangs_36 lf_X11_195 rfl (sc_17 hs) (sf_17_5 hs) ?_
            refine k_ld hK 0 dX11_hangs_39 rfl rfl rfl rfl ?_
            refine k_gR hK dX11_hangs_40 lf_X11_43 rfl (sc_0 hs) (sf_0_8 hs) ?_
            refine k_gR hK dX11_hangs_43 lf_X11_172 rfl (sc_17 hs) (sf_17_4 hs) ?_
            refine k_ld hK 1 dX11_hangs_46 rfl rfl rfl rfl ?_
            refine k_cVp hK dX11_hangs_47 (Or.inl lm_X11_183) (As := [.int x1]) (S := [.ref 30]) rfl (sc_27 hs) (Nat.le_of_ble_eq_true rfl) (fit_0 rfl rfl) rfl hF (fun r11 hF => ?_)
            show K _ _ [.int r11, .ref 30] _ _ _
            refine k_cVc hK dX11_hangs_50 (Or.inl lm_X11_318) (As := [.int r11]) (S := []) rfl (sc_30 hs) (Nat.le_of_ble_eq_true rfl) (fit_0 rfl rfl) rfl hF (fun u12 I13 hF => ?_)
            show K _ _ [] _ _ _
            refine k_ic hK dX11_hangs_53 ci_0 ?_
            refine k_st hK dX11_hangs_54 rfl rfl rfl (Nat.le_of_ble_eq_true rfl) rfl ?_
            refine k_ic hK dX11_hangs_56 ci_0 ?_
            refine k_st hK dX11_hangs_57 rfl rfl rfl (Nat.le_of_ble_eq_true rfl) rfl ?_
            exact k_sub hK [2, 4, 5, 1, 0] rfl hF
          · have hF := hF.2 h10
            refine k_ic hK dX11_hangs_30 ci_m1 ?_
            exact k_iret hK dX11_hangs_31 rfl rfl (done_0 rfl rfl) (qC_i hF)
set_option maxHeartbeats 4000000 in
theorem g_X11_hangs_59 {d : Nat} {K : KT} {Q : Int32 → HI → Prop} {I : HI} {J : HJ} {R : HR} {x2 : Int32} {x3 : Int32} {x4 : Int32} {x5 : Int32} (hK : am_R M_X11_hangs (am_W d) none R (qC fi J R Q) K) (hs : Stat R)  (hF : (((I 30 0) ≤ x5 → Q x4 I) ∧ (¬ (I 30 0) ≤ x5 → Wp fb d M_X9_isMarked [.ref 30, .int x5] I J R (fun b2 => ((b2 = false → K 59 [(0, .ref 0), (2, .int x2), (3, .int x3), (4, .int x4), (5, .int (x5 + 1))] [] I J R) ∧ (b2 = true → ((x3 = 0 → K 59 [(0, .ref 0), (2, .int x2), (3, .int x3), (4, .int (x4 + 1)), (5, .int (x5 + 1))] [] I J R) ∧ (¬ x3 = 0 → (∃ n5 : Nat, x5 = nI n5 ∧ n5 < 400 ∧ ((((I 39 n5) &&& (1 <<< ((x2 : Int32) &&& 31) : Int32)) = 0 → K 59 [(0, .ref 0), (2, .int x2), (3, .int x3), (4, .int x4), (5, .int (x5 + 1))] [] I J R) ∧ (¬ ((I 39 n5) &&& (1 <<< ((x2 : Int32) &&& 31) : Int32)) = 0 → K 59 [(0, .ref 0), (2, .int x2), (3, .int x3), (4, .int (x4 + 1)), (5, .int (x5 + 1))] [] I J R))))))))))) : K 59 [(0, .ref 0), (2, .int x2), (3, .int x3), (4, .int x4), (5, .int x5)] [] I J R := by
  refine k_ld hK 4 dX11_hangs_59 rfl rfl rfl rfl ?_
  refine k_ld hK 0 dX11_hangs_61 rfl rfl rfl rfl ?_
  refine k_gR hK dX11_hangs_62 lf_X11_43 rfl (sc_0 hs) (sf_0_8 hs) ?_
  refine k_gR hK dX11_hangs_65 lf_X11_195 rfl (sc_17 hs) (sf_17_5 hs) ?_
  refine k_gI hK dX11_hangs_68 lf_X11_199 rfl (sc_30 hs) rfl ?_
  refine k_cge hK dX11_hangs_71 (tgt := 122) rfl (fun h1 => ?_) (fun h1 => ?_)
  · have hF := hF.1 h1
    refine k_ld hK 3 dX11_hangs_122 rfl rfl rfl rfl ?_
    exact k_iret hK dX11_hangs_124 rfl rfl (done_0 rfl rfl) (qC_i hF)
  · have hF := hF.2 h1
    refine k_ld hK 0 dX11_hangs_74 rfl rfl rfl rfl ?_
    refine k_gR hK dX11_hangs_75 lf_X11_43 rfl (sc_0 hs) (sf_0_8 hs) ?_
    refine k_gR hK dX11_hangs_78 lf_X11_195 rfl (sc_17 hs) (sf_17_5 hs) ?_
    refine k_ld hK 4 dX11_hangs_81 rfl rfl rfl rfl ?_
    refine k_cVp hK dX11_hangs_83 (Or.inl lm_X11_248) (As := [.int x5]) (S := []) rfl (sc_30 hs) (Nat.le_of_ble_eq_true rfl) (fit_0 rfl rfl) rfl hF (fun b2 hF => ?_)
    show K _ _ [.int (b2i b2)] _ _ _
    refine k_beq hK dX11_hangs_86 (tgt := 116) rfl (fun h3 => ?_) (fun h3 => ?_)
    · have hF := hF.1 h3
      refine k_iinc hK 4 dX11_hangs_116 (v := (x5 + 1)) rfl (Nat.le_of_ble_eq_true rfl) (congrArg (fun q => x5 + q) ci_1) rfl ?_
      refine k_goto hK dX11_hangs_119 (tgt := 59) rfl ?_
      exact k_sub hK [1, 2, 3, 4, 0] rfl hF
    · have hF := hF.2 h3
      refine k_ld hK 2 dX11_hangs_89 rfl rfl rfl rfl ?_
      refine k_eq hK dX11_hangs_90 (tgt := 113) rfl (fun h4 => ?_) (fun h4 => ?_)
      · have hF := hF.1 h4
        refine k_iinc hK 3 dX11_hangs_113 (v := (x4 + 1)) rfl (Nat.le_of_ble_eq_true rfl) (congrArg (fun q => x4 + q) ci_1) rfl ?_
        refine k_iinc hK 4 dX11_hangs_116 (v := (x5 + 1)) rfl (Nat.le_of_ble_eq_true rfl) (congrArg (fun q => x5 + q) ci_1) rfl ?_
        refine k_goto hK dX11_hangs_119 (tgt := 59) rfl ?_
        exact k_sub hK [2, 3, 4, 1, 0] rfl hF
      · have hF := hF.2 h4
        refine k_ld hK 0 dX11_hangs_93 rfl rfl rfl rfl ?_
        refine k_gR hK dX11_hangs_94 lf_X11_43 rfl (sc_0 hs) (sf_0_8 hs) ?_
        refine k_gR hK dX11_hangs_97 lf_X11_195 rfl (sc_17 hs) (sf_17_5 hs) ?_
        refine k_gR hK dX11_hangs_100 lf_X11_242 rfl (sc_30 hs) (sf_30_9 hs) ?_
        refine k_ld hK 4 dX11_hangs_103 rfl rfl rfl rfl ?_
        obtain ⟨n5, i6, j7, hF⟩ := hF
        refine k_iald hK dX11_hangs_105 (sc_39 hs) sn_39 (by decide) i6 j7 rfl ?_
        refine k_ic hK dX11_hangs_106 ci_1 ?_
        refine k_ld hK 1 dX11_hangs_107 rfl rfl rfl rfl ?_
        refine k_op hK dX11_hangs_108 rfl rfl ?_
        refine k_op hK dX11_hangs_109 rfl rfl ?_
        refine k_eq hK dX11_hangs_110 (tgt := 116) rfl (fun h8 => ?_) (fun h8 => ?_)
        · have hF := hF.1 h8
          refine k_iinc hK 4 dX11_hangs_116 (v := (x5 + 1)) rfl (Nat.le_of_ble_eq_true rfl) (congrArg (fun q => x5 + q) ci_1) rfl ?_
          refine k_goto hK dX11_hangs_119 (tgt := 59) rfl ?_
          exact k_sub hK [1, 2, 3, 4, 0] rfl hF
        · have hF := hF.2 h8
          refine k_iinc hK 3 dX11_hangs_113 (v := (x4 + 1)) rfl (Nat.le_of_ble_eq_true rfl) (congrArg (fun q => x4 + q) ci_1) rfl ?_
          refine k_iinc hK 4 dX11_hangs_116 (v := (x5 + 1)) rfl (Nat.le_of_ble_eq_true rfl) (congrArg (fun q => x5 + q) ci_1) rfl ?_
          refine k_goto hK dX11_hangs_119 (tgt := 59) rfl ?_
          exact k_sub hK [2, 3, 4, 1, 0] rfl hF
set_option maxHeartbeats 4000000 in
theorem g_X11_back_0 {d : Nat} {K : KT} {Q : Int32 → HI → Prop} {I : HI} {J : HJ} {R : HR} {x1 : Int32} {x2 : Int32} (hK : am_R M_X11_back (am_W d) none R (qC fi J R Q) K) (hs : Stat R)  (hF : Wp fb d M_X11_hasOut [.ref 0, .int x1] I J R (fun b1 => ((b1 = false → Q (-1) I) ∧ (b1 = true → ((0 ≤ x2 → Wp fi d M_X8_sourceAt [.ref 27, .int x1] I J R (fun r4 => Wc fv d M_X9_markBack [.ref 30, .int r4] I J R (fun u5 I6 => K 51 [(0, .ref 0), (2, .int x2), (3, .int 0), (4, .int ((I6 30 0) - 1))] [] I6 J R))) ∧ (¬ 0 ≤ x2 → Q (-1) I)))))) : K 0 [(0, .ref 0), (1, .int x1), (2, .int x2)] [] I J R := by
  refine k_ld hK 0 dX11_back_0 rfl rfl rfl rfl ?_
  refine k_ld hK 1 dX11_back_1 rfl rfl rfl rfl ?_
  refine k_cVp hK dX11_back_2 (Or.inl lm_X11_251) (As := [.int x1]) (S := []) rfl (sc_0 hs) (Nat.le_of_ble_eq_true rfl) (fit_0 rfl rfl) rfl hF (fun b1 hF => ?_)
  show K _ _ [.int (b2i b1)] _ _ _
  refine k_beq hK dX11_back_5 (tgt := 12) rfl (fun h2 => ?_) (fun h2 => ?_)
  · have hF := hF.1 h2
    refine k_ic hK dX11_back_12 ci_m1 ?_
    exact k_iret hK dX11_back_13 rfl rfl (done_0 rfl rfl) (qC_i hF)
  · have hF := hF.2 h2
    refine k_ld hK 2 dX11_back_8 rfl rfl rfl rfl ?_
    refine k_ge hK dX11_back_9 (tgt := 14) rfl (fun h3 => ?_) (fun h3 => ?_)
    · have hF := hF.1 h3
      refine k_ld hK 0 dX11_back_14 rfl rfl rfl rfl ?_
      refine k_gR hK dX11_back_15 lf_X11_43 rfl (sc_0 hs) (sf_0_8 hs) ?_
      refine k_gR hK dX11_back_18 lf_X11_195 rfl (sc_17 hs) (sf_17_5 hs) ?_
      refine k_ld hK 0 dX11_back_21 rfl rfl rfl rfl ?_
      refine k_gR hK dX11_back_22 lf_X11_43 rfl (sc_0 hs) (sf_0_8 hs) ?_
      refine k_gR hK dX11_back_25 lf_X11_172 rfl (sc_17 hs) (sf_17_4 hs) ?_
      refine k_ld hK 1 dX11_back_28 rfl rfl rfl rfl ?_
      refine k_cVp hK dX11_back_29 (Or.inl lm_X11_183) (As := [.int x1]) (S := [.ref 30]) rfl (sc_27 hs) (Nat.le_of_ble_eq_true rfl) (fit_0 rfl rfl) rfl hF (fun r4 hF => ?_)
      show K _ _ [.int r4, .ref 30] _ _ _
      refine k_cVc hK dX11_back_32 (Or.inl lm_X11_318) (As := [.int r4]) (S := []) rfl (sc_30 hs) (Nat.le_of_ble_eq_true rfl) (fit_0 rfl rfl) rfl hF (fun u5 I6 hF => ?_)
      show K _ _ [] _ _ _
      refine k_ic hK dX11_back_35 ci_0 ?_
      refine k_st hK dX11_back_36 rfl rfl rfl (Nat.le_of_ble_eq_true rfl) rfl ?_
      refine k_ld hK 1 dX11_back_37 rfl rfl rfl rfl ?_
      refine k_gR hK dX11_back_38 lf_X11_43 rfl (sc_0 hs) (sf_0_8 hs) ?_
      refine k_gR hK dX11_back_41 lf_X11_195 rfl (sc_17 hs) (sf_17_5 hs) ?_
      refine k_gI hK dX11_back_44 lf_X11_199 rfl (sc_30 hs) rfl ?_
      refine k_ic hK dX11_back_47 ci_1 ?_
      refine k_op hK dX11_back_48 rfl rfl ?_
      refine k_st hK dX11_back_49 rfl rfl rfl (Nat.le_of_ble_eq_true rfl) rfl ?_
      exact k_sub hK [2, 4, 1, 0] rfl hF
    · have hF := hF.2 h3
      refine k_ic hK dX11_back_12 ci_m1 ?_
      exact k_iret hK dX11_back_13 rfl rfl (done_0 rfl rfl) (qC_i hF)
set_option maxHeartbeats 4000000 in
theorem g_X11_back_51 {d : Nat} {K : KT} {Q : Int32 → HI → Prop} {I : HI} {J : HJ} {R : HR} {x2 : Int32} {x3 : Int32} {x4 : Int32} (hK : am_R M_X11_back (am_W d) none R (qC fi J R Q) K) (hs : Stat R)  (hF : ((x4 < 0 → Q (-2) I) ∧ (¬ x4 < 0 → Wp fb d M_X9_isMarked [.ref 30, .int x4] I J R (fun b2 => ((b2 = false → K 51 [(0, .ref 0), (2, .int x2), (3, .int x3), (4, .int (x4 + (-1)))] [] I J R) ∧ (b2 = true → ((¬ x3 = x2 → K 51 [(0, .ref 0), (2, .int x2), (3, .int (x3 + 1)), (4, .int (x4 + (-1)))] [] I J R) ∧ (x3 = x2 → Q x4 I)))))))) : K 51 [(0, .ref 0), (2, .int x2), (3, .int x3), (4, .int x4)] [] I J R := by
  refine k_ld hK 3 dX11_back_51 rfl rfl rfl rfl ?_
  refine k_lt hK dX11_back_53 (tgt := 88) rfl (fun h1 => ?_) (fun h1 => ?_)
  · have hF := hF.1 h1
    refine k_bi hK dX11_back_88 cb_m2 ?_
    exact k_iret hK dX11_back_90 rfl rfl (done_0 rfl rfl) (qC_i hF)
  · have hF := hF.2 h1
    refine k_ld hK 0 dX11_back_56 rfl rfl rfl rfl ?_
    refine k_gR hK dX11_back_57 lf_X11_43 rfl (sc_0 hs) (sf_0_8 hs) ?_
    refine k_gR hK dX11_back_60 lf_X11_195 rfl (sc_17 hs) (sf_17_5 hs) ?_
    refine k_ld hK 3 dX11_back_63 rfl rfl rfl rfl ?_
    refine k_cVp hK dX11_back_65 (Or.inl lm_X11_248) (As := [.int x4]) (S := []) rfl (sc_30 hs) (Nat.le_of_ble_eq_true rfl) (fit_0 rfl rfl) rfl hF (fun b2 hF => ?_)
    show K _ _ [.int (b2i b2)] _ _ _
    refine k_beq hK dX11_back_68 (tgt := 82) rfl (fun h3 => ?_) (fun h3 => ?_)
    · have hF := hF.1 h3
      refine k_iinc hK 3 dX11_back_82 (v := (x4 + (-1))) rfl (Nat.le_of_ble_eq_true rfl) (congrArg (fun q => x4 + q) ci_m1) rfl ?_
      refine k_goto hK dX11_back_85 (tgt := 51) rfl ?_
      exact k_sub hK [1, 2, 3, 0] rfl hF
    · have hF := hF.2 h3
      refine k_ld hK 2 dX11_back_71 rfl rfl rfl rfl ?_
      refine k_ld hK 1 dX11_back_72 rfl rfl rfl rfl ?_
      refine k_cne hK dX11_back_73 (tgt := 79) rfl (fun h4 => ?_) (fun h4 => ?_)
      · have hF := hF.1 h4
        refine k_iinc hK 2 dX11_back_79 (v := (x3 + 1)) rfl (Nat.le_of_ble_eq_true rfl) (congrArg (fun q => x3 + q) ci_1) rfl ?_
        refine k_iinc hK 3 dX11_back_82 (v := (x4 + (-1))) rfl (Nat.le_of_ble_eq_true rfl) (congrArg (fun q => x4 + q) ci_m1) rfl ?_
        refine k_goto hK dX11_back_85 (tgt := 51) rfl ?_
        exact k_sub hK [2, 3, 1, 0] rfl hF
      · have hF := hF.2 h4
        refine k_ld hK 3 dX11_back_76 rfl rfl rfl rfl ?_
        exact k_iret hK dX11_back_78 rfl rfl (done_0 rfl rfl) (qC_i hF)
set_option maxHeartbeats 4000000 in
theorem g_X11_cost_0 {d : Nat} {K : KT} {Q : Int32 → HI → Prop} {I : HI} {J : HJ} {R : HR} {x1 : Int32} {x2 : Int32} (hK : am_R M_X11_cost (am_W d) none R (qC fi J R Q) K) (hs : Stat R)  (hF : ((¬ x1 = 0 → ((¬ x1 = 1 → Q (-1) I) ∧ (x1 = 1 → Wp fb d M_X11_hasOut [.ref 0, .int x2] I J R (fun b3 => ((b3 = false → Q (-1) I) ∧ (b3 = true → Wc fi d M_X11_costBackward [.ref 0, .int x2] I J R (fun r5 I6 => Q r5 I6))))))) ∧ (x1 = 0 → Wp fb d M_X11_hasInput [.ref 0, .int x2] I J R (fun b7 => ((b7 = false → ((¬ x1 = 1 → Q (-1) I) ∧ (x1 = 1 → Wp fb d M_X11_hasOut [.ref 0, .int x2] I J R (fun b10 => ((b10 = false → Q (-1) I) ∧ (b10 = true → Wc fi d M_X11_costBackward [.ref 0, .int x2] I J R (fun r12 I13 => Q r12 I13))))))) ∧ (b7 = true → Wp fi d M_X11_costForward [.ref 0, .int (1 <<< ((x2 : Int32) &&& 31) : Int32)] I J R (fun r14 => Q r14 I))))))) : K 0 [(0, .ref 0), (1, .int x1), (2, .int x2)] [] I J R := by
  refine k_ld hK 1 dX11_cost_0 rfl rfl rfl rfl ?_
  refine k_ne hK dX11_cost_1 (tgt := 20) rfl (fun h1 => ?_) (fun h1 => ?_)
  · have hF := hF.1 h1
    refine k_ld hK 1 dX11_cost_20 rfl rfl rfl rfl ?_
    refine k_ic hK dX11_cost_21 ci_1 ?_
    refine k_cne hK dX11_cost_22 (tgt := 39) rfl (fun h2 => ?_) (fun h2 => ?_)
    · have hF := hF.1 h2
      refine k_ic hK dX11_cost_39 ci_m1 ?_
      exact k_iret hK dX11_cost_40 rfl rfl (done_0 rfl rfl) (qC_i hF)
    · have hF := hF.2 h2
      refine k_ld hK 0 dX11_cost_25 rfl rfl rfl rfl ?_
      refine k_ld hK 2 dX11_cost_26 rfl rfl rfl rfl ?_
      refine k_cVp hK dX11_cost_27 (Or.inl lm_X11_251) (As := [.int x2]) (S := []) rfl (sc_0 hs) (Nat.le_of_ble_eq_true rfl) (fit_0 rfl rfl) rfl hF (fun b3 hF => ?_)
      show K _ _ [.int (b2i b3)] _ _ _
      refine k_beq hK dX11_cost_30 (tgt := 39) rfl (fun h4 => ?_) (fun h4 => ?_)
      · have hF := hF.1 h4
        refine k_ic hK dX11_cost_39 ci_m1 ?_
        exact k_iret hK dX11_cost_40 rfl rfl (done_0 rfl rfl) (qC_i hF)
      · have hF := hF.2 h4
        refine k_ld hK 0 dX11_cost_33 rfl rfl rfl rfl ?_
        refine k_ld hK 2 dX11_cost_34 rfl rfl rfl rfl ?_
        refine k_cVc hK dX11_cost_35 (Or.inl lm_X11_324) (As := [.int x2]) (S := []) rfl (sc_0 hs) (Nat.le_of_ble_eq_true rfl) (fit_0 rfl rfl) rfl hF (fun r5 I6 hF => ?_)
        show K _ _ [.int r5] _ _ _
        exact k_iret hK dX11_cost_38 rfl rfl (done_0 rfl rfl) (qC_i hF)
  · have hF := hF.2 h1
    refine k_ld hK 0 dX11_cost_4 rfl rfl rfl rfl ?_
    refine k_ld hK 2 dX11_cost_5 rfl rfl rfl rfl ?_
    refine k_cVp hK dX11_cost_6 (Or.inl lm_X11_106) (As := [.int x2]) (S := []) rfl (sc_0 hs) (Nat.le_of_ble_eq_true rfl) (fit_0 rfl rfl) rfl hF (fun b7 hF => ?_)
    show K _ _ [.int (b2i b7)] _ _ _
    refine k_beq hK dX11_cost_9 (tgt := 20) rfl (fun h8 => ?_) (fun h8 => ?_)
    · have hF := hF.1 h8
      refine k_ld hK 1 dX11_cost_20 rfl rfl rfl rfl ?_
      refine k_ic hK dX11_cost_21 ci_1 ?_
      refine k_cne hK dX11_cost_22 (tgt := 39) rfl (fun h9 => ?_) (fun h9 => ?_)
      · have hF := hF.1 h9
        refine k_ic hK dX11_cost_39 ci_m1 ?_
        exact k_iret hK dX11_cost_40 rfl rfl (done_0 rfl rfl) (qC_i hF)
      · have hF := hF.2 h9
        refine k_ld hK 0 dX11_cost_25 rfl rfl rfl rfl ?_
        refine k_ld hK 2 dX11_cost_26 rfl rfl rfl rfl ?_
        refine k_cVp hK dX11_cost_27 (Or.inl lm_X11_251) (As := [.int x2]) (S := []) rfl (sc_0 hs) (Nat.le_of_ble_eq_true rfl) (fit_0 rfl rfl) rfl hF (fun b10 hF => ?_)
        show K _ _ [.int (b2i b10)] _ _ _
        refine k_beq hK dX11_cost_30 (tgt := 39) rfl (fun h11 => ?_) (fun h11 => ?_)
        · have hF := hF.1 h11
          refine k_ic hK dX11_cost_39 ci_m1 ?_
          exact k_iret hK dX11_cost_40 rfl rfl (done_0 rfl rfl) (qC_i hF)
        · have hF := hF.2 h11
          refine k_ld hK 0 dX11_cost_33 rfl rfl rfl rfl ?_
          refine k_ld hK 2 dX11_cost_34 rfl rfl rfl rfl ?_
          refine k_cVc hK dX11_cost_35 (Or.inl lm_X11_324) (As := [.int x2]) (S := []) rfl (sc_0 hs) (Nat.le_of_ble_eq_true rfl) (fit_0 rfl rfl) rfl hF (fun r12 I13 hF => ?_)
          show K _ _ [.int r12] _ _ _
          exact k_iret hK dX11_cost_38 rfl rfl (done_0 rfl rfl) (qC_i hF)
    · have hF := hF.2 h8
      refine k_ld hK 0 dX11_cost_12 rfl rfl rfl rfl ?_
      refine k_ic hK dX11_cost_13 ci_1 ?_
      refine k_ld hK 2 dX11_cost_14 rfl rfl rfl rfl ?_
      refine k_op hK dX11_cost_15 rfl rfl ?_
      refine k_cVp hK dX11_cost_16 (Or.inl lm_X11_321) (As := [.int (1 <<< ((x2 : Int32) &&& 31) : Int32)]) (S := []) rfl (sc_0 hs) (Nat.le_of_ble_eq_true rfl) (fit_0 rfl rfl) rfl hF (fun r14 hF => ?_)
      show K _ _ [.int r14] _ _ _
      exact k_iret hK dX11_cost_19 rfl rfl (done_0 rfl rfl) (qC_i hF)
theorem e_X11_cost {d : Nat} {Q : Int32 → HI → Prop} {I : HI} {J : HJ} {R : HR} {x1 : Int32} {x2 : Int32} (hs : Stat R)  (hF : ((¬ x1 = 0 → ((¬ x1 = 1 → Q (-1) I) ∧ (x1 = 1 → Wp fb d M_X11_hasOut [.ref 0, .int x2] I J R (fun b3 => ((b3 = false → Q (-1) I) ∧ (b3 = true → Wc fi d M_X11_costBackward [.ref 0, .int x2] I J R (fun r5 I6 => Q r5 I6))))))) ∧ (x1 = 0 → Wp fb d M_X11_hasInput [.ref 0, .int x2] I J R (fun b7 => ((b7 = false → ((¬ x1 = 1 → Q (-1) I) ∧ (x1 = 1 → Wp fb d M_X11_hasOut [.ref 0, .int x2] I J R (fun b10 => ((b10 = false → Q (-1) I) ∧ (b10 = true → Wc fi d M_X11_costBackward [.ref 0, .int x2] I J R (fun r12 I13 => Q r12 I13))))))) ∧ (b7 = true → Wp fi d M_X11_costForward [.ref 0, .int (1 <<< ((x2 : Int32) &&& 31) : Int32)] I J R (fun r14 => Q r14 I))))))) : Wc fi (d + 1) M_X11_cost [.ref 0, .int x1, .int x2] I J R Q := ⟨Nat.le_of_ble_eq_true rfl, fun K hK => g_X11_cost_0 hK hs hF⟩
set_option maxHeartbeats 4000000 in
theorem g_X11_costForward_0 {d : Nat} {K : KT} {Q : Int32 → Prop} {I : HI} {J : HJ} {R : HR} {x1 : Int32} (hK : am_R M_X11_costForward (am_W d) none R (qP fi I J R Q) K) (hs : Stat R)  (hF : K 4 [(0, .ref 0), (1, .int x1), (2, .int 0), (3, .int 0)] [] I J R) : K 0 [(0, .ref 0), (1, .int x1)] [] I J R := by
  refine k_ic hK dX11_costForward_0 ci_0 ?_
  refine k_st hK dX11_costForward_1 rfl rfl rfl (Nat.le_of_ble_eq_true rfl) rfl ?_
  refine k_ic hK dX11_costForward_2 ci_0 ?_
  refine k_st hK dX11_costForward_3 rfl rfl rfl (Nat.le_of_ble_eq_true rfl) rfl ?_
  exact k_sub hK [2, 3, 1, 0] rfl hF
set_option maxHeartbeats 4000000 in
theorem g_X11_costForward_4 {d : Nat} {K : KT} {Q : Int32 → Prop} {I : HI} {J : HJ} {R : HR} {x1 : Int32} {x2 : Int32} {x3 : Int32} (hK : am_R M_X11_costForward (am_W d) none R (qP fi I J R Q) K) (hs : Stat R)  (hF : (((I 30 0) ≤ x3 → Q x2) ∧ (¬ (I 30 0) ≤ x3 → Wp fi d M_X9_costOf [.ref 30, .int x3, .int x1] I J R (fun r2 => K 4 [(0, .ref 0), (1, .int x1), (2, .int (x2 + r2)), (3, .int (x3 + 1))] [] I J R)))) : K 4 [(0, .ref 0), (1, .int x1), (2, .int x2), (3, .int x3)] [] I J R := by
  refine k_ld hK 3 dX11_costForward_4 rfl rfl rfl rfl ?_
  refine k_ld hK 0 dX11_costForward_5 rfl rfl rfl rfl ?_
  refine k_gR hK dX11_costForward_6 lf_X11_43 rfl (sc_0 hs) (sf_0_8 hs) ?_
  refine k_gR hK dX11_costForward_9 lf_X11_195 rfl (sc_17 hs) (sf_17_5 hs) ?_
  refine k_gI hK dX11_costForward_12 lf_X11_199 rfl (sc_30 hs) rfl ?_
  refine k_cge hK dX11_costForward_15 (tgt := 39) rfl (fun h1 => ?_) (fun h1 => ?_)
  · have hF := hF.1 h1
    refine k_ld hK 2 dX11_costForward_39 rfl rfl rfl rfl ?_
    exact k_iret hK dX11_costForward_40 rfl rfl (done_0 rfl rfl) (qP_i hF)
  · have hF := hF.2 h1
    refine k_ld hK 2 dX11_costForward_18 rfl rfl rfl rfl ?_
    refine k_ld hK 0 dX11_costForward_19 rfl rfl rfl rfl ?_
    refine k_gR hK dX11_costForward_20 lf_X11_43 rfl (sc_0 hs) (sf_0_8 hs) ?_
    refine k_gR hK dX11_costForward_23 lf_X11_195 rfl (sc_17 hs) (sf_17_5 hs) ?_
    refine k_ld hK 3 dX11_costForward_26 rfl rfl rfl rfl ?_
    refine k_ld hK 1 dX11_costForward_27 rfl rfl rfl rfl ?_
    refine k_cVp hK dX11_costForward_28 (Or.inl lm_X11_327) (As := [.int x3, .int x1]) (S := [.int x2]) rfl (sc_30 hs) (Nat.le_of_ble_eq_true rfl) (fit_0 rfl rfl) rfl hF (fun r2 hF => ?_)
    show K _ _ [.int r2, .int x2] _ _ _
    refine k_op hK dX11_costForward_31 rfl rfl ?_
    refine k_st hK dX11_costForward_32 rfl rfl rfl (Nat.le_of_ble_eq_true rfl) rfl ?_
    refine k_iinc hK 3 dX11_costForward_33 (v := (x3 + 1)) rfl (Nat.le_of_ble_eq_true rfl) (congrArg (fun q => x3 + q) ci_1) rfl ?_
    refine k_goto hK dX11_costForward_36 (tgt := 4) rfl ?_
    exact k_sub hK [2, 3, 1, 0] rfl hF
set_option maxHeartbeats 4000000 in
theorem g_X11_costBackward_0 {d : Nat} {K : KT} {Q : Int32 → HI → Prop} {I : HI} {J : HJ} {R : HR} {x1 : Int32} (hK : am_R M_X11_costBackward (am_W d) none R (qC fi J R Q) K) (hs : Stat R)  (hF : Wp fi d M_X8_sourceAt [.ref 27, .int x1] I J R (fun r1 => Wc fv d M_X9_markBack [.ref 30, .int r1] I J R (fun u2 I3 => K 29 [(0, .ref 0), (2, .int 15), (3, .int 0), (4, .int 0)] [] I3 J R))) : K 0 [(0, .ref 0), (1, .int x1)] [] I J R := by
  refine k_bi hK dX11_costBackward_0 cb_15 ?_
  refine k_st hK dX11_costBackward_2 rfl rfl rfl (Nat.le_of_ble_eq_true rfl) rfl ?_
  refine k_ld hK 1 dX11_costBackward_3 rfl rfl rfl rfl ?_
  refine k_gR hK dX11_costBackward_4 lf_X11_43 rfl (sc_0 hs) (sf_0_8 hs) ?_
  refine k_gR hK dX11_costBackward_7 lf_X11_195 rfl (sc_17 hs) (sf_17_5 hs) ?_
  refine k_ld hK 1 dX11_costBackward_10 rfl rfl rfl rfl ?_
  refine k_gR hK dX11_costBackward_11 lf_X11_43 rfl (sc_0 hs) (sf_0_8 hs) ?_
  refine k_gR hK dX11_costBackward_14 lf_X11_172 rfl (sc_17 hs) (sf_17_4 hs) ?_
  refine k_ld hK 2 dX11_costBackward_17 rfl rfl rfl rfl ?_
  refine k_cVp hK dX11_costBackward_18 (Or.inl lm_X11_183) (As := [.int x1]) (S := [.ref 30]) rfl (sc_27 hs) (Nat.le_of_ble_eq_true rfl) (fit_0 rfl rfl) rfl hF (fun r1 hF => ?_)
  show K _ _ [.int r1, .ref 30] _ _ _
  refine k_cVc hK dX11_costBackward_21 (Or.inl lm_X11_318) (As := [.int r1]) (S := []) rfl (sc_30 hs) (Nat.le_of_ble_eq_true rfl) (fit_0 rfl rfl) rfl hF (fun u2 I3 hF => ?_)
  show K _ _ [] _ _ _
  refine k_ic hK dX11_costBackward_24 ci_0 ?_
  refine k_st hK dX11_costBackward_25 rfl rfl rfl (Nat.le_of_ble_eq_true rfl) rfl ?_
  refine k_ic hK dX11_costBackward_26 ci_0 ?_
  refine k_st hK dX11_costBackward_27 rfl rfl rfl (Nat.le_of_ble_eq_true rfl) rfl ?_
  exact k_sub hK [3, 2, 1, 0] rfl hF
set_option maxHeartbeats 4000000 in
theorem g_X11_costBackward_29 {d : Nat} {K : KT} {Q : Int32 → HI → Prop} {I : HI} {J : HJ} {R : HR} {x2 : Int32} {x3 : Int32} {x4 : Int32} (hK : am_R M_X11_costBackward (am_W d) none R (qC fi J R Q) K) (hs : Stat R)  (hF : (((I 30 0) ≤ x4 → Q x3 I) ∧ (¬ (I 30 0) ≤ x4 → Wp fb d M_X9_isMarked [.ref 30, .int x4] I J R (fun b2 => ((b2 = false → K 29 [(0, .ref 0), (2, .int x2), (3, .int x3), (4, .int (x4 + 1))] [] I J R) ∧ (b2 = true → Wp fi d M_X9_costOf [.ref 30, .int x4, .int x2] I J R (fun r4 => K 29 [(0, .ref 0), (2, .int x2), (3, .int (x3 + r4)), (4, .int (x4 + 1))] [] I J R))))))) : K 29 [(0, .ref 0), (2, .int x2), (3, .int x3), (4, .int x4)] [] I J R := by
  refine k_ld hK 3 dX11_costBackward_29 rfl rfl rfl rfl ?_
  refine k_ld hK 0 dX11_costBackward_31 rfl rfl rfl rfl ?_
  refine k_gR hK dX11_costBackward_32 lf_X11_43 rfl (sc_0 hs) (sf_0_8 hs) ?_
  refine k_gR hK dX11_costBackward_35 lf_X11_195 rfl (sc_17 hs) (sf_17_5 hs) ?_
  refine k_gI hK dX11_costBackward_38 lf_X11_199 rfl (sc_30 hs) rfl ?_
  refine k_cge hK dX11_costBackward_41 (tgt := 81) rfl (fun h1 => ?_) (fun h1 => ?_)
  · have hF := hF.1 h1
    refine k_ld hK 2 dX11_costBackward_81 rfl rfl rfl rfl ?_
    exact k_iret hK dX11_costBackward_82 rfl rfl (done_0 rfl rfl) (qC_i hF)
  · have hF := hF.2 h1
    refine k_ld hK 0 dX11_costBackward_44 rfl rfl rfl rfl ?_
    refine k_gR hK dX11_costBackward_45 lf_X11_43 rfl (sc_0 hs) (sf_0_8 hs) ?_
    refine k_gR hK dX11_costBackward_48 lf_X11_195 rfl (sc_17 hs) (sf_17_5 hs) ?_
    refine k_ld hK 3 dX11_costBackward_51 rfl rfl rfl rfl ?_
    refine k_cVp hK dX11_costBackward_53 (Or.inl lm_X11_248) (As := [.int x4]) (S := []) rfl (sc_30 hs) (Nat.le_of_ble_eq_true rfl) (fit_0 rfl rfl) rfl hF (fun b2 hF => ?_)
    show K _ _ [.int (b2i b2)] _ _ _
    refine k_beq hK dX11_costBackward_56 (tgt := 75) rfl (fun h3 => ?_) (fun h3 => ?_)
    · have hF := hF.1 h3
      refine k_iinc hK 3 dX11_costBackward_75 (v := (x4 + 1)) rfl (Nat.le_of_ble_eq_true rfl) (congrArg (fun q => x4 + q) ci_1) rfl ?_
      refine k_goto hK dX11_costBackward_78 (tgt := 29) rfl ?_
      exact k_sub hK [1, 2, 3, 0] rfl hF
    · have hF := hF.2 h3
      refine k_ld hK 2 dX11_costBackward_59 rfl rfl rfl rfl ?_
      refine k_ld hK 0 dX11_costBackward_60 rfl rfl rfl rfl ?_
      refine k_gR hK dX11_costBackward_61 lf_X11_43 rfl (sc_0 hs) (sf_0_8 hs) ?_
      refine k_gR hK dX11_costBackward_64 lf_X11_195 rfl (sc_17 hs) (sf_17_5 hs) ?_
      refine k_ld hK 3 dX11_costBackward_67 rfl rfl rfl rfl ?_
      refine k_ld hK 1 dX11_costBackward_69 rfl rfl rfl rfl ?_
      refine k_cVp hK dX11_costBackward_70 (Or.inl lm_X11_327) (As := [.int x4, .int x2]) (S := [.int x3]) rfl (sc_30 hs) (Nat.le_of_ble_eq_true rfl) (fit_0 rfl rfl) rfl hF (fun r4 hF => ?_)
      show K _ _ [.int r4, .int x3] _ _ _
      refine k_op hK dX11_costBackward_73 rfl rfl ?_
      refine k_st hK dX11_costBackward_74 rfl rfl rfl (Nat.le_of_ble_eq_true rfl) rfl ?_
      refine k_iinc hK 3 dX11_costBackward_75 (v := (x4 + 1)) rfl (Nat.le_of_ble_eq_true rfl) (congrArg (fun q => x4 + q) ci_1) rfl ?_
      refine k_goto hK dX11_costBackward_78 (tgt := 29) rfl ?_
      exact k_sub hK [2, 3, 1, 0] rfl hF
set_option maxHeartbeats 4000000 in
theorem g_X11_few_0 {d : Nat} {K : KT} {Q : Int32 → Prop} {I : HI} {J : HJ} {R : HR} {x1 : Int32} {x2 : Int32} (hK : am_R M_X11_few (am_W d) none R (qP fi I J R Q) K) (hs : Stat R)  (hF : ((x1 < 1 → Q (-1)) ∧ (¬ x1 < 1 → ((400 < x1 → Q (-1)) ∧ (¬ 400 < x1 → ((x2 < 0 → Q (-1)) ∧ (¬ x2 < 0 → ((x2 ≤ 20 → Wp fi d M_X10_fewest [.int x1, .int x2] I J R (fun r5 => Q r5)) ∧ (¬ x2 ≤ 20 → Q (-1)))))))))) : K 0 [(0, .ref 0), (1, .int x1), (2, .int x2)] [] I J R := by
  refine k_ld hK 1 dX11_few_0 rfl rfl rfl rfl ?_
  refine k_ic hK dX11_few_1 ci_1 ?_
  refine k_clt hK dX11_few_2 (tgt := 22) rfl (fun h1 => ?_) (fun h1 => ?_)
  · have hF := hF.1 h1
    refine k_ic hK dX11_few_22 ci_m1 ?_
    exact k_iret hK dX11_few_23 rfl rfl (done_0 rfl rfl) (qP_i hF)
  · have hF := hF.2 h1
    refine k_ld hK 1 dX11_few_5 rfl rfl rfl rfl ?_
    refine k_si hK dX11_few_6 cs_400 ?_
    refine k_cgt hK dX11_few_9 (tgt := 22) rfl (fun h2 => ?_) (fun h2 => ?_)
    · have hF := hF.1 h2
      refine k_ic hK dX11_few_22 ci_m1 ?_
      exact k_iret hK dX11_few_23 rfl rfl (done_0 rfl rfl) (qP_i hF)
    · have hF := hF.2 h2
      refine k_ld hK 2 dX11_few_12 rfl rfl rfl rfl ?_
      refine k_lt hK dX11_few_13 (tgt := 22) rfl (fun h3 => ?_) (fun h3 => ?_)
      · have hF := hF.1 h3
        refine k_ic hK dX11_few_22 ci_m1 ?_
        exact k_iret hK dX11_few_23 rfl rfl (done_0 rfl rfl) (qP_i hF)
      · have hF := hF.2 h3
        refine k_ld hK 2 dX11_few_16 rfl rfl rfl rfl ?_
        refine k_bi hK dX11_few_17 cb_20 ?_
        refine k_cle hK dX11_few_19 (tgt := 24) rfl (fun h4 => ?_) (fun h4 => ?_)
        · have hF := hF.1 h4
          refine k_ld hK 1 dX11_few_24 rfl rfl rfl rfl ?_
          refine k_ld hK 2 dX11_few_25 rfl rfl rfl rfl ?_
          refine k_cSp hK dX11_few_26 lm_X11_330 (As := [.int x1, .int x2]) (S := []) rfl (Nat.le_of_ble_eq_true rfl) (fit_0 rfl rfl) rfl hF (fun r5 hF => ?_)
          show K _ _ [.int r5] _ _ _
          exact k_iret hK dX11_few_29 rfl rfl (done_0 rfl rfl) (qP_i hF)
        · have hF := hF.2 h4
          refine k_ic hK dX11_few_22 ci_m1 ?_
          exact k_iret hK dX11_few_23 rfl rfl (done_0 rfl rfl) (qP_i hF)
theorem e_X11_few {d : Nat} {Q : Int32 → Prop} {I : HI} {J : HJ} {R : HR} {x1 : Int32} {x2 : Int32} (hs : Stat R)  (hF : ((x1 < 1 → Q (-1)) ∧ (¬ x1 < 1 → ((400 < x1 → Q (-1)) ∧ (¬ 400 < x1 → ((x2 < 0 → Q (-1)) ∧ (¬ x2 < 0 → ((x2 ≤ 20 → Wp fi d M_X10_fewest [.int x1, .int x2] I J R (fun r5 => Q r5)) ∧ (¬ x2 ≤ 20 → Q (-1)))))))))) : Wp fi (d + 1) M_X11_few [.ref 0, .int x1, .int x2] I J R Q := ⟨Nat.le_of_ble_eq_true rfl, fun K hK => g_X11_few_0 hK hs hF⟩
set_option maxHeartbeats 4000000 in
theorem g_X11_split_0 {d : Nat} {K : KT} {Q : Int32 → Prop} {I : HI} {J : HJ} {R : HR} {x1 : Int32} {x2 : Int32} (hK : am_R M_X11_split (am_W d) none R (qP fi I J R Q) K) (hs : Stat R)  (hF : ((x1 < 2 → Q (-1)) ∧ (¬ x1 < 2 → ((400 < x1 → Q (-1)) ∧ (¬ 400 < x1 → ((x2 < 1 → Q (-1)) ∧ (¬ x2 < 1 → ((x2 ≤ 20 → Wp fi d M_X10_firstCut [.int x1, .int x2] I J R (fun r5 => Q r5)) ∧ (¬ x2 ≤ 20 → Q (-1)))))))))) : K 0 [(0, .ref 0), (1, .int x1), (2, .int x2)] [] I J R := by
  refine k_ld hK 1 dX11_split_0 rfl rfl rfl rfl ?_
  refine k_ic hK dX11_split_1 ci_2 ?_
  refine k_clt hK dX11_split_2 (tgt := 23) rfl (fun h1 => ?_) (fun h1 => ?_)
  · have hF := hF.1 h1
    refine k_ic hK dX11_split_23 ci_m1 ?_
    exact k_iret hK dX11_split_24 rfl rfl (done_0 rfl rfl) (qP_i hF)
  · have hF := hF.2 h1
    refine k_ld hK 1 dX11_split_5 rfl rfl rfl rfl ?_
    refine k_si hK dX11_split_6 cs_400 ?_
    refine k_cgt hK dX11_split_9 (tgt := 23) rfl (fun h2 => ?_) (fun h2 => ?_)
    · have hF := hF.1 h2
      refine k_ic hK dX11_split_23 ci_m1 ?_
      exact k_iret hK dX11_split_24 rfl rfl (done_0 rfl rfl) (qP_i hF)
    · have hF := hF.2 h2
      refine k_ld hK 2 dX11_split_12 rfl rfl rfl rfl ?_
      refine k_ic hK dX11_split_13 ci_1 ?_
      refine k_clt hK dX11_split_14 (tgt := 23) rfl (fun h3 => ?_) (fun h3 => ?_)
      · have hF := hF.1 h3
        refine k_ic hK dX11_split_23 ci_m1 ?_
        exact k_iret hK dX11_split_24 rfl rfl (done_0 rfl rfl) (qP_i hF)
      · have hF := hF.2 h3
        refine k_ld hK 2 dX11_split_17 rfl rfl rfl rfl ?_
        refine k_bi hK dX11_split_18 cb_20 ?_
        refine k_cle hK dX11_split_20 (tgt := 25) rfl (fun h4 => ?_) (fun h4 => ?_)
        · have hF := hF.1 h4
          refine k_ld hK 1 dX11_split_25 rfl rfl rfl rfl ?_
          refine k_ld hK 2 dX11_split_26 rfl rfl rfl rfl ?_
          refine k_cSp hK dX11_split_27 lm_X11_333 (As := [.int x1, .int x2]) (S := []) rfl (Nat.le_of_ble_eq_true rfl) (fit_0 rfl rfl) rfl hF (fun r5 hF => ?_)
          show K _ _ [.int r5] _ _ _
          exact k_iret hK dX11_split_30 rfl rfl (done_0 rfl rfl) (qP_i hF)
        · have hF := hF.2 h4
          refine k_ic hK dX11_split_23 ci_m1 ?_
          exact k_iret hK dX11_split_24 rfl rfl (done_0 rfl rfl) (qP_i hF)
theorem e_X11_split {d : Nat} {Q : Int32 → Prop} {I : HI} {J : HJ} {R : HR} {x1 : Int32} {x2 : Int32} (hs : Stat R)  (hF : ((x1 < 2 → Q (-1)) ∧ (¬ x1 < 2 → ((400 < x1 → Q (-1)) ∧ (¬ 400 < x1 → ((x2 < 1 → Q (-1)) ∧ (¬ x2 < 1 → ((x2 ≤ 20 → Wp fi d M_X10_firstCut [.int x1, .int x2] I J R (fun r5 => Q r5)) ∧ (¬ x2 ≤ 20 → Q (-1)))))))))) : Wp fi (d + 1) M_X11_split [.ref 0, .int x1, .int x2] I J R Q := ⟨Nat.le_of_ble_eq_true rfl, fun K hK => g_X11_split_0 hK hs hF⟩
set_option maxHeartbeats 4000000 in
theorem g_X11_states_0 {d : Nat} {K : KT} {Q : Int32 → Prop} {I : HI} {J : HJ} {R : HR} {x1 : Int32} {x2 : Int32} (hK : am_R M_X11_states (am_W d) none R (qP fi I J R Q) K) (hs : Stat R)  (hF : ((x1 < 1 → Q (-1)) ∧ (¬ x1 < 1 → ((400 < x1 → Q (-1)) ∧ (¬ 400 < x1 → ((0 ≤ x2 → K 20 [(1, .int x1), (2, .int x2), (3, .int 0)] [] I J R) ∧ (¬ 0 ≤ x2 → Q (-1)))))))) : K 0 [(0, .ref 0), (1, .int x1), (2, .int x2)] [] I J R := by
  refine k_ld hK 1 dX11_states_0 rfl rfl rfl rfl ?_
  refine k_ic hK dX11_states_1 ci_1 ?_
  refine k_clt hK dX11_states_2 (tgt := 16) rfl (fun h1 => ?_) (fun h1 => ?_)
  · have hF := hF.1 h1
    refine k_ic hK dX11_states_16 ci_m1 ?_
    exact k_iret hK dX11_states_17 rfl rfl (done_0 rfl rfl) (qP_i hF)
  · have hF := hF.2 h1
    refine k_ld hK 1 dX11_states_5 rfl rfl rfl rfl ?_
    refine k_si hK dX11_states_6 cs_400 ?_
    refine k_cgt hK dX11_states_9 (tgt := 16) rfl (fun h2 => ?_) (fun h2 => ?_)
    · have hF := hF.1 h2
      refine k_ic hK dX11_states_16 ci_m1 ?_
      exact k_iret hK dX11_states_17 rfl rfl (done_0 rfl rfl) (qP_i hF)
    · have hF := hF.2 h2
      refine k_ld hK 2 dX11_states_12 rfl rfl rfl rfl ?_
      refine k_ge hK dX11_states_13 (tgt := 18) rfl (fun h3 => ?_) (fun h3 => ?_)
      · have hF := hF.1 h3
        refine k_ic hK dX11_states_18 ci_0 ?_
        refine k_st hK dX11_states_19 rfl rfl rfl (Nat.le_of_ble_eq_true rfl) rfl ?_
        exact k_sub hK [2, 3, 0] rfl hF
      · have hF := hF.2 h3
        refine k_ic hK dX11_states_16 ci_m1 ?_
        exact k_iret hK dX11_states_17 rfl rfl (done_0 rfl rfl) (qP_i hF)
set_option maxHeartbeats 4000000 in
theorem g_X11_states_20 {d : Nat} {K : KT} {Q : Int32 → Prop} {I : HI} {J : HJ} {R : HR} {x1 : Int32} {x2 : Int32} {x3 : Int32} (hK : am_R M_X11_states (am_W d) none R (qP fi I J R Q) K) (hs : Stat R)  (hF : ((20 < x3 → Q (-2)) ∧ (¬ 20 < x3 → Wp fi d M_X10_fewest [.int x1, .int x3] I J R (fun r2 => ((x2 < r2 → K 20 [(1, .int x1), (2, .int x2), (3, .int (x3 + 1))] [] I J R) ∧ (¬ x2 < r2 → Q x3)))))) : K 20 [(1, .int x1), (2, .int x2), (3, .int x3)] [] I J R := by
  refine k_ld hK 2 dX11_states_20 rfl rfl rfl rfl ?_
  refine k_bi hK dX11_states_21 cb_20 ?_
  refine k_cgt hK dX11_states_23 (tgt := 43) rfl (fun h1 => ?_) (fun h1 => ?_)
  · have hF := hF.1 h1
    refine k_bi hK dX11_states_43 cb_m2 ?_
    exact k_iret hK dX11_states_45 rfl rfl (done_0 rfl rfl) (qP_i hF)
  · have hF := hF.2 h1
    refine k_ld hK 0 dX11_states_26 rfl rfl rfl rfl ?_
    refine k_ld hK 2 dX11_states_27 rfl rfl rfl rfl ?_
    refine k_cSp hK dX11_states_28 lm_X11_330 (As := [.int x1, .int x3]) (S := []) rfl (Nat.le_of_ble_eq_true rfl) (fit_0 rfl rfl) rfl hF (fun r2 hF => ?_)
    show K _ _ [.int r2] _ _ _
    refine k_ld hK 1 dX11_states_31 rfl rfl rfl rfl ?_
    refine k_cgt hK dX11_states_32 (tgt := 37) rfl (fun h3 => ?_) (fun h3 => ?_)
    · have hF := hF.1 h3
      refine k_iinc hK 2 dX11_states_37 (v := (x3 + 1)) rfl (Nat.le_of_ble_eq_true rfl) (congrArg (fun q => x3 + q) ci_1) rfl ?_
      refine k_goto hK dX11_states_40 (tgt := 20) rfl ?_
      exact k_sub hK [1, 2, 0] rfl hF
    · have hF := hF.2 h3
      refine k_ld hK 2 dX11_states_35 rfl rfl rfl rfl ?_
      exact k_iret hK dX11_states_36 rfl rfl (done_0 rfl rfl) (qP_i hF)
set_option maxHeartbeats 4000000 in
theorem g_X11_action_0 {d : Nat} {K : KT} {Q : Int32 → HI → Prop} {I : HI} {J : HJ} {R : HR} {x1 : Int32} {x2 : Int32} {x3 : Int32} {x4 : Int32} (hK : am_R M_X11_action (am_W d) none R (qC fi J R Q) K) (hs : Stat R)  (hF : ((x1 < 1 → Q (-1) I) ∧ (¬ x1 < 1 → ((60 < x1 → Q (-1) I) ∧ (¬ 60 < x1 → ((x2 < 0 → Q (-1) I) ∧ (¬ x2 < 0 → ((20 < x2 → Q (-1) I) ∧ (¬ 20 < x2 → ((x3 < 0 → Q (-1) I) ∧ (¬ x3 < 0 → ((x4 < 0 → Q (-1) I) ∧ (¬ x4 < 0 → ((x4 ≤ 2 → Wc fv d M_X10_start [.ref 78, .int x3] I J R (fun u8 I9 => Wc fv d M_X10_lay [.ref 78, .int 0, .int x1, .int x2] I9 J R (fun u10 I11 => ((x3 < (I11 78 1) → ((¬ x4 = 0 → ((¬ x4 = 1 → Q (I11 78 7) I11) ∧ (x4 = 1 → Q (I11 78 6) I11))) ∧ (x4 = 0 → Q (I11 78 5) I11))) ∧ (¬ x3 < (I11 78 1) → Q (-2) I11))))) ∧ (¬ x4 ≤ 2 → Q (-1) I))))))))))))))) : K 0 [(0, .ref 0), (1, .int x1), (2, .int x2), (3, .int x3), (4, .int x4)] [] I J R := by
  refine k_ld hK 1 dX11_action_0 rfl rfl rfl rfl ?_
  refine k_ic hK dX11_action_1 ci_1 ?_
  refine k_clt hK dX11_action_2 (tgt := 36) rfl (fun h1 => ?_) (fun h1 => ?_)
  · have hF := hF.1 h1
    refine k_ic hK dX11_action_36 ci_m1 ?_
    exact k_iret hK dX11_action_37 rfl rfl (done_0 rfl rfl) (qC_i hF)
  · have hF := hF.2 h1
    refine k_ld hK 1 dX11_action_5 rfl rfl rfl rfl ?_
    refine k_bi hK dX11_action_6 cb_60 ?_
    refine k_cgt hK dX11_action_8 (tgt := 36) rfl (fun h2 => ?_) (fun h2 => ?_)
    · have hF := hF.1 h2
      refine k_ic hK dX11_action_36 ci_m1 ?_
      exact k_iret hK dX11_action_37 rfl rfl (done_0 rfl rfl) (qC_i hF)
    · have hF := hF.2 h2
      refine k_ld hK 2 dX11_action_11 rfl rfl rfl rfl ?_
      refine k_lt hK dX11_action_12 (tgt := 36) rfl (fun h3 => ?_) (fun h3 => ?_)
      · have hF := hF.1 h3
        refine k_ic hK dX11_action_36 ci_m1 ?_
        exact k_iret hK dX11_action_37 rfl rfl (done_0 rfl rfl) (qC_i hF)
      · have hF := hF.2 h3
        refine k_ld hK 2 dX11_action_15 rfl rfl rfl rfl ?_
        refine k_bi hK dX11_action_16 cb_20 ?_
        refine k_cgt hK dX11_action_18 (tgt := 36) rfl (fun h4 => ?_) (fun h4 => ?_)
        · have hF := hF.1 h4
          refine k_ic hK dX11_action_36 ci_m1 ?_
          exact k_iret hK dX11_action_37 rfl rfl (done_0 rfl rfl) (qC_i hF)
        · have hF := hF.2 h4
          refine k_ld hK 3 dX11_action_21 rfl rfl rfl rfl ?_
          refine k_lt hK dX11_action_22 (tgt := 36) rfl (fun h5 => ?_) (fun h5 => ?_)
          · have hF := hF.1 h5
            refine k_ic hK dX11_action_36 ci_m1 ?_
            exact k_iret hK dX11_action_37 rfl rfl (done_0 rfl rfl) (qC_i hF)
          · have hF := hF.2 h5
            refine k_ld hK 4 dX11_action_25 rfl rfl rfl rfl ?_
            refine k_lt hK dX11_action_27 (tgt := 36) rfl (fun h6 => ?_) (fun h6 => ?_)
            · have hF := hF.1 h6
              refine k_ic hK dX11_action_36 ci_m1 ?_
              exact k_iret hK dX11_action_37 rfl rfl (done_0 rfl rfl) (qC_i hF)
            · have hF := hF.2 h6
              refine k_ld hK 4 dX11_action_30 rfl rfl rfl rfl ?_
              refine k_ic hK dX11_action_32 ci_2 ?_
              refine k_cle hK dX11_action_33 (tgt := 38) rfl (fun h7 => ?_) (fun h7 => ?_)
              · have hF := hF.1 h7
                refine k_ld hK 0 dX11_action_38 rfl rfl rfl rfl ?_
                refine k_gR hK dX11_action_39 lf_X11_70 rfl (sc_0 hs) (sf_0_13 hs) ?_
                refine k_ld hK 3 dX11_action_42 rfl rfl rfl rfl ?_
                refine k_cVc hK dX11_action_43 (Or.inl lm_X11_336) (As := [.int x3]) (S := []) rfl (sc_78 hs) (Nat.le_of_ble_eq_true rfl) (fit_0 rfl rfl) rfl hF (fun u8 I9 hF => ?_)
                show K _ _ [] _ _ _
                refine k_ld hK 0 dX11_action_46 rfl rfl rfl rfl ?_
                refine k_gR hK dX11_action_47 lf_X11_70 rfl (sc_0 hs) (sf_0_13 hs) ?_
                refine k_ic hK dX11_action_50 ci_0 ?_
                refine k_ld hK 1 dX11_action_51 rfl rfl rfl rfl ?_
                refine k_ld hK 2 dX11_action_52 rfl rfl rfl rfl ?_
                refine k_cVc hK dX11_action_53 (Or.inr lm_X11_339) (As := [.int 0, .int x1, .int x2]) (S := []) rfl (sc_78 hs) (Nat.le_of_ble_eq_true rfl) (fit_0 rfl rfl) rfl hF (fun u10 I11 hF => ?_)
                show K _ _ [] _ _ _
                refine k_ld hK 3 dX11_action_56 rfl rfl rfl rfl ?_
                refine k_ld hK 0 dX11_action_57 rfl rfl rfl rfl ?_
                refine k_gR hK dX11_action_58 lf_X11_70 rfl (sc_0 hs) (sf_0_13 hs) ?_
                refine k_gI hK dX11_action_61 lf_X11_342 rfl (sc_78 hs) rfl ?_
                refine k_clt hK dX11_action_64 (tgt := 70) rfl (fun h12 => ?_) (fun h12 => ?_)
                · have hF := hF.1 h12
                  refine k_ld hK 4 dX11_action_70 rfl rfl rfl rfl ?_
                  refine k_ne hK dX11_action_72 (tgt := 85) rfl (fun h13 => ?_) (fun h13 => ?_)
                  · have hF := hF.1 h13
                    refine k_ld hK 4 dX11_action_85 rfl rfl rfl rfl ?_
                    refine k_ic hK dX11_action_87 ci_1 ?_
                    refine k_cne hK dX11_action_88 (tgt := 101) rfl (fun h14 => ?_) (fun h14 => ?_)
                    · have hF := hF.1 h14
                      refine k_ld hK 0 dX11_action_101 rfl rfl rfl rfl ?_
                      refine k_gR hK dX11_action_102 lf_X11_70 rfl (sc_0 hs) (sf_0_13 hs) ?_
                      refine k_gI hK dX11_action_105 lf_X11_348 rfl (sc_78 hs) rfl ?_
                      exact k_iret hK dX11_action_108 rfl rfl (done_0 rfl rfl) (qC_i hF)
                    · have hF := hF.2 h14
                      refine k_ld hK 0 dX11_action_91 rfl rfl rfl rfl ?_
                      refine k_gR hK dX11_action_92 lf_X11_70 rfl (sc_0 hs) (sf_0_13 hs) ?_
                      refine k_gI hK dX11_action_95 lf_X11_345 rfl (sc_78 hs) rfl ?_
                      refine k_goto hK dX11_action_98 (tgt := 108) rfl ?_
                      exact k_iret hK dX11_action_108 rfl rfl (done_0 rfl rfl) (qC_i hF)
                  · have hF := hF.2 h13
                    refine k_ld hK 0 dX11_action_75 rfl rfl rfl rfl ?_
                    refine k_gR hK dX11_action_76 lf_X11_70 rfl (sc_0 hs) (sf_0_13 hs) ?_
                    refine k_gI hK dX11_action_79 lf_X11_343 rfl (sc_78 hs) rfl ?_
                    refine k_goto hK dX11_action_82 (tgt := 108) rfl ?_
                    exact k_iret hK dX11_action_108 rfl rfl (done_0 rfl rfl) (qC_i hF)
                · have hF := hF.2 h12
                  refine k_bi hK dX11_action_67 cb_m2 ?_
                  exact k_iret hK dX11_action_69 rfl rfl (done_0 rfl rfl) (qC_i hF)
              · have hF := hF.2 h7
                refine k_ic hK dX11_action_36 ci_m1 ?_
                exact k_iret hK dX11_action_37 rfl rfl (done_0 rfl rfl) (qC_i hF)
theorem e_X11_action {d : Nat} {Q : Int32 → HI → Prop} {I : HI} {J : HJ} {R : HR} {x1 : Int32} {x2 : Int32} {x3 : Int32} {x4 : Int32} (hs : Stat R)  (hF : ((x1 < 1 → Q (-1) I) ∧ (¬ x1 < 1 → ((60 < x1 → Q (-1) I) ∧ (¬ 60 < x1 → ((x2 < 0 → Q (-1) I) ∧ (¬ x2 < 0 → ((20 < x2 → Q (-1) I) ∧ (¬ 20 < x2 → ((x3 < 0 → Q (-1) I) ∧ (¬ x3 < 0 → ((x4 < 0 → Q (-1) I) ∧ (¬ x4 < 0 → ((x4 ≤ 2 → Wc fv d M_X10_start [.ref 78, .int x3] I J R (fun u8 I9 => Wc fv d M_X10_lay [.ref 78, .int 0, .int x1, .int x2] I9 J R (fun u10 I11 => ((x3 < (I11 78 1) → ((¬ x4 = 0 → ((¬ x4 = 1 → Q (I11 78 7) I11) ∧ (x4 = 1 → Q (I11 78 6) I11))) ∧ (x4 = 0 → Q (I11 78 5) I11))) ∧ (¬ x3 < (I11 78 1) → Q (-2) I11))))) ∧ (¬ x4 ≤ 2 → Q (-1) I))))))))))))))) : Wc fi (d + 1) M_X11_action [.ref 0, .int x1, .int x2, .int x3, .int x4] I J R Q := ⟨Nat.le_of_ble_eq_true rfl, fun K hK => g_X11_action_0 hK hs hF⟩
set_option maxHeartbeats 4000000 in
theorem g_X11_actions_0 {d : Nat} {K : KT} {Q : Int32 → HI → Prop} {I : HI} {J : HJ} {R : HR} {x1 : Int32} {x2 : Int32} {x3 : Int32} (hK : am_R M_X11_actions (am_W d) none R (qC fi J R Q) K) (hs : Stat R)  (hF : ((x1 < 1 → Q (-1) I) ∧ (¬ x1 < 1 → ((60 < x1 → Q (-1) I) ∧ (¬ 60 < x1 → ((x2 < 0 → Q (-1) I) ∧ (¬ x2 < 0 → ((20 < x2 → Q (-1) I) ∧ (¬ 20 < x2 → ((x3 < 0 → Q (-1) I) ∧ (¬ x3 < 0 → ((x3 ≤ 2 → Wc fv d M_X10_start [.ref 78, .int (-1)] I J R (fun u7 I8 => Wc fv d M_X10_lay [.ref 78, .int 0, .int x1, .int x2] I8 J R (fun u9 I10 => ((¬ x3 = 0 → ((¬ x3 = 1 → Q (I10 78 4) I10) ∧ (x3 = 1 → Q (I10 78 2) I10))) ∧ (x3 = 0 → Q (I10 78 1) I10))))) ∧ (¬ x3 ≤ 2 → Q (-1) I))))))))))))) : K 0 [(0, .ref 0), (1, .int x1), (2, .int x2), (3, .int x3)] [] I J R := by
  refine k_ld hK 1 dX11_actions_0 rfl rfl rfl rfl ?_
  refine k_ic hK dX11_actions_1 ci_1 ?_
  refine k_clt hK dX11_actions_2 (tgt := 30) rfl (fun h1 => ?_) (fun h1 => ?_)
  · have hF := hF.1 h1
    refine k_ic hK dX11_actions_30 ci_m1 ?_
    exact k_iret hK dX11_actions_31 rfl rfl (done_0 rfl rfl) (qC_i hF)
  · have hF := hF.2 h1
    refine k_ld hK 1 dX11_actions_5 rfl rfl rfl rfl ?_
    refine k_bi hK dX11_actions_6 cb_60 ?_
    refine k_cgt hK dX11_actions_8 (tgt := 30) rfl (fun h2 => ?_) (fun h2 => ?_)
    · have hF := hF.1 h2
      refine k_ic hK dX11_actions_30 ci_m1 ?_
      exact k_iret hK dX11_actions_31 rfl rfl (done_0 rfl rfl) (qC_i hF)
    · have hF := hF.2 h2
      refine k_ld hK 2 dX11_actions_11 rfl rfl rfl rfl ?_
      refine k_lt hK dX11_actions_12 (tgt := 30) rfl (fun h3 => ?_) (fun h3 => ?_)
      · have hF := hF.1 h3
        refine k_ic hK dX11_actions_30 ci_m1 ?_
        exact k_iret hK dX11_actions_31 rfl rfl (done_0 rfl rfl) (qC_i hF)
      · have hF := hF.2 h3
        refine k_ld hK 2 dX11_actions_15 rfl rfl rfl rfl ?_
        refine k_bi hK dX11_actions_16 cb_20 ?_
        refine k_cgt hK dX11_actions_18 (tgt := 30) rfl (fun h4 => ?_) (fun h4 => ?_)
        · have hF := hF.1 h4
          refine k_ic hK dX11_actions_30 ci_m1 ?_
          exact k_iret hK dX11_actions_31 rfl rfl (done_0 rfl rfl) (qC_i hF)
        · have hF := hF.2 h4
          refine k_ld hK 3 dX11_actions_21 rfl rfl rfl rfl ?_
          refine k_lt hK dX11_actions_22 (tgt := 30) rfl (fun h5 => ?_) (fun h5 => ?_)
          · have hF := hF.1 h5
            refine k_ic hK dX11_actions_30 ci_m1 ?_
            exact k_iret hK dX11_actions_31 rfl rfl (done_0 rfl rfl) (qC_i hF)
          · have hF := hF.2 h5
            refine k_ld hK 3 dX11_actions_25 rfl rfl rfl rfl ?_
            refine k_ic hK dX11_actions_26 ci_2 ?_
            refine k_cle hK dX11_actions_27 (tgt := 32) rfl (fun h6 => ?_) (fun h6 => ?_)
            · have hF := hF.1 h6
              refine k_ld hK 0 dX11_actions_32 rfl rfl rfl rfl ?_
              refine k_gR hK dX11_actions_33 lf_X11_70 rfl (sc_0 hs) (sf_0_13 hs) ?_
              refine k_ic hK dX11_actions_36 ci_m1 ?_
              refine k_cVc hK dX11_actions_37 (Or.inl lm_X11_336) (As := [.int (-1)]) (S := []) rfl (sc_78 hs) (Nat.le_of_ble_eq_true rfl) (fit_0 rfl rfl) rfl hF (fun u7 I8 hF => ?_)
              show K _ _ [] _ _ _
              refine k_ld hK 0 dX11_actions_40 rfl rfl rfl rfl ?_
              refine k_gR hK dX11_actions_41 lf_X11_70 rfl (sc_0 hs) (sf_0_13 hs) ?_
              refine k_ic hK dX11_actions_44 ci_0 ?_
              refine k_ld hK 1 dX11_actions_45 rfl rfl rfl rfl ?_
              refine k_ld hK 2 dX11_actions_46 rfl rfl rfl rfl ?_
              refine k_cVc hK dX11_actions_47 (Or.inr lm_X11_339) (As := [.int 0, .int x1, .int x2]) (S := []) rfl (sc_78 hs) (Nat.le_of_ble_eq_true rfl) (fit_0 rfl rfl) rfl hF (fun u9 I10 hF => ?_)
              show K _ _ [] _ _ _
              refine k_ld hK 3 dX11_actions_50 rfl rfl rfl rfl ?_
              refine k_ne hK dX11_actions_51 (tgt := 64) rfl (fun h11 => ?_) (fun h11 => ?_)
              · have hF := hF.1 h11
                refine k_ld hK 3 dX11_actions_64 rfl rfl rfl rfl ?_
                refine k_ic hK dX11_actions_65 ci_1 ?_
                refine k_cne hK dX11_actions_66 (tgt := 79) rfl (fun h12 => ?_) (fun h12 => ?_)
                · have hF := hF.1 h12
                  refine k_ld hK 0 dX11_actions_79 rfl rfl rfl rfl ?_
                  refine k_gR hK dX11_actions_80 lf_X11_70 rfl (sc_0 hs) (sf_0_13 hs) ?_
                  refine k_gI hK dX11_actions_83 lf_X11_354 rfl (sc_78 hs) rfl ?_
                  exact k_iret hK dX11_actions_86 rfl rfl (done_0 rfl rfl) (qC_i hF)
                · have hF := hF.2 h12
                  refine k_ld hK 0 dX11_actions_69 rfl rfl rfl rfl ?_
                  refine k_gR hK dX11_actions_70 lf_X11_70 rfl (sc_0 hs) (sf_0_13 hs) ?_
                  refine k_gI hK dX11_actions_73 lf_X11_351 rfl (sc_78 hs) rfl ?_
                  refine k_goto hK dX11_actions_76 (tgt := 86) rfl ?_
                  exact k_iret hK dX11_actions_86 rfl rfl (done_0 rfl rfl) (qC_i hF)
              · have hF := hF.2 h11
                refine k_ld hK 0 dX11_actions_54 rfl rfl rfl rfl ?_
                refine k_gR hK dX11_actions_55 lf_X11_70 rfl (sc_0 hs) (sf_0_13 hs) ?_
                refine k_gI hK dX11_actions_58 lf_X11_342 rfl (sc_78 hs) rfl ?_
                refine k_goto hK dX11_actions_61 (tgt := 86) rfl ?_
                exact k_iret hK dX11_actions_86 rfl rfl (done_0 rfl rfl) (qC_i hF)
            · have hF := hF.2 h6
              refine k_ic hK dX11_actions_30 ci_m1 ?_
              exact k_iret hK dX11_actions_31 rfl rfl (done_0 rfl rfl) (qC_i hF)
theorem e_X11_actions {d : Nat} {Q : Int32 → HI → Prop} {I : HI} {J : HJ} {R : HR} {x1 : Int32} {x2 : Int32} {x3 : Int32} (hs : Stat R)  (hF : ((x1 < 1 → Q (-1) I) ∧ (¬ x1 < 1 → ((60 < x1 → Q (-1) I) ∧ (¬ 60 < x1 → ((x2 < 0 → Q (-1) I) ∧ (¬ x2 < 0 → ((20 < x2 → Q (-1) I) ∧ (¬ 20 < x2 → ((x3 < 0 → Q (-1) I) ∧ (¬ x3 < 0 → ((x3 ≤ 2 → Wc fv d M_X10_start [.ref 78, .int (-1)] I J R (fun u7 I8 => Wc fv d M_X10_lay [.ref 78, .int 0, .int x1, .int x2] I8 J R (fun u9 I10 => ((¬ x3 = 0 → ((¬ x3 = 1 → Q (I10 78 4) I10) ∧ (x3 = 1 → Q (I10 78 2) I10))) ∧ (x3 = 0 → Q (I10 78 1) I10))))) ∧ (¬ x3 ≤ 2 → Q (-1) I))))))))))))) : Wc fi (d + 1) M_X11_actions [.ref 0, .int x1, .int x2, .int x3] I J R Q := ⟨Nat.le_of_ble_eq_true rfl, fun K hK => g_X11_actions_0 hK hs hF⟩
set_option maxHeartbeats 4000000 in
theorem g_X11_fraction_0 {d : Nat} {K : KT} {Q : Int32 → Prop} {I : HI} {J : HJ} {R : HR} {x1 : Int32} {x2 : Int32} (hK : am_R M_X11_fraction (am_W d) none R (qP fi I J R Q) K) (hs : Stat R)  (hF : ((x1 < 0 → Q (-40000)) ∧ (¬ x1 < 0 → ((1000000007 ≤ x1 → Q (-40000)) ∧ (¬ 1000000007 ≤ x1 → ((x2 < 0 → Q (-40000)) ∧ (¬ x2 < 0 → ((x2 ≤ 1 → K 29 [(1, .int x1), (2, .int x2), (3, .int 0), (4, .int 1)] [] I J R) ∧ (¬ x2 ≤ 1 → Q (-40000)))))))))) : K 0 [(0, .ref 0), (1, .int x1), (2, .int x2)] [] I J R := by
  refine k_ld hK 1 dX11_fraction_0 rfl rfl rfl rfl ?_
  refine k_lt hK dX11_fraction_1 (tgt := 20) rfl (fun h1 => ?_) (fun h1 => ?_)
  · have hF := hF.1 h1
    refine k_ldcw hK dX11_fraction_20 lc_X11_358 ?_
    exact k_iret hK dX11_fraction_23 rfl rfl (done_0 rfl rfl) (qP_i hF)
  · have hF := hF.2 h1
    refine k_ld hK 1 dX11_fraction_4 rfl rfl rfl rfl ?_
    refine k_ldcw hK dX11_fraction_5 lc_X11_357 ?_
    refine k_cge hK dX11_fraction_8 (tgt := 20) rfl (fun h2 => ?_) (fun h2 => ?_)
    · have hF := hF.1 h2
      refine k_ldcw hK dX11_fraction_20 lc_X11_358 ?_
      exact k_iret hK dX11_fraction_23 rfl rfl (done_0 rfl rfl) (qP_i hF)
    · have hF := hF.2 h2
      refine k_ld hK 2 dX11_fraction_11 rfl rfl rfl rfl ?_
      refine k_lt hK dX11_fraction_12 (tgt := 20) rfl (fun h3 => ?_) (fun h3 => ?_)
      · have hF := hF.1 h3
        refine k_ldcw hK dX11_fraction_20 lc_X11_358 ?_
        exact k_iret hK dX11_fraction_23 rfl rfl (done_0 rfl rfl) (qP_i hF)
      · have hF := hF.2 h3
        refine k_ld hK 2 dX11_fraction_15 rfl rfl rfl rfl ?_
        refine k_ic hK dX11_fraction_16 ci_1 ?_
        refine k_cle hK dX11_fraction_17 (tgt := 24) rfl (fun h4 => ?_) (fun h4 => ?_)
        · have hF := hF.1 h4
          refine k_ic hK dX11_fraction_24 ci_0 ?_
          refine k_st hK dX11_fraction_25 rfl rfl rfl (Nat.le_of_ble_eq_true rfl) rfl ?_
          refine k_ic hK dX11_fraction_26 ci_1 ?_
          refine k_st hK dX11_fraction_27 rfl rfl rfl (Nat.le_of_ble_eq_true rfl) rfl ?_
          exact k_sub hK [3, 4, 1, 0] rfl hF
        · have hF := hF.2 h4
          refine k_ldcw hK dX11_fraction_20 lc_X11_358 ?_
          exact k_iret hK dX11_fraction_23 rfl rfl (done_0 rfl rfl) (qP_i hF)
set_option maxHeartbeats 4000000 in
theorem g_X11_fraction_29 {d : Nat} {K : KT} {Q : Int32 → Prop} {I : HI} {J : HJ} {R : HR} {x1 : Int32} {x2 : Int32} {x3 : Int32} {x4 : Int32} (hK : am_R M_X11_fraction (am_W d) none R (qP fi I J R Q) K) (hs : Stat R)  (hF : ((22360 < x4 → Q (-30000)) ∧ (¬ 22360 < x4 → Wp fi d M_X3_plus [.int x3, .int x1] I J R (fun r2 => Wp fi d M_X3_signed [.int r2] I J R (fun r3 => ((r3 < (-22360) → K 29 [(1, .int x1), (2, .int x2), (3, .int r2), (4, .int (x4 + 1))] [] I J R) ∧ (¬ r3 < (-22360) → ((22360 < r3 → K 29 [(1, .int x1), (2, .int x2), (3, .int r2), (4, .int (x4 + 1))] [] I J R) ∧ (¬ 22360 < r3 → ((¬ x2 = 0 → Q x4) ∧ (x2 = 0 → Q r3))))))))))) : K 29 [(1, .int x1), (2, .int x2), (3, .int x3), (4, .int x4)] [] I J R := by
  refine k_ld hK 3 dX11_fraction_29 rfl rfl rfl rfl ?_
  refine k_si hK dX11_fraction_31 cs_22360 ?_
  refine k_cgt hK dX11_fraction_34 (tgt := 83) rfl (fun h1 => ?_) (fun h1 => ?_)
  · have hF := hF.1 h1
    refine k_si hK dX11_fraction_83 cs_m30000 ?_
    exact k_iret hK dX11_fraction_86 rfl rfl (done_0 rfl rfl) (qP_i hF)
  · have hF := hF.2 h1
    refine k_ld hK 2 dX11_fraction_37 rfl rfl rfl rfl ?_
    refine k_ld hK 0 dX11_fraction_38 rfl rfl rfl rfl ?_
    refine k_cSp hK dX11_fraction_39 lm_X11_268 (As := [.int x3, .int x1]) (S := []) rfl (Nat.le_of_ble_eq_true rfl) (fit_0 rfl rfl) rfl hF (fun r2 hF => ?_)
    show K _ _ [.int r2] _ _ _
    refine k_st hK dX11_fraction_42 rfl rfl rfl (Nat.le_of_ble_eq_true rfl) rfl ?_
    refine k_ld hK 0 dX11_fraction_43 rfl rfl rfl rfl ?_
    refine k_cSp hK dX11_fraction_44 lm_X11_359 (As := [.int r2]) (S := []) rfl (Nat.le_of_ble_eq_true rfl) (fit_0 rfl rfl) rfl hF (fun r3 hF => ?_)
    show K _ _ [.int r3] _ _ _
    refine k_st hK dX11_fraction_47 rfl rfl rfl (Nat.le_of_ble_eq_true rfl) rfl ?_
    refine k_ld hK 0 dX11_fraction_49 rfl rfl rfl rfl ?_
    refine k_si hK dX11_fraction_51 cs_m22360 ?_
    refine k_clt hK dX11_fraction_54 (tgt := 77) rfl (fun h4 => ?_) (fun h4 => ?_)
    · have hF := hF.1 h4
      refine k_iinc hK 4 dX11_fraction_77 (v := (x4 + 1)) rfl (Nat.le_of_ble_eq_true rfl) (congrArg (fun q => x4 + q) ci_1) rfl ?_
      refine k_goto hK dX11_fraction_80 (tgt := 29) rfl ?_
      exact k_sub hK [3, 4, 2, 0] rfl hF
    · have hF := hF.2 h4
      refine k_ld hK 0 dX11_fraction_57 rfl rfl rfl rfl ?_
      refine k_si hK dX11_fraction_59 cs_22360 ?_
      refine k_cgt hK dX11_fraction_62 (tgt := 77) rfl (fun h5 => ?_) (fun h5 => ?_)
      · have hF := hF.1 h5
        refine k_iinc hK 4 dX11_fraction_77 (v := (x4 + 1)) rfl (Nat.le_of_ble_eq_true rfl) (congrArg (fun q => x4 + q) ci_1) rfl ?_
        refine k_goto hK dX11_fraction_80 (tgt := 29) rfl ?_
        exact k_sub hK [3, 4, 2, 0] rfl hF
      · have hF := hF.2 h5
        refine k_ld hK 3 dX11_fraction_65 rfl rfl rfl rfl ?_
        refine k_ne hK dX11_fraction_66 (tgt := 74) rfl (fun h6 => ?_) (fun h6 => ?_)
        · have hF := hF.1 h6
          refine k_ld hK 4 dX11_fraction_74 rfl rfl rfl rfl ?_
          exact k_iret hK dX11_fraction_76 rfl rfl (done_0 rfl rfl) (qP_i hF)
        · have hF := hF.2 h6
          refine k_ld hK 0 dX11_fraction_69 rfl rfl rfl rfl ?_
          refine k_goto hK dX11_fraction_71 (tgt := 76) rfl ?_
          exact k_iret hK dX11_fraction_76 rfl rfl (done_0 rfl rfl) (qP_i hF)
set_option maxHeartbeats 4000000 in
theorem g_X11_count_0 {d : Nat} {K : KT} {Q : Int32 → Prop} {I : HI} {J : HJ} {R : HR} {x1 : Int32} (hK : am_R M_X11_count (am_W d) none R (qP fi I J R Q) K) (hs : Stat R)  (hF : ((x1 = 0 → (∃ p2 : Nat, (R 0 5) = some p2 ∧ isX5 p2 ∧ Q (I p2 2))) ∧ (¬ x1 = 0 → ((x1 = 1 → (∃ p5 : Nat, (R 0 5) = some p5 ∧ isX5 p5 ∧ Q (I p5 3))) ∧ (¬ x1 = 1 → ((x1 = 2 → (∃ p8 : Nat, (R 0 5) = some p8 ∧ isX5 p8 ∧ Q (I p8 4))) ∧ (¬ x1 = 2 → ((x1 = 3 → (∃ p11 : Nat, (R 0 5) = some p11 ∧ isX5 p11 ∧ Q (I p11 5))) ∧ (¬ x1 = 3 → ((x1 = 4 → (∃ p14 : Nat, (R 0 5) = some p14 ∧ isX5 p14 ∧ Q (I p14 6))) ∧ (¬ x1 = 4 → ((x1 = 5 → (∃ p17 : Nat, (R 0 5) = some p17 ∧ isX5 p17 ∧ Q (I p17 1))) ∧ (¬ x1 = 5 → ((x1 = 6 → Q (I 0 1)) ∧ (¬ x1 = 6 → Q (-1)))))))))))))))) : K 0 [(0, .ref 0), (1, .int x1)] [] I J R := by
  refine k_ld hK 1 dX11_count_0 rfl rfl rfl rfl ?_
  refine k_tab hK dX11_count_1 (cs := [(0, 44), (1, 52), (2, 60), (3, 68), (4, 76), (5, 84), (6, 92)]) (td := 97) (by decide) (by decide) ?_
  refine swc (fun h1 => ?_) (fun h1 => ?_)
  · have hF := hF.1 h1
    refine k_ld hK 0 dX11_count_44 rfl rfl rfl rfl ?_
    obtain ⟨p2, e3, h_p2, hF⟩ := hF
    refine k_gR hK dX11_count_45 lf_X11_29 rfl (sc_0 hs) e3 ?_
    refine k_gI hK dX11_count_48 lf_X11_103 rfl (sk_X5_0 hs h_p2) rfl ?_
    exact k_iret hK dX11_count_51 rfl rfl (done_0 rfl rfl) (qP_i hF)
  have hF := hF.2 h1
  refine swc (fun h4 => ?_) (fun h4 => ?_)
  · have hF := hF.1 h4
    refine k_ld hK 0 dX11_count_52 rfl rfl rfl rfl ?_
    obtain ⟨p5, e6, h_p5, hF⟩ := hF
    refine k_gR hK dX11_count_53 lf_X11_29 rfl (sc_0 hs) e6 ?_
    refine k_gI hK dX11_count_56 lf_X11_266 rfl (sk_X5_0 hs h_p5) rfl ?_
    exact k_iret hK dX11_count_59 rfl rfl (done_0 rfl rfl) (qP_i hF)
  have hF := hF.2 h4
  refine swc (fun h7 => ?_) (fun h7 => ?_)
  · have hF := hF.1 h7
    refine k_ld hK 0 dX11_count_60 rfl rfl rfl rfl ?_
    obtain ⟨p8, e9, h_p8, hF⟩ := hF
    refine k_gR hK dX11_count_61 lf_X11_29 rfl (sc_0 hs) e9 ?_
    refine k_gI hK dX11_count_64 lf_X11_362 rfl (sk_X5_0 hs h_p8) rfl ?_
    exact k_iret hK dX11_count_67 rfl rfl (done_0 rfl rfl) (qP_i hF)
  have hF := hF.2 h7
  refine swc (fun h10 => ?_) (fun h10 => ?_)
  · have hF := hF.1 h10
    refine k_ld hK 0 dX11_count_68 rfl rfl rfl rfl ?_
    obtain ⟨p11, e12, h_p11, hF⟩ := hF
    refine k_gR hK dX11_count_69 lf_X11_29 rfl (sc_0 hs) e12 ?_
    refine k_gI hK dX11_count_72 lf_X11_149 rfl (sk_X5_0 hs h_p11) rfl ?_
    exact k_iret hK dX11_count_75 rfl rfl (done_0 rfl rfl) (qP_i hF)
  have hF := hF.2 h10
  refine swc (fun h13 => ?_) (fun h13 => ?_)
  · have hF := hF.1 h13
    refine k_ld hK 0 dX11_count_76 rfl rfl rfl rfl ?_
    obtain ⟨p14, e15, h_p14, hF⟩ := hF
    refine k_gR hK dX11_count_77 lf_X11_29 rfl (sc_0 hs) e15 ?_
    refine k_gI hK dX11_count_80 lf_X11_364 rfl (sk_X5_0 hs h_p14) rfl ?_
    exact k_iret hK dX11_count_83 rfl rfl (done_0 rfl rfl) (qP_i hF)
  have hF := hF.2 h13
  refine swc (fun h16 => ?_) (fun h16 => ?_)
  · have hF := hF.1 h16
    refine k_ld hK 0 dX11_count_84 rfl rfl rfl rfl ?_
    obtain ⟨p17, e18, h_p17, hF⟩ := hF
    refine k_gR hK dX11_count_85 lf_X11_29 rfl (sc_0 hs) e18 ?_
    refine k_gI hK dX11_count_88 lf_X11_125 rfl (sk_X5_0 hs h_p17) rfl ?_
    exact k_iret hK dX11_count_91 rfl rfl (done_0 rfl rfl) (qP_i hF)
  have hF := hF.2 h16
  refine swc (fun h19 => ?_) (fun h19 => ?_)
  · have hF := hF.1 h19
    refine k_ld hK 0 dX11_count_92 rfl rfl rfl rfl ?_
    refine k_gI hK dX11_count_93 lf_X11_77 rfl (sc_0 hs) rfl ?_
    exact k_iret hK dX11_count_96 rfl rfl (done_0 rfl rfl) (qP_i hF)
  have hF := hF.2 h19
  refine swn ?_
  refine k_ic hK dX11_count_97 ci_m1 ?_
  exact k_iret hK dX11_count_98 rfl rfl (done_0 rfl rfl) (qP_i hF)
theorem e_X11_count {d : Nat} {Q : Int32 → Prop} {I : HI} {J : HJ} {R : HR} {x1 : Int32} (hs : Stat R)  (hF : ((x1 = 0 → (∃ p2 : Nat, (R 0 5) = some p2 ∧ isX5 p2 ∧ Q (I p2 2))) ∧ (¬ x1 = 0 → ((x1 = 1 → (∃ p5 : Nat, (R 0 5) = some p5 ∧ isX5 p5 ∧ Q (I p5 3))) ∧ (¬ x1 = 1 → ((x1 = 2 → (∃ p8 : Nat, (R 0 5) = some p8 ∧ isX5 p8 ∧ Q (I p8 4))) ∧ (¬ x1 = 2 → ((x1 = 3 → (∃ p11 : Nat, (R 0 5) = some p11 ∧ isX5 p11 ∧ Q (I p11 5))) ∧ (¬ x1 = 3 → ((x1 = 4 → (∃ p14 : Nat, (R 0 5) = some p14 ∧ isX5 p14 ∧ Q (I p14 6))) ∧ (¬ x1 = 4 → ((x1 = 5 → (∃ p17 : Nat, (R 0 5) = some p17 ∧ isX5 p17 ∧ Q (I p17 1))) ∧ (¬ x1 = 5 → ((x1 = 6 → Q (I 0 1)) ∧ (¬ x1 = 6 → Q (-1)))))))))))))))) : Wp fi (d + 1) M_X11_count [.ref 0, .int x1] I J R Q := ⟨Nat.le_of_ble_eq_true rfl, fun K hK => g_X11_count_0 hK hs hF⟩
set_option maxHeartbeats 4000000 in
theorem g_X11_hasInput_0 {d : Nat} {K : KT} {Q : Bool → Prop} {I : HI} {J : HJ} {R : HR} {x1 : Int32} (hK : am_R M_X11_hasInput (am_W d) none R (qP fb I J R Q) K) (hs : Stat R)  (hF : ((x1 < 0 → Q false) ∧ (¬ x1 < 0 → (∃ p2 : Nat, (R 0 5) = some p2 ∧ isX5 p2 ∧ (((I p2 3) ≤ x1 → Q false) ∧ (¬ (I p2 3) ≤ x1 → ((4 ≤ x1 → Q false) ∧ (¬ 4 ≤ x1 → Q true)))))))) : K 0 [(0, .ref 0), (1, .int x1)] [] I J R := by
  refine k_ld hK 1 dX11_hasInput_0 rfl rfl rfl rfl ?_
  refine k_lt hK dX11_hasInput_1 (tgt := 24) rfl (fun h1 => ?_) (fun h1 => ?_)
  · have hF := hF.1 h1
    refine k_ic hK dX11_hasInput_24 ci_0 ?_
    exact k_iret (x := b2i false) hK dX11_hasInput_25 rfl (b2i_nar _) (done_0 rfl rfl) (qP_i hF)
  · have hF := hF.2 h1
    refine k_ld hK 1 dX11_hasInput_4 rfl rfl rfl rfl ?_
    refine k_ld hK 0 dX11_hasInput_5 rfl rfl rfl rfl ?_
    obtain ⟨p2, e3, h_p2, hF⟩ := hF
    refine k_gR hK dX11_hasInput_6 lf_X11_29 rfl (sc_0 hs) e3 ?_
    refine k_gI hK dX11_hasInput_9 lf_X11_266 rfl (sk_X5_0 hs h_p2) rfl ?_
    refine k_cge hK dX11_hasInput_12 (tgt := 24) rfl (fun h4 => ?_) (fun h4 => ?_)
    · have hF := hF.1 h4
      refine k_ic hK dX11_hasInput_24 ci_0 ?_
      exact k_iret (x := b2i false) hK dX11_hasInput_25 rfl (b2i_nar _) (done_0 rfl rfl) (qP_i hF)
    · have hF := hF.2 h4
      refine k_ld hK 1 dX11_hasInput_15 rfl rfl rfl rfl ?_
      refine k_ic hK dX11_hasInput_16 ci_4 ?_
      refine k_cge hK dX11_hasInput_17 (tgt := 24) rfl (fun h5 => ?_) (fun h5 => ?_)
      · have hF := hF.1 h5
        refine k_ic hK dX11_hasInput_24 ci_0 ?_
        exact k_iret (x := b2i false) hK dX11_hasInput_25 rfl (b2i_nar _) (done_0 rfl rfl) (qP_i hF)
      · have hF := hF.2 h5
        refine k_ic hK dX11_hasInput_20 ci_1 ?_
        refine k_goto hK dX11_hasInput_21 (tgt := 25) rfl ?_
        exact k_iret (x := b2i true) hK dX11_hasInput_25 rfl (b2i_nar _) (done_0 rfl rfl) (qP_i hF)
theorem e_X11_hasInput {d : Nat} {Q : Bool → Prop} {I : HI} {J : HJ} {R : HR} {x1 : Int32} (hs : Stat R)  (hF : ((x1 < 0 → Q false) ∧ (¬ x1 < 0 → (∃ p2 : Nat, (R 0 5) = some p2 ∧ isX5 p2 ∧ (((I p2 3) ≤ x1 → Q false) ∧ (¬ (I p2 3) ≤ x1 → ((4 ≤ x1 → Q false) ∧ (¬ 4 ≤ x1 → Q true)))))))) : Wp fb (d + 1) M_X11_hasInput [.ref 0, .int x1] I J R Q := ⟨Nat.le_of_ble_eq_true rfl, fun K hK => g_X11_hasInput_0 hK hs hF⟩
set_option maxHeartbeats 4000000 in
theorem g_X11_hasOut_0 {d : Nat} {K : KT} {Q : Bool → Prop} {I : HI} {J : HJ} {R : HR} {x1 : Int32} (hK : am_R M_X11_hasOut (am_W d) none R (qP fb I J R Q) K) (hs : Stat R)  (hF : ((x1 < 0 → Q false) ∧ (¬ x1 < 0 → (((I 27 2) ≤ x1 → Q false) ∧ (¬ (I 27 2) ≤ x1 → Q true))))) : K 0 [(0, .ref 0), (1, .int x1)] [] I J R := by
  refine k_ld hK 1 dX11_hasOut_0 rfl rfl rfl rfl ?_
  refine k_lt hK dX11_hasOut_1 (tgt := 22) rfl (fun h1 => ?_) (fun h1 => ?_)
  · have hF := hF.1 h1
    refine k_ic hK dX11_hasOut_22 ci_0 ?_
    exact k_iret (x := b2i false) hK dX11_hasOut_23 rfl (b2i_nar _) (done_0 rfl rfl) (qP_i hF)
  · have hF := hF.2 h1
    refine k_ld hK 1 dX11_hasOut_4 rfl rfl rfl rfl ?_
    refine k_ld hK 0 dX11_hasOut_5 rfl rfl rfl rfl ?_
    refine k_gR hK dX11_hasOut_6 lf_X11_43 rfl (sc_0 hs) (sf_0_8 hs) ?_
    refine k_gR hK dX11_hasOut_9 lf_X11_172 rfl (sc_17 hs) (sf_17_4 hs) ?_
    refine k_gI hK dX11_hasOut_12 lf_X11_175 rfl (sc_27 hs) rfl ?_
    refine k_cge hK dX11_hasOut_15 (tgt := 22) rfl (fun h2 => ?_) (fun h2 => ?_)
    · have hF := hF.1 h2
      refine k_ic hK dX11_hasOut_22 ci_0 ?_
      exact k_iret (x := b2i false) hK dX11_hasOut_23 rfl (b2i_nar _) (done_0 rfl rfl) (qP_i hF)
    · have hF := hF.2 h2
      refine k_ic hK dX11_hasOut_18 ci_1 ?_
      refine k_goto hK dX11_hasOut_19 (tgt := 23) rfl ?_
      exact k_iret (x := b2i true) hK dX11_hasOut_23 rfl (b2i_nar _) (done_0 rfl rfl) (qP_i hF)
theorem e_X11_hasOut {d : Nat} {Q : Bool → Prop} {I : HI} {J : HJ} {R : HR} {x1 : Int32} (hs : Stat R)  (hF : ((x1 < 0 → Q false) ∧ (¬ x1 < 0 → (((I 27 2) ≤ x1 → Q false) ∧ (¬ (I 27 2) ≤ x1 → Q true))))) : Wp fb (d + 1) M_X11_hasOut [.ref 0, .int x1] I J R Q := ⟨Nat.le_of_ble_eq_true rfl, fun K hK => g_X11_hasOut_0 hK hs hF⟩
set_option maxHeartbeats 4000000 in
theorem g_X11_hasEntry_0 {d : Nat} {K : KT} {Q : Bool → Prop} {I : HI} {J : HJ} {R : HR} {x1 : Int32} (hK : am_R M_X11_hasEntry (am_W d) none R (qP fb I J R Q) K) (hs : Stat R)  (hF : ((x1 < 0 → Q false) ∧ (¬ x1 < 0 → (((I 30 0) ≤ x1 → Q false) ∧ (¬ (I 30 0) ≤ x1 → ((400 ≤ x1 → Q false) ∧ (¬ 400 ≤ x1 → Q true))))))) : K 0 [(0, .ref 0), (1, .int x1)] [] I J R := by
  refine k_ld hK 1 dX11_hasEntry_0 rfl rfl rfl rfl ?_
  refine k_lt hK dX11_hasEntry_1 (tgt := 29) rfl (fun h1 => ?_) (fun h1 => ?_)
  · have hF := hF.1 h1
    refine k_ic hK dX11_hasEntry_29 ci_0 ?_
    exact k_iret (x := b2i false) hK dX11_hasEntry_30 rfl (b2i_nar _) (done_0 rfl rfl) (qP_i hF)
  · have hF := hF.2 h1
    refine k_ld hK 1 dX11_hasEntry_4 rfl rfl rfl rfl ?_
    refine k_ld hK 0 dX11_hasEntry_5 rfl rfl rfl rfl ?_
    refine k_gR hK dX11_hasEntry_6 lf_X11_43 rfl (sc_0 hs) (sf_0_8 hs) ?_
    refine k_gR hK dX11_hasEntry_9 lf_X11_195 rfl (sc_17 hs) (sf_17_5 hs) ?_
    refine k_gI hK dX11_hasEntry_12 lf_X11_199 rfl (sc_30 hs) rfl ?_
    refine k_cge hK dX11_hasEntry_15 (tgt := 29) rfl (fun h2 => ?_) (fun h2 => ?_)
    · have hF := hF.1 h2
      refine k_ic hK dX11_hasEntry_29 ci_0 ?_
      exact k_iret (x := b2i false) hK dX11_hasEntry_30 rfl (b2i_nar _) (done_0 rfl rfl) (qP_i hF)
    · have hF := hF.2 h2
      refine k_ld hK 1 dX11_hasEntry_18 rfl rfl rfl rfl ?_
      refine k_si hK dX11_hasEntry_19 cs_400 ?_
      refine k_cge hK dX11_hasEntry_22 (tgt := 29) rfl (fun h3 => ?_) (fun h3 => ?_)
      · have hF := hF.1 h3
        refine k_ic hK dX11_hasEntry_29 ci_0 ?_
        exact k_iret (x := b2i false) hK dX11_hasEntry_30 rfl (b2i_nar _) (done_0 rfl rfl) (qP_i hF)
      · have hF := hF.2 h3
        refine k_ic hK dX11_hasEntry_25 ci_1 ?_
        refine k_goto hK dX11_hasEntry_26 (tgt := 30) rfl ?_
        exact k_iret (x := b2i true) hK dX11_hasEntry_30 rfl (b2i_nar _) (done_0 rfl rfl) (qP_i hF)
theorem e_X11_hasEntry {d : Nat} {Q : Bool → Prop} {I : HI} {J : HJ} {R : HR} {x1 : Int32} (hs : Stat R)  (hF : ((x1 < 0 → Q false) ∧ (¬ x1 < 0 → (((I 30 0) ≤ x1 → Q false) ∧ (¬ (I 30 0) ≤ x1 → ((400 ≤ x1 → Q false) ∧ (¬ 400 ≤ x1 → Q true))))))) : Wp fb (d + 1) M_X11_hasEntry [.ref 0, .int x1] I J R Q := ⟨Nat.le_of_ble_eq_true rfl, fun K hK => g_X11_hasEntry_0 hK hs hF⟩
