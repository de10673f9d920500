set_option maxHeartbeats 4000000 in
theorem g_X0_clear_0 {d : Nat} {K : KT} {Q : Unit → HI → Prop} {I : HI} {J : HJ} {R : HR} {o : Nat} (hK : am_R M_X0_clear (am_W d) none R (qC fv J R Q) K) (hs : Stat R) (h_o : isX0 o) (hF : Wc fv d M_J7_fill_53178 [.ref (o + 1), .int 0] I J R (fun u1 I2 => Q () (up (up I2 o 1 0) o 2 0))) : K 0 [(0, .ref o)] [] I J R := by
  refine k_ld hK 0 dX0_clear_0 rfl rfl rfl rfl ?_
  refine k_gR hK dX0_clear_1 lf_X0_11 rfl (sk_X0_0 hs h_o) (sr_X0_0_0 hs h_o) ?_
  refine k_ic hK dX0_clear_4 ci_0 ?_
  refine k_cSc hK dX0_clear_5 lm_X0_15 (As := [.ref (o + 1), .int 0]) (S := []) rfl (Nat.le_of_ble_eq_true rfl) (fit_0 rfl rfl) rfl hF (fun u1 I2 hF => ?_)
  show K _ _ [] _ _ _
  refine k_ld hK 0 dX0_clear_8 rfl rfl rfl rfl ?_
  refine k_ic hK dX0_clear_9 ci_0 ?_
  refine k_pI hK dX0_clear_10 lf_X0_21 rfl rfl rfl (sk_X0_0 hs h_o) ?_
  refine k_ld hK 0 dX0_clear_13 rfl rfl rfl rfl ?_
  refine k_ic hK dX0_clear_14 ci_0 ?_
  refine k_pI hK dX0_clear_15 lf_X0_25 rfl rfl rfl (sk_X0_0 hs h_o) ?_
  exact k_vret hK dX0_clear_18 rfl (done_0 rfl rfl) (qC_i hF)
theorem e_X0_clear {d : Nat} {Q : Unit → HI → Prop} {I : HI} {J : HJ} {R : HR} {o : Nat} (hs : Stat R) (h_o : isX0 o) (hF : Wc fv d M_J7_fill_53178 [.ref (o + 1), .int 0] I J R (fun u1 I2 => Q () (up (up I2 o 1 0) o 2 0))) : Wc fv (d + 1) M_X0_clear [.ref o] I J R Q := ⟨Nat.le_of_ble_eq_true rfl, fun K hK => g_X0_clear_0 hK hs h_o hF⟩
set_option maxHeartbeats 4000000 in
theorem g_X0_add_0 {d : Nat} {K : KT} {Q : Unit → HI → Prop} {I : HI} {J : HJ} {R : HR} {o : Nat} {y1 : Bool} (hK : am_R M_X0_add (am_W d) none R (qC fv J R Q) K) (hs : Stat R) (h_o : isX0 o) (hF : ((y1 = false → Q () (up I o 1 ((I o 1) + 1))) ∧ (y1 = true → ((((I o 1) >>> ((5 : Int32) &&& 31) : Int32) < 0 → Q () (up I o 1 ((I o 1) + 1))) ∧ (¬ ((I o 1) >>> ((5 : Int32) &&& 31) : Int32) < 0 → ((32 ≤ ((I o 1) >>> ((5 : Int32) &&& 31) : Int32) → Q () (up I o 1 ((I o 1) + 1))) ∧ (¬ 32 ≤ ((I o 1) >>> ((5 : Int32) &&& 31) : Int32) → (∃ n4 : Nat, ((I o 1) >>> ((5 : Int32) &&& 31) : Int32) = nI n4 ∧ n4 < 32 ∧ Q () (up (up (up I (o + 1) n4 ((I (o + 1) n4) ||| (1 <<< ((((I o 1) &&& 31) : Int32) &&& 31) : Int32))) o 2 ((I o 2) + 1)) o 1 ((I o 1) + 1)))))))))) : K 0 [(0, .ref o), (1, .int (b2i y1))] [] I J R := by
  refine k_ld hK 0 dX0_add_0 rfl rfl rfl rfl ?_
  refine k_gI hK dX0_add_1 lf_X0_21 rfl (sk_X0_0 hs h_o) rfl ?_
  refine k_ic hK dX0_add_4 ci_5 ?_
  refine k_op hK dX0_add_5 rfl rfl ?_
  refine k_st hK dX0_add_6 rfl rfl rfl (Nat.le_of_ble_eq_true rfl) rfl ?_
  refine k_ld hK 2 dX0_add_7 rfl rfl rfl rfl ?_
  refine k_beq hK dX0_add_8 (tgt := 49) rfl (fun h1 => ?_) (fun h1 => ?_)
  · have hF := hF.1 h1
    refine k_ld hK 1 dX0_add_49 rfl rfl rfl rfl ?_
    refine k_op hK dX0_add_50 rfl rfl ?_
    refine k_gI hK dX0_add_51 lf_X0_21 rfl (sk_X0_0 hs h_o) rfl ?_
    refine k_ic hK dX0_add_54 ci_1 ?_
    refine k_op hK dX0_add_55 rfl rfl ?_
    refine k_pI hK dX0_add_56 lf_X0_21 rfl rfl rfl (sk_X0_0 hs h_o) ?_
    exact k_vret hK dX0_add_59 rfl (done_0 rfl rfl) (qC_i hF)
  · have hF := hF.2 h1
    refine k_ld hK 0 dX0_add_11 rfl rfl rfl rfl ?_
    refine k_lt hK dX0_add_12 (tgt := 49) rfl (fun h2 => ?_) (fun h2 => ?_)
    · have hF := hF.1 h2
      refine k_ld hK 1 dX0_add_49 rfl rfl rfl rfl ?_
      refine k_op hK dX0_add_50 rfl rfl ?_
      refine k_gI hK dX0_add_51 lf_X0_21 rfl (sk_X0_0 hs h_o) rfl ?_
      refine k_ic hK dX0_add_54 ci_1 ?_
      refine k_op hK dX0_add_55 rfl rfl ?_
      refine k_pI hK dX0_add_56 lf_X0_21 rfl rfl rfl (sk_X0_0 hs h_o) ?_
      exact k_vret hK dX0_add_59 rfl (done_0 rfl rfl) (qC_i hF)
    · have hF := hF.2 h2
      refine k_ld hK 0 dX0_add_15 rfl rfl rfl rfl ?_
      refine k_bi hK dX0_add_16 cb_32 ?_
      refine k_cge hK dX0_add_18 (tgt := 49) rfl (fun h3 => ?_) (fun h3 => ?_)
      · have hF := hF.1 h3
        refine k_ld hK 1 dX0_add_49 rfl rfl rfl rfl ?_
        refine k_op hK dX0_add_50 rfl rfl ?_
        refine k_gI hK dX0_add_51 lf_X0_21 rfl (sk_X0_0 hs h_o) rfl ?_
        refine k_ic hK dX0_add_54 ci_1 ?_
        refine k_op hK dX0_add_55 rfl rfl ?_
        refine k_pI hK dX0_add_56 lf_X0_21 rfl rfl rfl (sk_X0_0 hs h_o) ?_
        exact k_vret hK dX0_add_59 rfl (done_0 rfl rfl) (qC_i hF)
      · have hF := hF.2 h3
        refine k_ld hK 1 dX0_add_21 rfl rfl rfl rfl ?_
        refine k_gR hK dX0_add_22 lf_X0_11 rfl (sk_X0_0 hs h_o) (sr_X0_0_0 hs h_o) ?_
        refine k_ld hK 0 dX0_add_25 rfl rfl rfl rfl ?_
        refine k_op hK dX0_add_26 rfl rfl ?_
        obtain ⟨n4, i5, j6, hF⟩ := hF
        refine k_iald hK dX0_add_27 (sk_X0_1 hs h_o) (sl_X0_1 h_o) (by decide) i5 j6 rfl ?_
        refine k_ic hK dX0_add_28 ci_1 ?_
        refine k_ld hK 1 dX0_add_29 rfl rfl rfl rfl ?_
        refine k_gI hK dX0_add_30 lf_X0_21 rfl (sk_X0_0 hs h_o) rfl ?_
        refine k_bi hK dX0_add_33 cb_31 ?_
        refine k_op hK dX0_add_35 rfl rfl ?_
        refine k_op hK dX0_add_36 rfl rfl ?_
        refine k_op hK dX0_add_37 rfl rfl ?_
        refine k_iast hK dX0_add_38 (sk_X0_1 hs h_o) (sl_X0_1 h_o) (by decide) i5 j6 ?_
        refine k_ld hK 1 dX0_add_39 rfl rfl rfl rfl ?_
        refine k_op hK dX0_add_40 rfl rfl ?_
        refine k_gI hK dX0_add_41 lf_X0_25 rfl (sk_X0_0 hs h_o) ((up_na (by omega)).trans rfl) ?_
        refine k_ic hK dX0_add_44 ci_1 ?_
        refine k_op hK dX0_add_45 rfl rfl ?_
        refine k_pI hK dX0_add_46 lf_X0_25 rfl rfl rfl (sk_X0_0 hs h_o) ?_
        refine k_ld hK 1 dX0_add_49 rfl rfl rfl rfl ?_
        refine k_op hK dX0_add_50 rfl rfl ?_
        refine k_gI hK dX0_add_51 lf_X0_21 rfl (sk_X0_0 hs h_o) ((up_nk (by decide)).trans ((up_na (by omega)).trans rfl)) ?_
        refine k_ic hK dX0_add_54 ci_1 ?_
        refine k_op hK dX0_add_55 rfl rfl ?_
        refine k_pI hK dX0_add_56 lf_X0_21 rfl rfl rfl (sk_X0_0 hs h_o) ?_
        exact k_vret hK dX0_add_59 rfl (done_0 rfl rfl) (qC_i hF)
theorem e_X0_add {d : Nat} {Q : Unit → HI → Prop} {I : HI} {J : HJ} {R : HR} {o : Nat} {y1 : Bool} (hs : Stat R) (h_o : isX0 o) (hF : ((y1 = false → Q () (up I o 1 ((I o 1) + 1))) ∧ (y1 = true → ((((I o 1) >>> ((5 : Int32) &&& 31) : Int32) < 0 → Q () (up I o 1 ((I o 1) + 1))) ∧ (¬ ((I o 1) >>> ((5 : Int32) &&& 31) : Int32) < 0 → ((32 ≤ ((I o 1) >>> ((5 : Int32) &&& 31) : Int32) → Q () (up I o 1 ((I o 1) + 1))) ∧ (¬ 32 ≤ ((I o 1) >>> ((5 : Int32) &&& 31) : Int32) → (∃ n4 : Nat, ((I o 1) >>> ((5 : Int32) &&& 31) : Int32) = nI n4 ∧ n4 < 32 ∧ Q () (up (up (up I (o + 1) n4 ((I (o + 1) n4) ||| (1 <<< ((((I o 1) &&& 31) : Int32) &&& 31) : Int32))) o 2 ((I o 2) + 1)) o 1 ((I o 1) + 1)))))))))) : Wc fv (d + 1) M_X0_add [.ref o, .int (b2i y1)] I J R Q := ⟨Nat.le_of_ble_eq_true rfl, fun K hK => g_X0_add_0 hK hs h_o hF⟩
set_option maxHeartbeats 4000000 in
theorem g_X0_answerAt_0 {d : Nat} {K : KT} {Q : Int32 → Prop} {I : HI} {J : HJ} {R : HR} {o : Nat} {x1 : Int32} (hK : am_R M_X0_answerAt (am_W d) none R (qP fi I J R Q) K) (hs : Stat R) (h_o : isX0 o) (hF : (((x1 >>> ((5 : Int32) &&& 31) : Int32) < 0 → Q 0) ∧ (¬ (x1 >>> ((5 : Int32) &&& 31) : Int32) < 0 → ((32 ≤ (x1 >>> ((5 : Int32) &&& 31) : Int32) → Q 0) ∧ (¬ 32 ≤ (x1 >>> ((5 : Int32) &&& 31) : Int32) → (∃ n3 : Nat, (x1 >>> ((5 : Int32) &&& 31) : Int32) = nI n3 ∧ n3 < 32 ∧ Q (((Int32.toUInt32 (I (o + 1) n3) >>> (Int32.toUInt32 (x1 &&& 31) &&& Int32.toUInt32 31)).toInt32 : Int32) &&& 1))))))) : K 0 [(0, .ref o), (1, .int x1)] [] I J R := by
  refine k_ld hK 1 dX0_answerAt_0 rfl rfl rfl rfl ?_
  refine k_ic hK dX0_answerAt_1 ci_5 ?_
  refine k_op hK dX0_answerAt_2 rfl rfl ?_
  refine k_st hK dX0_answerAt_3 rfl rfl rfl (Nat.le_of_ble_eq_true rfl) rfl ?_
  refine k_ld hK 0 dX0_answerAt_4 rfl rfl rfl rfl ?_
  refine k_lt hK dX0_answerAt_5 (tgt := 30) rfl (fun h1 => ?_) (fun h1 => ?_)
  · have hF := hF.1 h1
    refine k_ic hK dX0_answerAt_30 ci_0 ?_
    exact k_iret hK dX0_answerAt_31 rfl rfl (done_0 rfl rfl) (qP_i hF)
  · have hF := hF.2 h1
    refine k_ld hK 0 dX0_answerAt_8 rfl rfl rfl rfl ?_
    refine k_bi hK dX0_answerAt_9 cb_32 ?_
    refine k_cge hK dX0_answerAt_11 (tgt := 30) rfl (fun h2 => ?_) (fun h2 => ?_)
    · have hF := hF.1 h2
      refine k_ic hK dX0_answerAt_30 ci_0 ?_
      exact k_iret hK dX0_answerAt_31 rfl rfl (done_0 rfl rfl) (qP_i hF)
    · have hF := hF.2 h2
      refine k_ld hK 1 dX0_answerAt_14 rfl rfl rfl rfl ?_
      refine k_gR hK dX0_answerAt_15 lf_X0_11 rfl (sk_X0_0 hs h_o) (sr_X0_0_0 hs h_o) ?_
      refine k_ld hK 0 dX0_answerAt_18 rfl rfl rfl rfl ?_
      obtain ⟨n3, i4, j5, hF⟩ := hF
      refine k_iald hK dX0_answerAt_19 (sk_X0_1 hs h_o) (sl_X0_1 h_o) (by decide) i4 j5 rfl ?_
      refine k_ld hK 2 dX0_answerAt_20 rfl rfl rfl rfl ?_
      refine k_bi hK dX0_answerAt_21 cb_31 ?_
      refine k_op hK dX0_answerAt_23 rfl rfl ?_
      refine k_op hK dX0_answerAt_24 rfl rfl ?_
      refine k_ic hK dX0_answerAt_25 ci_1 ?_
      refine k_op hK dX0_answerAt_26 rfl rfl ?_
      refine k_goto hK dX0_answerAt_27 (tgt := 31) rfl ?_
      exact k_iret hK dX0_answerAt_31 rfl rfl (done_0 rfl rfl) (qP_i hF)
theorem e_X0_answerAt {d : Nat} {Q : Int32 → Prop} {I : HI} {J : HJ} {R : HR} {o : Nat} {x1 : Int32} (hs : Stat R) (h_o : isX0 o) (hF : (((x1 >>> ((5 : Int32) &&& 31) : Int32) < 0 → Q 0) ∧ (¬ (x1 >>> ((5 : Int32) &&& 31) : Int32) < 0 → ((32 ≤ (x1 >>> ((5 : Int32) &&& 31) : Int32) → Q 0) ∧ (¬ 32 ≤ (x1 >>> ((5 : Int32) &&& 31) : Int32) → (∃ n3 : Nat, (x1 >>> ((5 : Int32) &&& 31) : Int32) = nI n3 ∧ n3 < 32 ∧ Q (((Int32.toUInt32 (I (o + 1) n3) >>> (Int32.toUInt32 (x1 &&& 31) &&& Int32.toUInt32 31)).toInt32 : Int32) &&& 1))))))) : Wp fi (d + 1) M_X0_answerAt [.ref o, .int x1] I J R Q := ⟨Nat.le_of_ble_eq_true rfl, fun K hK => g_X0_answerAt_0 hK hs h_o hF⟩
set_option maxHeartbeats 4000000 in
theorem g_X0_isLike_0 {d : Nat} {K : KT} {Q : Bool → Prop} {I : HI} {J : HJ} {R : HR} {o : Nat} {p1 : Nat} (hK : am_R M_X0_isLike (am_W d) none R (qP fb I J R Q) K) (hs : Stat R) (h_o : isX0 o) (h_p1 : isX0 p1) (hF : (((I o 1) = (I p1 1) → K 15 [(0, .ref o), (1, .ref p1), (2, .int 0)] [] I J R) ∧ (¬ (I o 1) = (I p1 1) → Q false))) : K 0 [(0, .ref o), (1, .ref p1)] [] I J R := by
  refine k_ld hK 0 dX0_isLike_0 rfl rfl rfl rfl ?_
  refine k_gI hK dX0_isLike_1 lf_X0_21 rfl (sk_X0_0 hs h_o) rfl ?_
  refine k_ld hK 1 dX0_isLike_4 rfl rfl rfl rfl ?_
  refine k_gI hK dX0_isLike_5 lf_X0_21 rfl (sk_X0_0 hs h_p1) rfl ?_
  refine k_ceq hK dX0_isLike_8 (tgt := 13) rfl (fun h1 => ?_) (fun h1 => ?_)
  · have hF := hF.1 h1
    refine k_ic hK dX0_isLike_13 ci_0 ?_
    refine k_st hK dX0_isLike_14 rfl rfl rfl (Nat.le_of_ble_eq_true rfl) rfl ?_
    exact k_sub hK [1, 2, 0] rfl hF
  · have hF := hF.2 h1
    refine k_ic hK dX0_isLike_11 ci_0 ?_
    exact k_iret (x := b2i false) hK dX0_isLike_12 rfl (b2i_nar _) (done_0 rfl rfl) (qP_i hF)
set_option maxHeartbeats 4000000 in
theorem g_X0_isLike_15 {d : Nat} {K : KT} {Q : Bool → Prop} {I : HI} {J : HJ} {R : HR} {o : Nat} {p1 : Nat} {x2 : Int32} (hK : am_R M_X0_isLike (am_W d) none R (qP fb I J R Q) K) (hs : Stat R) (h_o : isX0 o) (h_p1 : isX0 p1) (hF : ((32 ≤ x2 → Q true) ∧ (¬ 32 ≤ x2 → (∃ n2 : Nat, x2 = nI n2 ∧ n2 < 32 ∧ (((I (o + 1) n2) = (I (p1 + 1) n2) → K 15 [(0, .ref o), (1, .ref p1), (2, .int (x2 + 1))] [] I J R) ∧ (¬ (I (o + 1) n2) = (I (p1 + 1) n2) → Q false)))))) : K 15 [(0, .ref o), (1, .ref p1), (2, .int x2)] [] I J R := by
  refine k_ld hK 2 dX0_isLike_15 rfl rfl rfl rfl ?_
  refine k_bi hK dX0_isLike_16 cb_32 ?_
  refine k_cge hK dX0_isLike_18 (tgt := 44) rfl (fun h1 => ?_) (fun h1 => ?_)
  · have hF := hF.1 h1
    refine k_ic hK dX0_isLike_44 ci_1 ?_
    exact k_iret (x := b2i true) hK dX0_isLike_45 rfl (b2i_nar _) (done_0 rfl rfl) (qP_i hF)
  · have hF := hF.2 h1
    refine k_ld hK 0 dX0_isLike_21 rfl rfl rfl rfl ?_
    refine k_gR hK dX0_isLike_22 lf_X0_11 rfl (sk_X0_0 hs h_o) (sr_X0_0_0 hs h_o) ?_
    refine k_ld hK 2 dX0_isLike_25 rfl rfl rfl rfl ?_
    obtain ⟨n2, i3, j4, hF⟩ := hF
    refine k_iald hK dX0_isLike_26 (sk_X0_1 hs h_o) (sl_X0_1 h_o) (by decide) i3 j4 rfl ?_
    refine k_ld hK 1 dX0_isLike_27 rfl rfl rfl rfl ?_
    refine k_gR hK dX0_isLike_28 lf_X0_11 rfl (sk_X0_0 hs h_p1) (sr_X0_0_0 hs h_p1) ?_
    refine k_ld hK 2 dX0_isLike_31 rfl rfl rfl rfl ?_
    refine k_iald hK dX0_isLike_32 (sk_X0_1 hs h_p1) (sl_X0_1 h_p1) (by decide) i3 j4 rfl ?_
    refine k_ceq hK dX0_isLike_33 (tgt := 38) rfl (fun h5 => ?_) (fun h5 => ?_)
    · have hF := hF.1 h5
      refine k_iinc hK 2 dX0_isLike_38 (v := (x2 + 1)) rfl (Nat.le_of_ble_eq_true rfl) (congrArg (fun q => x2 + q) ci_1) rfl ?_
      refine k_goto hK dX0_isLike_41 (tgt := 15) rfl ?_
      exact k_sub hK [1, 2, 0] rfl hF
    · have hF := hF.2 h5
      refine k_ic hK dX0_isLike_36 ci_0 ?_
      exact k_iret (x := b2i false) hK dX0_isLike_37 rfl (b2i_nar _) (done_0 rfl rfl) (qP_i hF)
set_option maxHeartbeats 4000000 in
theorem g_X2_put_0 {d : Nat} {K : KT} {Q : Unit → HI → Prop} {I : HI} {J : HJ} {R : HR} {x1 : Int32} {x2 : Int32} {x3 : Int32} (hK : am_R M_X2_put (am_W d) none R (qC fv J R Q) K) (hs : Stat R)  (hF : ((((x1 * 4) + x2) < 0 → Q () I) ∧ (¬ ((x1 * 4) + x2) < 0 → ((80 ≤ ((x1 * 4) + x2) → Q () I) ∧ (¬ 80 ≤ ((x1 * 4) + x2) → (∃ n3 : Nat, ((x1 * 4) + x2) = nI n3 ∧ n3 < 80 ∧ Q () (up I 77 n3 x3))))))) : K 0 [(0, .ref 76), (1, .int x1), (2, .int x2), (3, .int x3)] [] I J R := by
  refine k_ld hK 1 dX2_put_0 rfl rfl rfl rfl ?_
  refine k_ic hK dX2_put_1 ci_4 ?_
  refine k_op hK dX2_put_2 rfl rfl ?_
  refine k_ld hK 2 dX2_put_3 rfl rfl rfl rfl ?_
  refine k_op hK dX2_put_4 rfl rfl ?_
  refine k_st hK dX2_put_5 rfl rfl rfl (Nat.le_of_ble_eq_true rfl) rfl ?_
  refine k_ld hK 0 dX2_put_7 rfl rfl rfl rfl ?_
  refine k_lt hK dX2_put_9 (tgt := 30) rfl (fun h1 => ?_) (fun h1 => ?_)
  · have hF := hF.1 h1
    exact k_vret hK dX2_put_30 rfl (done_0 rfl rfl) (qC_i hF)
  · have hF := hF.2 h1
    refine k_ld hK 0 dX2_put_12 rfl rfl rfl rfl ?_
    refine k_ld hK 1 dX2_put_14 rfl rfl rfl rfl ?_
    refine k_gR hK dX2_put_15 lf_X2_9 rfl (sc_76 hs) (sf_76_0 hs) ?_
    refine k_alen hK dX2_put_18 (Or.inr (sc_77 hs)) sn_77 cn_80 ?_
    refine k_cge hK dX2_put_19 (tgt := 30) rfl (fun h2 => ?_) (fun h2 => ?_)
    · have hF := hF.1 h2
      exact k_vret hK dX2_put_30 rfl (done_0 rfl rfl) (qC_i hF)
    · have hF := hF.2 h2
      refine k_ld hK 1 dX2_put_22 rfl rfl rfl rfl ?_
      refine k_gR hK dX2_put_23 lf_X2_9 rfl (sc_76 hs) (sf_76_0 hs) ?_
      refine k_ld hK 0 dX2_put_26 rfl rfl rfl rfl ?_
      refine k_ld hK 4 dX2_put_28 rfl rfl rfl rfl ?_
      obtain ⟨n3, i4, j5, hF⟩ := hF
      refine k_iast hK dX2_put_29 (sc_77 hs) sn_77 (by decide) i4 j5 ?_
      exact k_vret hK dX2_put_30 rfl (done_0 rfl rfl) (qC_i hF)
theorem e_X2_put {d : Nat} {Q : Unit → HI → Prop} {I : HI} {J : HJ} {R : HR} {x1 : Int32} {x2 : Int32} {x3 : Int32} (hs : Stat R)  (hF : ((((x1 * 4) + x2) < 0 → Q () I) ∧ (¬ ((x1 * 4) + x2) < 0 → ((80 ≤ ((x1 * 4) + x2) → Q () I) ∧ (¬ 80 ≤ ((x1 * 4) + x2) → (∃ n3 : Nat, ((x1 * 4) + x2) = nI n3 ∧ n3 < 80 ∧ Q () (up I 77 n3 x3))))))) : Wc fv (d + 1) M_X2_put [.ref 76, .int x1, .int x2, .int x3] I J R Q := ⟨Nat.le_of_ble_eq_true rfl, fun K hK => g_X2_put_0 hK hs hF⟩
set_option maxHeartbeats 4000000 in
theorem g_X2_get_0 {d : Nat} {K : KT} {Q : Int32 → Prop} {I : HI} {J : HJ} {R : HR} {x1 : Int32} {x2 : Int32} (hK : am_R M_X2_get (am_W d) none R (qP fi I J R Q) K) (hs : Stat R)  (hF : ((((x1 * 4) + x2) < 0 → Q 0) ∧ (¬ ((x1 * 4) + x2) < 0 → ((80 ≤ ((x1 * 4) + x2) → Q 0) ∧ (¬ 80 ≤ ((x1 * 4) + x2) → (∃ n3 : Nat, ((x1 * 4) + x2) = nI n3 ∧ n3 < 80 ∧ Q (I 77 n3))))))) : K 0 [(0, .ref 76), (1, .int x1), (2, .int x2)] [] I J R := by
  refine k_ld hK 1 dX2_get_0 rfl rfl rfl rfl ?_
  refine k_ic hK dX2_get_1 ci_4 ?_
  refine k_op hK dX2_get_2 rfl rfl ?_
  refine k_ld hK 2 dX2_get_3 rfl rfl rfl rfl ?_
  refine k_op hK dX2_get_4 rfl rfl ?_
  refine k_st hK dX2_get_5 rfl rfl rfl (Nat.le_of_ble_eq_true rfl) rfl ?_
  refine k_ld hK 0 dX2_get_6 rfl rfl rfl rfl ?_
  refine k_lt hK dX2_get_7 (tgt := 28) rfl (fun h1 => ?_) (fun h1 => ?_)
  · have hF := hF.1 h1
    refine k_ic hK dX2_get_28 ci_0 ?_
    exact k_iret hK dX2_get_29 rfl rfl (done_0 rfl rfl) (qP_i hF)
  · have hF := hF.2 h1
    refine k_ld hK 0 dX2_get_10 rfl rfl rfl rfl ?_
    refine k_ld hK 1 dX2_get_11 rfl rfl rfl rfl ?_
    refine k_gR hK dX2_get_12 lf_X2_9 rfl (sc_76 hs) (sf_76_0 hs) ?_
    refine k_alen hK dX2_get_15 (Or.inr (sc_77 hs)) sn_77 cn_80 ?_
    refine k_cge hK dX2_get_16 (tgt := 28) rfl (fun h2 => ?_) (fun h2 => ?_)
    · have hF := hF.1 h2
      refine k_ic hK dX2_get_28 ci_0 ?_
      exact k_iret hK dX2_get_29 rfl rfl (done_0 rfl rfl) (qP_i hF)
    · have hF := hF.2 h2
      refine k_ld hK 1 dX2_get_19 rfl rfl rfl rfl ?_
      refine k_gR hK dX2_get_20 lf_X2_9 rfl (sc_76 hs) (sf_76_0 hs) ?_
      refine k_ld hK 0 dX2_get_23 rfl rfl rfl rfl ?_
      obtain ⟨n3, i4, j5, hF⟩ := hF
      refine k_iald hK dX2_get_24 (sc_77 hs) sn_77 (by decide) i4 j5 rfl ?_
      refine k_goto hK dX2_get_25 (tgt := 29) rfl ?_
      exact k_iret hK dX2_get_29 rfl rfl (done_0 rfl rfl) (qP_i hF)
theorem e_X2_get {d : Nat} {Q : Int32 → Prop} {I : HI} {J : HJ} {R : HR} {x1 : Int32} {x2 : Int32} (hs : Stat R)  (hF : ((((x1 * 4) + x2) < 0 → Q 0) ∧ (¬ ((x1 * 4) + x2) < 0 → ((80 ≤ ((x1 * 4) + x2) → Q 0) ∧ (¬ 80 ≤ ((x1 * 4) + x2) → (∃ n3 : Nat, ((x1 * 4) + x2) = nI n3 ∧ n3 < 80 ∧ Q (I 77 n3))))))) : Wp fi (d + 1) M_X2_get [.ref 76, .int x1, .int x2] I J R Q := ⟨Nat.le_of_ble_eq_true rfl, fun K hK => g_X2_get_0 hK hs hF⟩
set_option maxHeartbeats 4000000 in
theorem g_X2_eliminate_0 {d : Nat} {K : KT} {Q : Unit → HI → Prop} {I : HI} {J : HJ} {R : HR} {x1 : Int32} {x2 : Int32} (hK : am_R M_X2_eliminate (am_W d) none R (qC fv J R Q) K) (hs : Stat R)  (hF : K 12 [(0, .ref 76), (1, .int x1), (2, .int x2), (3, .int 0)] [] (up (up I 76 1 0) 76 2 1) J R) : K 0 [(0, .ref 76), (1, .int x1), (2, .int x2)] [] I J R := by
  refine k_ld hK 0 dX2_eliminate_0 rfl rfl rfl rfl ?_
  refine k_ic hK dX2_eliminate_1 ci_0 ?_
  refine k_pI hK dX2_eliminate_2 lf_X2_15 rfl rfl rfl (sc_76 hs) ?_
  refine k_ld hK 0 dX2_eliminate_5 rfl rfl rfl rfl ?_
  refine k_ic hK dX2_eliminate_6 ci_1 ?_
  refine k_pI hK dX2_eliminate_7 lf_X2_19 rfl rfl rfl (sc_76 hs) ?_
  refine k_ic hK dX2_eliminate_10 ci_0 ?_
  refine k_st hK dX2_eliminate_11 rfl rfl rfl (Nat.le_of_ble_eq_true rfl) rfl ?_
  exact k_sub hK [1, 2, 3, 0] rfl hF
set_option maxHeartbeats 4000000 in
theorem g_X2_eliminate_12 {d : Nat} {K : KT} {Q : Unit → HI → Prop} {I : HI} {J : HJ} {R : HR} {x1 : Int32} {x2 : Int32} {x3 : Int32} (hK : am_R M_X2_eliminate (am_W d) none R (qC fv J R Q) K) (hs : Stat R)  (hF : ((x2 ≤ x3 → Q () I) ∧ (¬ x2 ≤ x3 → Wp fi d M_X2_firstWith [.ref 76, .int x3, .int (I 76 1), .int x1] I J R (fun r2 => ((¬ r2 = (-1) → ((r2 = (I 76 1) → K 70 [(0, .ref 76), (1, .int x1), (2, .int x2), (3, .int x3)] [] I J R) ∧ (¬ r2 = (I 76 1) → Wc fv d M_X2_swapRows [.ref 76, .int r2, .int (I 76 1), .int x2] I J R (fun u5 I6 => Wp fi d M_X3_minus [.int 0, .int (I6 76 2)] I6 J R (fun r7 => K 70 [(0, .ref 76), (1, .int x1), (2, .int x2), (3, .int x3)] [] (up I6 76 2 r7) J R))))) ∧ (r2 = (-1) → K 12 [(0, .ref 76), (1, .int x1), (2, .int x2), (3, .int (x3 + 1))] [] I J R)))))) : K 12 [(0, .ref 76), (1, .int x1), (2, .int x2), (3, .int x3)] [] I J R := by
  refine k_ld hK 3 dX2_eliminate_12 rfl rfl rfl rfl ?_
  refine k_ld hK 2 dX2_eliminate_13 rfl rfl rfl rfl ?_
  refine k_cge hK dX2_eliminate_14 (tgt := 117) rfl (fun h1 => ?_) (fun h1 => ?_)
  · have hF := hF.1 h1
    exact k_vret hK dX2_eliminate_117 rfl (done_0 rfl rfl) (qC_i hF)
  · have hF := hF.2 h1
    refine k_ld hK 0 dX2_eliminate_17 rfl rfl rfl rfl ?_
    refine k_ld hK 3 dX2_eliminate_18 rfl rfl rfl rfl ?_
    refine k_ld hK 0 dX2_eliminate_19 rfl rfl rfl rfl ?_
    refine k_gI hK dX2_eliminate_20 lf_X2_15 rfl (sc_76 hs) rfl ?_
    refine k_ld hK 1 dX2_eliminate_23 rfl rfl rfl rfl ?_
    refine k_cVp hK dX2_eliminate_24 (Or.inl lm_X2_22) (As := [.int x3, .int (I 76 1), .int x1]) (S := []) rfl (sc_76 hs) (Nat.le_of_ble_eq_true rfl) (fit_0 rfl rfl) rfl hF (fun r2 hF => ?_)
    show K _ _ [.int r2] _ _ _
    refine k_st hK dX2_eliminate_27 rfl rfl rfl (Nat.le_of_ble_eq_true rfl) rfl ?_
    refine k_ld hK 0 dX2_eliminate_29 rfl rfl rfl rfl ?_
    refine k_ic hK dX2_eliminate_31 ci_m1 ?_
    refine k_cne hK dX2_eliminate_32 (tgt := 38) rfl (fun h3 => ?_) (fun h3 => ?_)
    · have hF := hF.1 h3
      refine k_ld hK 0 dX2_eliminate_38 rfl rfl rfl rfl ?_
      refine k_ld hK 1 dX2_eliminate_40 rfl rfl rfl rfl ?_
      refine k_gI hK dX2_eliminate_41 lf_X2_15 rfl (sc_76 hs) rfl ?_
      refine k_ceq hK dX2_eliminate_44 (tgt := 70) rfl (fun h4 => ?_) (fun h4 => ?_)
      · have hF := hF.1 h4
        exact k_sub hK [1, 2, 3, 4] rfl hF
      · have hF := hF.2 h4
        refine k_ld hK 1 dX2_eliminate_47 rfl rfl rfl rfl ?_
        refine k_ld hK 0 dX2_eliminate_48 rfl rfl rfl rfl ?_
        refine k_ld hK 1 dX2_eliminate_50 rfl rfl rfl rfl ?_
        refine k_gI hK dX2_eliminate_51 lf_X2_15 rfl (sc_76 hs) rfl ?_
        refine k_ld hK 3 dX2_eliminate_54 rfl rfl rfl rfl ?_
        refine k_cVc hK dX2_eliminate_55 (Or.inl lm_X2_26) (As := [.int r2, .int (I 76 1), .int x2]) (S := []) rfl (sc_76 hs) (Nat.le_of_ble_eq_true rfl) (fit_0 rfl rfl) rfl hF (fun u5 I6 hF => ?_)
        show K _ _ [] _ _ _
        refine k_ld hK 1 dX2_eliminate_58 rfl rfl rfl rfl ?_
        refine k_ic hK dX2_eliminate_59 ci_0 ?_
        refine k_ld hK 1 dX2_eliminate_60 rfl rfl rfl rfl ?_
        refine k_gI hK dX2_eliminate_61 lf_X2_19 rfl (sc_76 hs) rfl ?_
        refine k_cSp hK dX2_eliminate_64 lm_X2_30 (As := [.int 0, .int (I6 76 2)]) (S := [.ref 76]) rfl (Nat.le_of_ble_eq_true rfl) (fit_0 rfl rfl) rfl hF (fun r7 hF => ?_)
        show K _ _ [.int r7, .ref 76] _ _ _
        refine k_pI hK dX2_eliminate_67 lf_X2_19 rfl rfl rfl (sc_76 hs) ?_
        exact k_sub hK [1, 2, 3, 4] rfl hF
    · have hF := hF.2 h3
      refine k_goto hK dX2_eliminate_35 (tgt := 111) rfl ?_
      refine k_iinc hK 4 dX2_eliminate_111 (v := (x3 + 1)) rfl (Nat.le_of_ble_eq_true rfl) (congrArg (fun q => x3 + q) ci_1) rfl ?_
      refine k_goto hK dX2_eliminate_114 (tgt := 12) rfl ?_
      exact k_sub hK [2, 3, 4, 0] rfl hF
set_option maxHeartbeats 4000000 in
theorem g_X2_eliminate_70 {d : Nat} {K : KT} {Q : Unit → HI → Prop} {I : HI} {J : HJ} {R : HR} {x1 : Int32} {x2 : Int32} {x3 : Int32} (hK : am_R M_X2_eliminate (am_W d) none R (qC fv J R Q) K) (hs : Stat R)  (hF : Wp fi d M_X2_get [.ref 76, .int (I 76 1), .int x3] I J R (fun r1 => Wp fi d M_X3_times [.int (I 76 2), .int r1] I J R (fun r2 => Wc fv d M_X2_clearBelow [.ref 76, .int (I 76 1), .int x3, .int x1, .int x2] (up I 76 2 r2) J R (fun u3 I4 => K 12 [(0, .ref 76), (1, .int x1), (2, .int x2), (3, .int (x3 + 1))] [] (up I4 76 1 ((I4 76 1) + 1)) J R)))) : K 70 [(0, .ref 76), (1, .int x1), (2, .int x2), (3, .int x3)] [] I J R := by
  refine k_ld hK 0 dX2_eliminate_70 rfl rfl rfl rfl ?_
  refine k_ld hK 0 dX2_eliminate_71 rfl rfl rfl rfl ?_
  refine k_gI hK dX2_eliminate_72 lf_X2_19 rfl (sc_76 hs) rfl ?_
  refine k_ld hK 0 dX2_eliminate_75 rfl rfl rfl rfl ?_
  refine k_ld hK 0 dX2_eliminate_76 rfl rfl rfl rfl ?_
  refine k_gI hK dX2_eliminate_77 lf_X2_15 rfl (sc_76 hs) rfl ?_
  refine k_ld hK 3 dX2_eliminate_80 rfl rfl rfl rfl ?_
  refine k_cVp hK dX2_eliminate_81 (Or.inl lm_X2_36) (As := [.int (I 76 1), .int x3]) (S := [.int (I 76 2), .ref 76]) rfl (sc_76 hs) (Nat.le_of_ble_eq_true rfl) (fit_0 rfl rfl) rfl hF (fun r1 hF => ?_)
  show K _ _ [.int r1, .int (I 76 2), .ref 76] _ _ _
  refine k_cSp hK dX2_eliminate_84 lm_X2_39 (As := [.int (I 76 2), .int r1]) (S := [.ref 76]) rfl (Nat.le_of_ble_eq_true rfl) (fit_0 rfl rfl) rfl hF (fun r2 hF => ?_)
  show K _ _ [.int r2, .ref 76] _ _ _
  refine k_pI hK dX2_eliminate_87 lf_X2_19 rfl rfl rfl (sc_76 hs) ?_
  refine k_ld hK 0 dX2_eliminate_90 rfl rfl rfl rfl ?_
  refine k_ld hK 0 dX2_eliminate_91 rfl rfl rfl rfl ?_
  refine k_gI hK dX2_eliminate_92 lf_X2_15 rfl (sc_76 hs) ((up_nk (by decide)).trans rfl) ?_
  refine k_ld hK 3 dX2_eliminate_95 rfl rfl rfl rfl ?_
  refine k_ld hK 1 dX2_eliminate_96 rfl rfl rfl rfl ?_
  refine k_ld hK 2 dX2_eliminate_97 rfl rfl rfl rfl ?_
  refine k_cVc hK dX2_eliminate_98 (Or.inl lm_X2_42) (As := [.int (I 76 1), .int x3, .int x1, .int x2]) (S := []) rfl (sc_76 hs) (Nat.le_of_ble_eq_true rfl) (fit_0 rfl rfl) rfl hF (fun u3 I4 hF => ?_)
  show K _ _ [] _ _ _
  refine k_ld hK 0 dX2_eliminate_101 rfl rfl rfl rfl ?_
  refine k_op hK dX2_eliminate_102 rfl rfl ?_
  refine k_gI hK dX2_eliminate_103 lf_X2_15 rfl (sc_76 hs) rfl ?_
  refine k_ic hK dX2_eliminate_106 ci_1 ?_
  refine k_op hK dX2_eliminate_107 rfl rfl ?_
  refine k_pI hK dX2_eliminate_108 lf_X2_15 rfl rfl rfl (sc_76 hs) ?_
  refine k_iinc hK 3 dX2_eliminate_111 (v := (x3 + 1)) rfl (Nat.le_of_ble_eq_true rfl) (congrArg (fun q => x3 + q) ci_1) rfl ?_
  refine k_goto hK dX2_eliminate_114 (tgt := 12) rfl ?_
  exact k_sub hK [1, 2, 3, 0] rfl hF
set_option maxHeartbeats 4000000 in
theorem g_X2_firstWith_0 {d : Nat} {K : KT} {Q : Int32 → Prop} {I : HI} {J : HJ} {R : HR} {x1 : Int32} {x2 : Int32} {x3 : Int32} (hK : am_R M_X2_firstWith (am_W d) none R (qP fi I J R Q) K) (hs : Stat R)  (hF : K 3 [(0, .ref 76), (1, .int x1), (3, .int x3), (4, .int x2)] [] I J R) : K 0 [(0, .ref 76), (1, .int x1), (2, .int x2), (3, .int x3)] [] I J R := by
  refine k_ld hK 2 dX2_firstWith_0 rfl rfl rfl rfl ?_
  refine k_st hK dX2_firstWith_1 rfl rfl rfl (Nat.le_of_ble_eq_true rfl) rfl ?_
  exact k_sub hK [1, 2, 4, 0] rfl hF
set_option maxHeartbeats 4000000 in
theorem g_X2_firstWith_3 {d : Nat} {K : KT} {Q : Int32 → Prop} {I : HI} {J : HJ} {R : HR} {x1 : Int32} {x3 : Int32} {x4 : Int32} (hK : am_R M_X2_firstWith (am_W d) none R (qP fi I J R Q) K) (hs : Stat R)  (hF : ((x3 ≤ x4 → Q (-1)) ∧ (¬ x3 ≤ x4 → Wp fi d M_X2_get [.ref 76, .int x4, .int x1] I J R (fun r2 => ((r2 = 0 → K 3 [(0, .ref 76), (1, .int x1), (3, .int x3), (4, .int (x4 + 1))] [] I J R) ∧ (¬ r2 = 0 → Q x4)))))) : K 3 [(0, .ref 76), (1, .int x1), (3, .int x3), (4, .int x4)] [] I J R := by
  refine k_ld hK 3 dX2_firstWith_3 rfl rfl rfl rfl ?_
  refine k_ld hK 2 dX2_firstWith_5 rfl rfl rfl rfl ?_
  refine k_cge hK dX2_firstWith_6 (tgt := 28) rfl (fun h1 => ?_) (fun h1 => ?_)
  · have hF := hF.1 h1
    refine k_ic hK dX2_firstWith_28 ci_m1 ?_
    exact k_iret hK dX2_firstWith_29 rfl rfl (done_0 rfl rfl) (qP_i hF)
  · have hF := hF.2 h1
    refine k_ld hK 0 dX2_firstWith_9 rfl rfl rfl rfl ?_
    refine k_ld hK 3 dX2_firstWith_10 rfl rfl rfl rfl ?_
    refine k_ld hK 1 dX2_firstWith_12 rfl rfl rfl rfl ?_
    refine k_cVp hK dX2_firstWith_13 (Or.inl lm_X2_36) (As := [.int x4, .int x1]) (S := []) rfl (sc_76 hs) (Nat.le_of_ble_eq_true rfl) (fit_0 rfl rfl) rfl hF (fun r2 hF => ?_)
    show K _ _ [.int r2] _ _ _
    refine k_eq hK dX2_firstWith_16 (tgt := 22) rfl (fun h3 => ?_) (fun h3 => ?_)
    · have hF := hF.1 h3
      refine k_iinc hK 3 dX2_firstWith_22 (v := (x4 + 1)) rfl (Nat.le_of_ble_eq_true rfl) (congrArg (fun q => x4 + q) ci_1) rfl ?_
      refine k_goto hK dX2_firstWith_25 (tgt := 3) rfl ?_
      exact k_sub hK [1, 2, 3, 0] rfl hF
    · have hF := hF.2 h3
      refine k_ld hK 3 dX2_firstWith_19 rfl rfl rfl rfl ?_
      exact k_iret hK dX2_firstWith_21 rfl rfl (done_0 rfl rfl) (qP_i hF)
set_option maxHeartbeats 4000000 in
theorem g_X2_swapRows_0 {d : Nat} {K : KT} {Q : Unit → HI → Prop} {I : HI} {J : HJ} {R : HR} {x1 : Int32} {x2 : Int32} {x3 : Int32} (hK : am_R M_X2_swapRows (am_W d) none R (qC fv J R Q) K) (hs : Stat R)  (hF : K 3 [(0, .ref 76), (1, .int x1), (2, .int x2), (3, .int x3), (4, .int 0)] [] I J R) : K 0 [(0, .ref 76), (1, .int x1), (2, .int x2), (3, .int x3)] [] I J R := by
  refine k_ic hK dX2_swapRows_0 ci_0 ?_
  refine k_st hK dX2_swapRows_1 rfl rfl rfl (Nat.le_of_ble_eq_true rfl) rfl ?_
  exact k_sub hK [1, 2, 3, 4, 0] rfl hF
set_option maxHeartbeats 4000000 in
theorem g_X2_swapRows_3 {d : Nat} {K : KT} {Q : Unit → HI → Prop} {I : HI} {J : HJ} {R : HR} {x1 : Int32} {x2 : Int32} {x3 : Int32} {x4 : Int32} (hK : am_R M_X2_swapRows (am_W d) none R (qC fv J R Q) K) (hs : Stat R)  (hF : ((x3 ≤ x4 → Q () I) ∧ (¬ x3 ≤ x4 → Wp fi d M_X2_get [.ref 76, .int x1, .int x4] I J R (fun r2 => Wp fi d M_X2_get [.ref 76, .int x2, .int x4] I J R (fun r3 => Wc fv d M_X2_put [.ref 76, .int x1, .int x4, .int r3] I J R (fun u4 I5 => Wc fv d M_X2_put [.ref 76, .int x2, .int x4, .int r2] I5 J R (fun u6 I7 => K 3 [(0, .ref 76), (1, .int x1), (2, .int x2), (3, .int x3), (4, .int (x4 + 1))] [] I7 J R))))))) : K 3 [(0, .ref 76), (1, .int x1), (2, .int x2), (3, .int x3), (4, .int x4)] [] I J R := by
  refine k_ld hK 4 dX2_swapRows_3 rfl rfl rfl rfl ?_
  refine k_ld hK 3 dX2_swapRows_5 rfl rfl rfl rfl ?_
  refine k_cge hK dX2_swapRows_6 (tgt := 47) rfl (fun h1 => ?_) (fun h1 => ?_)
  · have hF := hF.1 h1
    exact k_vret hK dX2_swapRows_47 rfl (done_0 rfl rfl) (qC_i hF)
  · have hF := hF.2 h1
    refine k_ld hK 0 dX2_swapRows_9 rfl rfl rfl rfl ?_
    refine k_ld hK 1 dX2_swapRows_10 rfl rfl rfl rfl ?_
    refine k_ld hK 4 dX2_swapRows_11 rfl rfl rfl rfl ?_
    refine k_cVp hK dX2_swapRows_13 (Or.inl lm_X2_36) (As := [.int x1, .int x4]) (S := []) rfl (sc_76 hs) (Nat.le_of_ble_eq_true rfl) (fit_0 rfl rfl) rfl hF (fun r2 hF => ?_)
    show K _ _ [.int r2] _ _ _
    refine k_st hK dX2_swapRows_16 rfl rfl rfl (Nat.le_of_ble_eq_true rfl) rfl ?_
    refine k_ld hK 1 dX2_swapRows_18 rfl rfl rfl rfl ?_
    refine k_ld hK 2 dX2_swapRows_19 rfl rfl rfl rfl ?_
    refine k_ld hK 5 dX2_swapRows_20 rfl rfl rfl rfl ?_
    refine k_ld hK 1 dX2_swapRows_22 rfl rfl rfl rfl ?_
    refine k_ld hK 3 dX2_swapRows_23 rfl rfl rfl rfl ?_
    refine k_ld hK 5 dX2_swapRows_24 rfl rfl rfl rfl ?_
    refine k_cVp hK dX2_swapRows_26 (Or.inl lm_X2_36) (As := [.int x2, .int x4]) (S := [.int x4, .int x1, .ref 76]) rfl (sc_76 hs) (Nat.le_of_ble_eq_true rfl) (fit_0 rfl rfl) rfl hF (fun r3 hF => ?_)
    show K _ _ [.int r3, .int x4, .int x1, .ref 76] _ _ _
    refine k_cVc hK dX2_swapRows_29 (Or.inl lm_X2_46) (As := [.int x1, .int x4, .int r3]) (S := []) rfl (sc_76 hs) (Nat.le_of_ble_eq_true rfl) (fit_0 rfl rfl) rfl hF (fun u4 I5 hF => ?_)
    show K _ _ [] _ _ _
    refine k_ld hK 1 dX2_swapRows_32 rfl rfl rfl rfl ?_
    refine k_ld hK 3 dX2_swapRows_33 rfl rfl rfl rfl ?_
    refine k_ld hK 5 dX2_swapRows_34 rfl rfl rfl rfl ?_
    refine k_ld hK 0 dX2_swapRows_36 rfl rfl rfl rfl ?_
    refine k_cVc hK dX2_swapRows_38 (Or.inl lm_X2_46) (As := [.int x2, .int x4, .int r2]) (S := []) rfl (sc_76 hs) (Nat.le_of_ble_eq_true rfl) (fit_0 rfl rfl) rfl hF (fun u6 I7 hF => ?_)
    show K _ _ [] _ _ _
    refine k_iinc hK 5 dX2_swapRows_41 (v := (x4 + 1)) rfl (Nat.le_of_ble_eq_true rfl) (congrArg (fun q => x4 + q) ci_1) rfl ?_
    refine k_goto hK dX2_swapRows_44 (tgt := 3) rfl ?_
    exact k_sub hK [2, 3, 4, 5, 0] rfl hF
set_option maxHeartbeats 4000000 in
theorem g_X2_clearBelow_0 {d : Nat} {K : KT} {Q : Unit → HI → Prop} {I : HI} {J : HJ} {R : HR} {x1 : Int32} {x2 : Int32} {x3 : Int32} {x4 : Int32} (hK : am_R M_X2_clearBelow (am_W d) none R (qC fv J R Q) K) (hs : Stat R)  (hF : Wp fi d M_X2_get [.ref 76, .int x1, .int x2] I J R (fun r1 => Wp fi d M_X3_inverse [.int r1] I J R (fun r2 => K 16 [(0, .ref 76), (1, .int x1), (2, .int x2), (3, .int x3), (4, .int x4), (5, .int r2), (6, .int (x1 + 1))] [] I J R))) : K 0 [(0, .ref 76), (1, .int x1), (2, .int x2), (3, .int x3), (4, .int x4)] [] I J R := by
  refine k_ld hK 0 dX2_clearBelow_0 rfl rfl rfl rfl ?_
  refine k_ld hK 1 dX2_clearBelow_1 rfl rfl rfl rfl ?_
  refine k_ld hK 2 dX2_clearBelow_2 rfl rfl rfl rfl ?_
  refine k_cVp hK dX2_clearBelow_3 (Or.inl lm_X2_36) (As := [.int x1, .int x2]) (S := []) rfl (sc_76 hs) (Nat.le_of_ble_eq_true rfl) (fit_0 rfl rfl) rfl hF (fun r1 hF => ?_)
  show K _ _ [.int r1] _ _ _
  refine k_cSp hK dX2_clearBelow_6 lm_X2_49 (As := [.int r1]) (S := []) rfl (Nat.le_of_ble_eq_true rfl) (fit_0 rfl rfl) rfl hF (fun r2 hF => ?_)
  show K _ _ [.int r2] _ _ _
  refine k_st hK dX2_clearBelow_9 rfl rfl rfl (Nat.le_of_ble_eq_true rfl) rfl ?_
  refine k_ld hK 2 dX2_clearBelow_11 rfl rfl rfl rfl ?_
  refine k_ic hK dX2_clearBelow_12 ci_1 ?_
  refine k_op hK dX2_clearBelow_13 rfl rfl ?_
  refine k_st hK dX2_clearBelow_14 rfl rfl rfl (Nat.le_of_ble_eq_true rfl) rfl ?_
  exact k_sub hK [2, 3, 4, 5, 6, 1, 0] rfl hF
set_option maxHeartbeats 4000000 in
theorem g_X2_clearBelow_16 {d : Nat} {K : KT} {Q : Unit → HI → Prop} {I : HI} {J : HJ} {R : HR} {x1 : Int32} {x2 : Int32} {x3 : Int32} {x4 : Int32} {x5 : Int32} {x6 : Int32} (hK : am_R M_X2_clearBelow (am_W d) none R (qC fv J R Q) K) (hs : Stat R)  (hF : ((x3 ≤ x6 → Q () I) ∧ (¬ x3 ≤ x6 → Wp fi d M_X2_get [.ref 76, .int x6, .int x2] I J R (fun r2 => Wp fi d M_X3_times [.int r2, .int x5] I J R (fun r3 => K 39 [(0, .ref 76), (1, .int x1), (2, .int x2), (3, .int x3), (4, .int x4), (5, .int x5), (6, .int x6), (7, .int r3), (8, .int x2)] [] I J R))))) : K 16 [(0, .ref 76), (1, .int x1), (2, .int x2), (3, .int x3), (4, .int x4), (5, .int x5), (6, .int x6)] [] I J R := by
  refine k_ld hK 6 dX2_clearBelow_16 rfl rfl rfl rfl ?_
  refine k_ld hK 3 dX2_clearBelow_18 rfl rfl rfl rfl ?_
  refine k_cge hK dX2_clearBelow_19 (tgt := 89) rfl (fun h1 => ?_) (fun h1 => ?_)
  · have hF := hF.1 h1
    exact k_vret hK dX2_clearBelow_89 rfl (done_0 rfl rfl) (qC_i hF)
  · have hF := hF.2 h1
    refine k_ld hK 0 dX2_clearBelow_22 rfl rfl rfl rfl ?_
    refine k_ld hK 6 dX2_clearBelow_23 rfl rfl rfl rfl ?_
    refine k_ld hK 2 dX2_clearBelow_25 rfl rfl rfl rfl ?_
    refine k_cVp hK dX2_clearBelow_26 (Or.inl lm_X2_36) (As := [.int x6, .int x2]) (S := []) rfl (sc_76 hs) (Nat.le_of_ble_eq_true rfl) (fit_0 rfl rfl) rfl hF (fun r2 hF => ?_)
    show K _ _ [.int r2] _ _ _
    refine k_ld hK 5 dX2_clearBelow_29 rfl rfl rfl rfl ?_
    refine k_cSp hK dX2_clearBelow_31 lm_X2_39 (As := [.int r2, .int x5]) (S := []) rfl (Nat.le_of_ble_eq_true rfl) (fit_0 rfl rfl) rfl hF (fun r3 hF => ?_)
    show K _ _ [.int r3] _ _ _
    refine k_st hK dX2_clearBelow_34 rfl rfl rfl (Nat.le_of_ble_eq_true rfl) rfl ?_
    refine k_ld hK 3 dX2_clearBelow_36 rfl rfl rfl rfl ?_
    refine k_st hK dX2_clearBelow_37 rfl rfl rfl (Nat.le_of_ble_eq_true rfl) rfl ?_
    exact k_sub hK [2, 3, 4, 5, 6, 7, 8, 1, 0] rfl hF
set_option maxHeartbeats 4000000 in
theorem g_X2_clearBelow_39 {d : Nat} {K : KT} {Q : Unit → HI → Prop} {I : HI} {J : HJ} {R : HR} {x1 : Int32} {x2 : Int32} {x3 : Int32} {x4 : Int32} {x5 : Int32} {x6 : Int32} {x7 : Int32} {x8 : Int32} (hK : am_R M_X2_clearBelow (am_W d) none R (qC fv J R Q) K) (hs : Stat R)  (hF : ((x4 ≤ x8 → K 16 [(0, .ref 76), (1, .int x1), (2, .int x2), (3, .int x3), (4, .int x4), (5, .int x5), (6, .int (x6 + 1))] [] I J R) ∧ (¬ x4 ≤ x8 → Wp fi d M_X2_get [.ref 76, .int x6, .int x8] I J R (fun r2 => Wp fi d M_X2_get [.ref 76, .int x1, .int x8] I J R (fun r3 => Wp fi d M_X3_times [.int x7, .int r3] I J R (fun r4 => Wp fi d M_X3_minus [.int r2, .int r4] I J R (fun r5 => Wc fv d M_X2_put [.ref 76, .int x6, .int x8, .int r5] I J R (fun u6 I7 => K 39 [(0, .ref 76), (1, .int x1), (2, .int x2), (3, .int x3), (4, .int x4), (5, .int x5), (6, .int x6), (7, .int x7), (8, .int (x8 + 1))] [] I7 J R)))))))) : K 39 [(0, .ref 76), (1, .int x1), (2, .int x2), (3, .int x3), (4, .int x4), (5, .int x5), (6, .int x6), (7, .int x7), (8, .int x8)] [] I J R := by
  refine k_ld hK 8 dX2_clearBelow_39 rfl rfl rfl rfl ?_
  refine k_ld hK 4 dX2_clearBelow_41 rfl rfl rfl rfl ?_
  refine k_cge hK dX2_clearBelow_43 (tgt := 83) rfl (fun h1 => ?_) (fun h1 => ?_)
  · have hF := hF.1 h1
    refine k_iinc hK 6 dX2_clearBelow_83 (v := (x6 + 1)) rfl (Nat.le_of_ble_eq_true rfl) (congrArg (fun q => x6 + q) ci_1) rfl ?_
    refine k_goto hK dX2_clearBelow_86 (tgt := 16) rfl ?_
    exact k_sub hK [1, 2, 3, 4, 5, 6, 0] rfl hF
  · have hF := hF.2 h1
    refine k_ld hK 0 dX2_clearBelow_46 rfl rfl rfl rfl ?_
    refine k_ld hK 6 dX2_clearBelow_47 rfl rfl rfl rfl ?_
    refine k_ld hK 8 dX2_clearBelow_49 rfl rfl rfl rfl ?_
    refine k_ld hK 0 dX2_clearBelow_51 rfl rfl rfl rfl ?_
    refine k_ld hK 6 dX2_clearBelow_52 rfl rfl rfl rfl ?_
    refine k_ld hK 8 dX2_clearBelow_54 rfl rfl rfl rfl ?_
    refine k_cVp hK dX2_clearBelow_56 (Or.inl lm_X2_36) (As := [.int x6, .int x8]) (S := [.int x8, .int x6, .ref 76]) rfl (sc_76 hs) (Nat.le_of_ble_eq_true rfl) (fit_0 rfl rfl) rfl hF (fun r2 hF => ?_)
    show K _ _ [.int r2, .int x8, .int x6, .ref 76] _ _ _
    refine k_ld hK 7 dX2_clearBelow_59 rfl rfl rfl rfl ?_
    refine k_ld hK 0 dX2_clearBelow_61 rfl rfl rfl rfl ?_
    refine k_ld hK 1 dX2_clearBelow_62 rfl rfl rfl rfl ?_
    refine k_ld hK 8 dX2_clearBelow_63 rfl rfl rfl rfl ?_
    refine k_cVp hK dX2_clearBelow_65 (Or.inl lm_X2_36) (As := [.int x1, .int x8]) (S := [.int x7, .int r2, .int x8, .int x6, .ref 76]) rfl (sc_76 hs) (Nat.le_of_ble_eq_true rfl) (fit_0 rfl rfl) rfl hF (fun r3 hF => ?_)
    show K _ _ [.int r3, .int x7, .int r2, .int x8, .int x6, .ref 76] _ _ _
    refine k_cSp hK dX2_clearBelow_68 lm_X2_39 (As := [.int x7, .int r3]) (S := [.int r2, .int x8, .int x6, .ref 76]) rfl (Nat.le_of_ble_eq_true rfl) (fit_0 rfl rfl) rfl hF (fun r4 hF => ?_)
    show K _ _ [.int r4, .int r2, .int x8, .int x6, .ref 76] _ _ _
    refine k_cSp hK dX2_clearBelow_71 lm_X2_30 (As := [.int r2, .int r4]) (S := [.int x8, .int x6, .ref 76]) rfl (Nat.le_of_ble_eq_true rfl) (fit_0 rfl rfl) rfl hF (fun r5 hF => ?_)
    show K _ _ [.int r5, .int x8, .int x6, .ref 76] _ _ _
    refine k_cVc hK dX2_clearBelow_74 (Or.inl lm_X2_46) (As := [.int x6, .int x8, .int r5]) (S := []) rfl (sc_76 hs) (Nat.le_of_ble_eq_true rfl) (fit_0 rfl rfl) rfl hF (fun u6 I7 hF => ?_)
    show K _ _ [] _ _ _
    refine k_iinc hK 8 dX2_clearBelow_77 (v := (x8 + 1)) rfl (Nat.le_of_ble_eq_true rfl) (congrArg (fun q => x8 + q) ci_1) rfl ?_
    refine k_goto hK dX2_clearBelow_80 (tgt := 39) rfl ?_
    exact k_sub hK [1, 2, 3, 4, 5, 6, 7, 8, 0] rfl hF
set_option maxHeartbeats 4000000 in
theorem g_X3_of_0 {d : Nat} {K : KT} {Q : Int32 → Prop} {I : HI} {J : HJ} {R : HR} {x0 : Int32} (hK : am_R M_X3_of (am_W d) none R (qP fi I J R Q) K) (hs : Stat R)  (hF : ((0 ≤ (x0 - x0 / 1000000007 * 1000000007) → Q (x0 - x0 / 1000000007 * 1000000007)) ∧ (¬ 0 ≤ (x0 - x0 / 1000000007 * 1000000007) → Q ((x0 - x0 / 1000000007 * 1000000007) + 1000000007)))) : K 0 [(0, .int x0)] [] I J R := by
  refine k_ld hK 0 dX3_of_0 rfl rfl rfl rfl ?_
  refine k_ldc hK dX3_of_1 lc_X3_9 ?_
  refine k_irem hK dX3_of_3 (by decide) ?_
  refine k_st hK dX3_of_4 rfl rfl rfl (Nat.le_of_ble_eq_true rfl) rfl ?_
  refine k_ld hK 0 dX3_of_5 rfl rfl rfl rfl ?_
  refine k_ge hK dX3_of_6 (tgt := 16) rfl (fun h1 => ?_) (fun h1 => ?_)
  · have hF := hF.1 h1
    refine k_ld hK 0 dX3_of_16 rfl rfl rfl rfl ?_
    exact k_iret hK dX3_of_17 rfl rfl (done_0 rfl rfl) (qP_i hF)
  · have hF := hF.2 h1
    refine k_ld hK 0 dX3_of_9 rfl rfl rfl rfl ?_
    refine k_ldc hK dX3_of_10 lc_X3_9 ?_
    refine k_op hK dX3_of_12 rfl rfl ?_
    refine k_goto hK dX3_of_13 (tgt := 17) rfl ?_
    exact k_iret hK dX3_of_17 rfl rfl (done_0 rfl rfl) (qP_i hF)
theorem e_X3_of {d : Nat} {Q : Int32 → Prop} {I : HI} {J : HJ} {R : HR} {x0 : Int32} (hs : Stat R)  (hF : ((0 ≤ (x0 - x0 / 1000000007 * 1000000007) → Q (x0 - x0 / 1000000007 * 1000000007)) ∧ (¬ 0 ≤ (x0 - x0 / 1000000007 * 1000000007) → Q ((x0 - x0 / 1000000007 * 1000000007) + 1000000007)))) : Wp fi (d + 1) M_X3_of [.int x0] I J R Q := ⟨Nat.le_of_ble_eq_true rfl, fun K hK => g_X3_of_0 hK hs hF⟩
set_option maxHeartbeats 4000000 in
theorem g_X3_plus_0 {d : Nat} {K : KT} {Q : Int32 → Prop} {I : HI} {J : HJ} {R : HR} {x0 : Int32} {x1 : Int32} (hK : am_R M_X3_plus (am_W d) none R (qP fi I J R Q) K) (hs : Stat R)  (hF : (((x0 + x1) < 1000000007 → Q (x0 + x1)) ∧ (¬ (x0 + x1) < 1000000007 → Q ((x0 + x1) - 1000000007)))) : K 0 [(0, .int x0), (1, .int x1)] [] I J R := by
  refine k_ld hK 0 dX3_plus_0 rfl rfl rfl rfl ?_
  refine k_ld hK 1 dX3_plus_1 rfl rfl rfl rfl ?_
  refine k_op hK dX3_plus_2 rfl rfl ?_
  refine k_st hK dX3_plus_3 rfl rfl rfl (Nat.le_of_ble_eq_true rfl) rfl ?_
  refine k_ld hK 0 dX3_plus_4 rfl rfl rfl rfl ?_
  refine k_ldc hK dX3_plus_5 lc_X3_9 ?_
  refine k_clt hK dX3_plus_7 (tgt := 17) rfl (fun h1 => ?_) (fun h1 => ?_)
  · have hF := hF.1 h1
    refine k_ld hK 0 dX3_plus_17 rfl rfl rfl rfl ?_
    exact k_iret hK dX3_plus_18 rfl rfl (done_0 rfl rfl) (qP_i hF)
  · have hF := hF.2 h1
    refine k_ld hK 0 dX3_plus_10 rfl rfl rfl rfl ?_
    refine k_ldc hK dX3_plus_11 lc_X3_9 ?_
    refine k_op hK dX3_plus_13 rfl rfl ?_
    refine k_goto hK dX3_plus_14 (tgt := 18) rfl ?_
    exact k_iret hK dX3_plus_18 rfl rfl (done_0 rfl rfl) (qP_i hF)
theorem e_X3_plus {d : Nat} {Q : Int32 → Prop} {I : HI} {J : HJ} {R : HR} {x0 : Int32} {x1 : Int32} (hs : Stat R)  (hF : (((x0 + x1) < 1000000007 → Q (x0 + x1)) ∧ (¬ (x0 + x1) < 1000000007 → Q ((x0 + x1) - 1000000007)))) : Wp fi (d + 1) M_X3_plus [.int x0, .int x1] I J R Q := ⟨Nat.le_of_ble_eq_true rfl, fun K hK => g_X3_plus_0 hK hs hF⟩
set_option maxHeartbeats 4000000 in
theorem g_X3_minus_0 {d : Nat} {K : KT} {Q : Int32 → Prop} {I : HI} {J : HJ} {R : HR} {x0 : Int32} {x1 : Int32} (hK : am_R M_X3_minus (am_W d) none R (qP fi I J R Q) K) (hs : Stat R)  (hF : ((0 ≤ (x0 - x1) → Q (x0 - x1)) ∧ (¬ 0 ≤ (x0 - x1) → Q ((x0 - x1) + 1000000007)))) : K 0 [(0, .int x0), (1, .int x1)] [] I J R := by
  refine k_ld hK 0 dX3_minus_0 rfl rfl rfl rfl ?_
  refine k_ld hK 1 dX3_minus_1 rfl rfl rfl rfl ?_
  refine k_op hK dX3_minus_2 rfl rfl ?_
  refine k_st hK dX3_minus_3 rfl rfl rfl (Nat.le_of_ble_eq_true rfl) rfl ?_
  refine k_ld hK 0 dX3_minus_4 rfl rfl rfl rfl ?_
  refine k_ge hK dX3_minus_5 (tgt := 15) rfl (fun h1 => ?_) (fun h1 => ?_)
  · have hF := hF.1 h1
    refine k_ld hK 0 dX3_minus_15 rfl rfl rfl rfl ?_
    exact k_iret hK dX3_minus_16 rfl rfl (done_0 rfl rfl) (qP_i hF)
  · have hF := hF.2 h1
    refine k_ld hK 0 dX3_minus_8 rfl rfl rfl rfl ?_
    refine k_ldc hK dX3_minus_9 lc_X3_9 ?_
    refine k_op hK dX3_minus_11 rfl rfl ?_
    refine k_goto hK dX3_minus_12 (tgt := 16) rfl ?_
    exact k_iret hK dX3_minus_16 rfl rfl (done_0 rfl rfl) (qP_i hF)
theorem e_X3_minus {d : Nat} {Q : Int32 → Prop} {I : HI} {J : HJ} {R : HR} {x0 : Int32} {x1 : Int32} (hs : Stat R)  (hF : ((0 ≤ (x0 - x1) → Q (x0 - x1)) ∧ (¬ 0 ≤ (x0 - x1) → Q ((x0 - x1) + 1000000007)))) : Wp fi (d + 1) M_X3_minus [.int x0, .int x1] I J R Q := ⟨Nat.le_of_ble_eq_true rfl, fun K hK => g_X3_minus_0 hK hs hF⟩
set_option maxHeartbeats 4000000 in
theorem g_X3_times_0 {d : Nat} {K : KT} {Q : Int32 → Prop} {I : HI} {J : HJ} {R : HR} {x0 : Int32} {x1 : Int32} (hK : am_R M_X3_times (am_W d) none R (qP fi I J R Q) K) (hs : Stat R)  (hF : Q (Int64.toInt32 (((Int32.toInt64 x0) * (Int32.toInt64 x1)) - ((Int32.toInt64 x0) * (Int32.toInt64 x1)) / (1000000007 : Int64) * (1000000007 : Int64)))) : K 0 [(0, .int x0), (1, .int x1)] [] I J R := by
  refine k_ld hK 0 dX3_times_0 rfl rfl rfl rfl ?_
  refine k_op hK dX3_times_1 rfl rfl ?_
  refine k_ld hK 1 dX3_times_2 rfl rfl rfl rfl ?_
  refine k_op hK dX3_times_3 rfl rfl ?_
  refine k_op hK dX3_times_4 rfl rfl ?_
  refine k_ldc2 hK dX3_times_5 lc_X3_10 ?_
  refine k_lrem hK dX3_times_8 (by decide) ?_
  refine k_op hK dX3_times_9 rfl rfl ?_
  exact k_iret hK dX3_times_10 rfl rfl (done_0 rfl rfl) (qP_i hF)
theorem e_X3_times {d : Nat} {Q : Int32 → Prop} {I : HI} {J : HJ} {R : HR} {x0 : Int32} {x1 : Int32} (hs : Stat R)  (hF : Q (Int64.toInt32 (((Int32.toInt64 x0) * (Int32.toInt64 x1)) - ((Int32.toInt64 x0) * (Int32.toInt64 x1)) / (1000000007 : Int64) * (1000000007 : Int64)))) : Wp fi (d + 1) M_X3_times [.int x0, .int x1] I J R Q := ⟨Nat.le_of_ble_eq_true rfl, fun K hK => g_X3_times_0 hK hs hF⟩
set_option maxHeartbeats 4000000 in
theorem g_X3_inverse_0 {d : Nat} {K : KT} {Q : Int32 → Prop} {I : HI} {J : HJ} {R : HR} {x0 : Int32} (hK : am_R M_X3_inverse (am_W d) none R (qP fi I J R Q) K) (hs : Stat R)  (hF : K 9 [(1, .long (Int32.toInt64 x0)), (3, .long (1 : Int64)), (5, .int 1000000005)] [] I J R) : K 0 [(0, .int x0)] [] I J R := by
  refine k_ld hK 0 dX3_inverse_0 rfl rfl rfl rfl ?_
  refine k_op hK dX3_inverse_1 rfl rfl ?_
  refine k_st hK dX3_inverse_2 rfl rfl rfl (Nat.le_of_ble_eq_true rfl) rfl ?_
  refine k_lc hK dX3_inverse_3 cl_1 ?_
  refine k_st hK dX3_inverse_4 rfl rfl rfl (Nat.le_of_ble_eq_true rfl) rfl ?_
  refine k_ldc hK dX3_inverse_5 lc_X3_12 ?_
  refine k_st hK dX3_inverse_7 rfl rfl rfl (Nat.le_of_ble_eq_true rfl) rfl ?_
  exact k_sub hK [2, 1, 0] rfl hF
set_option maxHeartbeats 4000000 in
theorem g_X3_inverse_9 {d : Nat} {K : KT} {Q : Int32 → Prop} {I : HI} {J : HJ} {R : HR} {z1 : Int64} {z3 : Int64} {x5 : Int32} (hK : am_R M_X3_inverse (am_W d) none R (qP fi I J R Q) K) (hs : Stat R)  (hF : ((x5 ≤ 0 → Q (Int64.toInt32 z3)) ∧ (¬ x5 ≤ 0 → (((x5 &&& 1) = 0 → K 9 [(1, .long ((z1 * z1) - (z1 * z1) / (1000000007 : Int64) * (1000000007 : Int64))), (3, .long z3), (5, .int (x5 >>> ((1 : Int32) &&& 31) : Int32))] [] I J R) ∧ (¬ (x5 &&& 1) = 0 → K 9 [(1, .long ((z1 * z1) - (z1 * z1) / (1000000007 : Int64) * (1000000007 : Int64))), (3, .long ((z3 * z1) - (z3 * z1) / (1000000007 : Int64) * (1000000007 : Int64))), (5, .int (x5 >>> ((1 : Int32) &&& 31) : Int32))] [] I J R))))) : K 9 [(1, .long z1), (3, .long z3), (5, .int x5)] [] I J R := by
  refine k_ld hK 2 dX3_inverse_9 rfl rfl rfl rfl ?_
  refine k_le hK dX3_inverse_11 (tgt := 46) rfl (fun h1 => ?_) (fun h1 => ?_)
  · have hF := hF.1 h1
    refine k_ld hK 1 dX3_inverse_46 rfl rfl rfl rfl ?_
    refine k_op hK dX3_inverse_47 rfl rfl ?_
    exact k_iret hK dX3_inverse_48 rfl rfl (done_0 rfl rfl) (qP_i hF)
  · have hF := hF.2 h1
    refine k_ld hK 2 dX3_inverse_14 rfl rfl rfl rfl ?_
    refine k_ic hK dX3_inverse_16 ci_1 ?_
    refine k_op hK dX3_inverse_17 rfl rfl ?_
    refine k_eq hK dX3_inverse_18 (tgt := 29) rfl (fun h2 => ?_) (fun h2 => ?_)
    · have hF := hF.1 h2
      refine k_ld hK 0 dX3_inverse_29 rfl rfl rfl rfl ?_
      refine k_ld hK 0 dX3_inverse_30 rfl rfl rfl rfl ?_
      refine k_op hK dX3_inverse_31 rfl rfl ?_
      refine k_ldc2 hK dX3_inverse_32 lc_X3_10 ?_
      refine k_lrem hK dX3_inverse_35 (by decide) ?_
      refine k_st hK dX3_inverse_36 rfl rfl rfl (Nat.le_of_ble_eq_true rfl) rfl ?_
      refine k_ld hK 2 dX3_inverse_37 rfl rfl rfl rfl ?_
      refine k_ic hK dX3_inverse_39 ci_1 ?_
      refine k_op hK dX3_inverse_40 rfl rfl ?_
      refine k_st hK dX3_inverse_41 rfl rfl rfl (Nat.le_of_ble_eq_true rfl) rfl ?_
      refine k_goto hK dX3_inverse_43 (tgt := 9) rfl ?_
      exact k_sub hK [1, 2, 0] rfl hF
    · have hF := hF.2 h2
      refine k_ld hK 1 dX3_inverse_21 rfl rfl rfl rfl ?_
      refine k_ld hK 0 dX3_inverse_22 rfl rfl rfl rfl ?_
      refine k_op hK dX3_inverse_23 rfl rfl ?_
      refine k_ldc2 hK dX3_inverse_24 lc_X3_10 ?_
      refine k_lrem hK dX3_inverse_27 (by decide) ?_
      refine k_st hK dX3_inverse_28 rfl rfl rfl (Nat.le_of_ble_eq_true rfl) rfl ?_
      refine k_ld hK 1 dX3_inverse_29 rfl rfl rfl rfl ?_
      refine k_ld hK 1 dX3_inverse_30 rfl rfl rfl rfl ?_
      refine k_op hK dX3_inverse_31 rfl rfl ?_
      refine k_ldc2 hK dX3_inverse_32 lc_X3_10 ?_
      refine k_lrem hK dX3_inverse_35 (by decide) ?_
      refine k_st hK dX3_inverse_36 rfl rfl rfl (Nat.le_of_ble_eq_true rfl) rfl ?_
      refine k_ld hK 2 dX3_inverse_37 rfl rfl rfl rfl ?_
      refine k_ic hK dX3_inverse_39 ci_1 ?_
      refine k_op hK dX3_inverse_40 rfl rfl ?_
      refine k_st hK dX3_inverse_41 rfl rfl rfl (Nat.le_of_ble_eq_true rfl) rfl ?_
      refine k_goto hK dX3_inverse_43 (tgt := 9) rfl ?_
      exact k_sub hK [1, 2, 0] rfl hF
set_option maxHeartbeats 4000000 in
theorem g_X3_signed_0 {d : Nat} {K : KT} {Q : Int32 → Prop} {I : HI} {J : HJ} {R : HR} {x0 : Int32} (hK : am_R M_X3_signed (am_W d) none R (qP fi I J R Q) K) (hs : Stat R)  (hF : ((x0 ≤ 500000003 → Q x0) ∧ (¬ x0 ≤ 500000003 → Q (x0 - 1000000007)))) : K 0 [(0, .int x0)] [] I J R := by
  refine k_ld hK 0 dX3_signed_0 rfl rfl rfl rfl ?_
  refine k_ldc hK dX3_signed_1 lc_X3_13 ?_
  refine k_cle hK dX3_signed_3 (tgt := 13) rfl (fun h1 => ?_) (fun h1 => ?_)
  · have hF := hF.1 h1
    refine k_ld hK 0 dX3_signed_13 rfl rfl rfl rfl ?_
    exact k_iret hK dX3_signed_14 rfl rfl (done_0 rfl rfl) (qP_i hF)
  · have hF := hF.2 h1
    refine k_ld hK 0 dX3_signed_6 rfl rfl rfl rfl ?_
    refine k_ldc hK dX3_signed_7 lc_X3_9 ?_
    refine k_op hK dX3_signed_9 rfl rfl ?_
    refine k_goto hK dX3_signed_10 (tgt := 14) rfl ?_
    exact k_iret hK dX3_signed_14 rfl rfl (done_0 rfl rfl) (qP_i hF)
theorem e_X3_signed {d : Nat} {Q : Int32 → Prop} {I : HI} {J : HJ} {R : HR} {x0 : Int32} (hs : Stat R)  (hF : ((x0 ≤ 500000003 → Q x0) ∧ (¬ x0 ≤ 500000003 → Q (x0 - 1000000007)))) : Wp fi (d + 1) M_X3_signed [.int x0] I J R Q := ⟨Nat.le_of_ble_eq_true rfl, fun K hK => g_X3_signed_0 hK hs hF⟩
set_option maxHeartbeats 4000000 in
theorem g_X5_clear_0 {d : Nat} {K : KT} {Q : Unit → HI → Prop} {I : HI} {J : HJ} {R : HR} {o : Nat} (hK : am_R M_X5_clear (am_W d) none R (qC fv J R Q) K) (hs : Stat R) (h_o : isX5 o) (hF : Q () (up (up (up (up (up (up I o 1 0) o 2 0) o 3 0) o 4 0) o 5 0) o 6 0)) : K 0 [(0, .ref o)] [] I J R := by
  refine k_ld hK 0 dX5_clear_0 rfl rfl rfl rfl ?_
  refine k_ic hK dX5_clear_1 ci_0 ?_
  refine k_pI hK dX5_clear_2 lf_X5_21 rfl rfl rfl (sk_X5_0 hs h_o) ?_
  refine k_ld hK 0 dX5_clear_5 rfl rfl rfl rfl ?_
  refine k_ic hK dX5_clear_6 ci_0 ?_
  refine k_pI hK dX5_clear_7 lf_X5_25 rfl rfl rfl (sk_X5_0 hs h_o) ?_
  refine k_ld hK 0 dX5_clear_10 rfl rfl rfl rfl ?_
  refine k_ic hK dX5_clear_11 ci_0 ?_
  refine k_pI hK dX5_clear_12 lf_X5_28 rfl rfl rfl (sk_X5_0 hs h_o) ?_
  refine k_ld hK 0 dX5_clear_15 rfl rfl rfl rfl ?_
  refine k_ic hK dX5_clear_16 ci_0 ?_
  refine k_pI hK dX5_clear_17 lf_X5_31 rfl rfl rfl (sk_X5_0 hs h_o) ?_
  refine k_ld hK 0 dX5_clear_20 rfl rfl rfl rfl ?_
  refine k_ic hK dX5_clear_21 ci_0 ?_
  refine k_pI hK dX5_clear_22 lf_X5_34 rfl rfl rfl (sk_X5_0 hs h_o) ?_
  refine k_ld hK 0 dX5_clear_25 rfl rfl rfl rfl ?_
  refine k_ic hK dX5_clear_26 ci_0 ?_
  refine k_pI hK dX5_clear_27 lf_X5_37 rfl rfl rfl (sk_X5_0 hs h_o) ?_
  exact k_vret hK dX5_clear_30 rfl (done_0 rfl rfl) (qC_i hF)
theorem e_X5_clear {d : Nat} {Q : Unit → HI → Prop} {I : HI} {J : HJ} {R : HR} {o : Nat} (hs : Stat R) (h_o : isX5 o) (hF : Q () (up (up (up (up (up (up I o 1 0) o 2 0) o 3 0) o 4 0) o 5 0) o 6 0)) : Wc fv (d + 1) M_X5_clear [.ref o] I J R Q := ⟨Nat.le_of_ble_eq_true rfl, fun K hK => g_X5_clear_0 hK hs h_o hF⟩
set_option maxHeartbeats 4000000 in
theorem g_X5_emit_0 {d : Nat} {K : KT} {Q : Unit → HI → Prop} {I : HI} {J : HJ} {R : HR} {o : Nat} {x1 : Int32} {x2 : Int32} {x3 : Int32} (hK : am_R M_X5_emit (am_W d) none R (qC fv J R Q) K) (hs : Stat R) (h_o : isX5 o) (hF : ((900 ≤ (I o 1) → Q () I) ∧ (¬ 900 ≤ (I o 1) → (∃ n2 : Nat, (I o 1) = nI n2 ∧ n2 < 900 ∧ Q () (up (up I (o + 1) n2 (((x2 <<< ((10 : Int32) &&& 31) : Int32) ||| (x3 <<< ((4 : Int32) &&& 31) : Int32)) ||| x1)) o 1 ((I o 1) + 1)))))) : K 0 [(0, .ref o), (1, .int x1), (2, .int x2), (3, .int x3)] [] I J R := by
  refine k_ld hK 0 dX5_emit_0 rfl rfl rfl rfl ?_
  refine k_gI hK dX5_emit_1 lf_X5_21 rfl (sk_X5_0 hs h_o) rfl ?_
  refine k_si hK dX5_emit_4 cs_900 ?_
  refine k_cge hK dX5_emit_7 (tgt := 39) rfl (fun h1 => ?_) (fun h1 => ?_)
  · have hF := hF.1 h1
    exact k_vret hK dX5_emit_39 rfl (done_0 rfl rfl) (qC_i hF)
  · have hF := hF.2 h1
    refine k_ld hK 0 dX5_emit_10 rfl rfl rfl rfl ?_
    refine k_gR hK dX5_emit_11 lf_X5_9 rfl (sk_X5_0 hs h_o) (sr_X5_0_0 hs h_o) ?_
    refine k_ld hK 0 dX5_emit_14 rfl rfl rfl rfl ?_
    refine k_gI hK dX5_emit_15 lf_X5_21 rfl (sk_X5_0 hs h_o) rfl ?_
    refine k_ld hK 2 dX5_emit_18 rfl rfl rfl rfl ?_
    refine k_bi hK dX5_emit_19 cb_10 ?_
    refine k_op hK dX5_emit_21 rfl rfl ?_
    refine k_ld hK 3 dX5_emit_22 rfl rfl rfl rfl ?_
    refine k_ic hK dX5_emit_23 ci_4 ?_
    refine k_op hK dX5_emit_24 rfl rfl ?_
    refine k_op hK dX5_emit_25 rfl rfl ?_
    refine k_ld hK 1 dX5_emit_26 rfl rfl rfl rfl ?_
    refine k_op hK dX5_emit_27 rfl rfl ?_
    obtain ⟨n2, i3, j4, hF⟩ := hF
    refine k_iast hK dX5_emit_28 (sk_X5_1 hs h_o) (sl_X5_1 h_o) (by decide) i3 j4 ?_
    refine k_ld hK 0 dX5_emit_29 rfl rfl rfl rfl ?_
    refine k_op hK dX5_emit_30 rfl rfl ?_
    refine k_gI hK dX5_emit_31 lf_X5_21 rfl (sk_X5_0 hs h_o) ((up_na (by omega)).trans rfl) ?_
    refine k_ic hK dX5_emit_34 ci_1 ?_
    refine k_op hK dX5_emit_35 rfl rfl ?_
    refine k_pI hK dX5_emit_36 lf_X5_21 rfl rfl rfl (sk_X5_0 hs h_o) ?_
    exact k_vret hK dX5_emit_39 rfl (done_0 rfl rfl) (qC_i hF)
theorem e_X5_emit {d : Nat} {Q : Unit → HI → Prop} {I : HI} {J : HJ} {R : HR} {o : Nat} {x1 : Int32} {x2 : Int32} {x3 : Int32} (hs : Stat R) (h_o : isX5 o) (hF : ((900 ≤ (I o 1) → Q () I) ∧ (¬ 900 ≤ (I o 1) → (∃ n2 : Nat, (I o 1) = nI n2 ∧ n2 < 900 ∧ Q () (up (up I (o + 1) n2 (((x2 <<< ((10 : Int32) &&& 31) : Int32) ||| (x3 <<< ((4 : Int32) &&& 31) : Int32)) ||| x1)) o 1 ((I o 1) + 1)))))) : Wc fv (d + 1) M_X5_emit [.ref o, .int x1, .int x2, .int x3] I J R Q := ⟨Nat.le_of_ble_eq_true rfl, fun K hK => g_X5_emit_0 hK hs h_o hF⟩
set_option maxHeartbeats 4000000 in
theorem g_X5_leadHere_0 {d : Nat} {K : KT} {Q : Unit → HI → Prop} {I : HI} {J : HJ} {R : HR} {o : Nat} {x1 : Int32} (hK : am_R M_X5_leadHere (am_W d) none R (qC fv J R Q) K) (hs : Stat R) (h_o : isX5 o) (hF : ((x1 < 0 → Q () I) ∧ (¬ x1 < 0 → (((I o 1) ≤ x1 → Q () I) ∧ (¬ (I o 1) ≤ x1 → (∃ n3 : Nat, x1 = nI n3 ∧ n3 < 900 ∧ Q () (up I (o + 1) n3 (((I o 1) <<< ((10 : Int32) &&& 31) : Int32) ||| ((I (o + 1) n3) &&& 1023))))))))) : K 0 [(0, .ref o), (1, .int x1)] [] I J R := by
  refine k_ld hK 1 dX5_leadHere_0 rfl rfl rfl rfl ?_
  refine k_lt hK dX5_leadHere_1 (tgt := 36) rfl (fun h1 => ?_) (fun h1 => ?_)
  · have hF := hF.1 h1
    exact k_vret hK dX5_leadHere_36 rfl (done_0 rfl rfl) (qC_i hF)
  · have hF := hF.2 h1
    refine k_ld hK 1 dX5_leadHere_4 rfl rfl rfl rfl ?_
    refine k_ld hK 0 dX5_leadHere_5 rfl rfl rfl rfl ?_
    refine k_gI hK dX5_leadHere_6 lf_X5_21 rfl (sk_X5_0 hs h_o) rfl ?_
    refine k_cge hK dX5_leadHere_9 (tgt := 36) rfl (fun h2 => ?_) (fun h2 => ?_)
    · have hF := hF.1 h2
      exact k_vret hK dX5_leadHere_36 rfl (done_0 rfl rfl) (qC_i hF)
    · have hF := hF.2 h2
      refine k_ld hK 0 dX5_leadHere_12 rfl rfl rfl rfl ?_
      refine k_gR hK dX5_leadHere_13 lf_X5_9 rfl (sk_X5_0 hs h_o) (sr_X5_0_0 hs h_o) ?_
      refine k_ld hK 1 dX5_leadHere_16 rfl rfl rfl rfl ?_
      refine k_ld hK 0 dX5_leadHere_17 rfl rfl rfl rfl ?_
      refine k_gI hK dX5_leadHere_18 lf_X5_21 rfl (sk_X5_0 hs h_o) rfl ?_
      refine k_bi hK dX5_leadHere_21 cb_10 ?_
      refine k_op hK dX5_leadHere_23 rfl rfl ?_
      refine k_ld hK 0 dX5_leadHere_24 rfl rfl rfl rfl ?_
      refine k_gR hK dX5_leadHere_25 lf_X5_9 rfl (sk_X5_0 hs h_o) (sr_X5_0_0 hs h_o) ?_
      refine k_ld hK 1 dX5_leadHere_28 rfl rfl rfl rfl ?_
      obtain ⟨n3, i4, j5, hF⟩ := hF
      refine k_iald hK dX5_leadHere_29 (sk_X5_1 hs h_o) (sl_X5_1 h_o) (by decide) i4 j5 rfl ?_
      refine k_si hK dX5_leadHere_30 cs_1023 ?_
      refine k_op hK dX5_leadHere_33 rfl rfl ?_
      refine k_op hK dX5_leadHere_34 rfl rfl ?_
      refine k_iast hK dX5_leadHere_35 (sk_X5_1 hs h_o) (sl_X5_1 h_o) (by decide) i4 j5 ?_
      exact k_vret hK dX5_leadHere_36 rfl (done_0 rfl rfl) (qC_i hF)
theorem e_X5_leadHere {d : Nat} {Q : Unit → HI → Prop} {I : HI} {J : HJ} {R : HR} {o : Nat} {x1 : Int32} (hs : Stat R) (h_o : isX5 o) (hF : ((x1 < 0 → Q () I) ∧ (¬ x1 < 0 → (((I o 1) ≤ x1 → Q () I) ∧ (¬ (I o 1) ≤ x1 → (∃ n3 : Nat, x1 = nI n3 ∧ n3 < 900 ∧ Q () (up I (o + 1) n3 (((I o 1) <<< ((10 : Int32) &&& 31) : Int32) ||| ((I (o + 1) n3) &&& 1023))))))))) : Wc fv (d + 1) M_X5_leadHere [.ref o, .int x1] I J R Q := ⟨Nat.le_of_ble_eq_true rfl, fun K hK => g_X5_leadHere_0 hK hs h_o hF⟩
set_option maxHeartbeats 4000000 in
theorem g_X5_kindAt_0 {d : Nat} {K : KT} {Q : Int32 → Prop} {I : HI} {J : HJ} {R : HR} {o : Nat} {x1 : Int32} (hK : am_R M_X5_kindAt (am_W d) none R (qP fi I J R Q) K) (hs : Stat R) (h_o : isX5 o) (hF : ((x1 < 0 → Q (-1)) ∧ (¬ x1 < 0 → (((I o 1) ≤ x1 → Q (-1)) ∧ (¬ (I o 1) ≤ x1 → (∃ n3 : Nat, x1 = nI n3 ∧ n3 < 900 ∧ Q ((I (o + 1) n3) &&& 15))))))) : K 0 [(0, .ref o), (1, .int x1)] [] I J R := by
  refine k_ld hK 1 dX5_kindAt_0 rfl rfl rfl rfl ?_
  refine k_lt hK dX5_kindAt_1 (tgt := 24) rfl (fun h1 => ?_) (fun h1 => ?_)
  · have hF := hF.1 h1
    refine k_ic hK dX5_kindAt_24 ci_m1 ?_
    exact k_iret hK dX5_kindAt_25 rfl rfl (done_0 rfl rfl) (qP_i hF)
  · have hF := hF.2 h1
    refine k_ld hK 1 dX5_kindAt_4 rfl rfl rfl rfl ?_
    refine k_ld hK 0 dX5_kindAt_5 rfl rfl rfl rfl ?_
    refine k_gI hK dX5_kindAt_6 lf_X5_21 rfl (sk_X5_0 hs h_o) rfl ?_
    refine k_cge hK dX5_kindAt_9 (tgt := 24) rfl (fun h2 => ?_) (fun h2 => ?_)
    · have hF := hF.1 h2
      refine k_ic hK dX5_kindAt_24 ci_m1 ?_
      exact k_iret hK dX5_kindAt_25 rfl rfl (done_0 rfl rfl) (qP_i hF)
    · have hF := hF.2 h2
      refine k_ld hK 0 dX5_kindAt_12 rfl rfl rfl rfl ?_
      refine k_gR hK dX5_kindAt_13 lf_X5_9 rfl (sk_X5_0 hs h_o) (sr_X5_0_0 hs h_o) ?_
      refine k_ld hK 1 dX5_kindAt_16 rfl rfl rfl rfl ?_
      obtain ⟨n3, i4, j5, hF⟩ := hF
      refine k_iald hK dX5_kindAt_17 (sk_X5_1 hs h_o) (sl_X5_1 h_o) (by decide) i4 j5 rfl ?_
      refine k_bi hK dX5_kindAt_18 cb_15 ?_
      refine k_op hK dX5_kindAt_20 rfl rfl ?_
      refine k_goto hK dX5_kindAt_21 (tgt := 25) rfl ?_
      exact k_iret hK dX5_kindAt_25 rfl rfl (done_0 rfl rfl) (qP_i hF)
theorem e_X5_kindAt {d : Nat} {Q : Int32 → Prop} {I : HI} {J : HJ} {R : HR} {o : Nat} {x1 : Int32} (hs : Stat R) (h_o : isX5 o) (hF : ((x1 < 0 → Q (-1)) ∧ (¬ x1 < 0 → (((I o 1) ≤ x1 → Q (-1)) ∧ (¬ (I o 1) ≤ x1 → (∃ n3 : Nat, x1 = nI n3 ∧ n3 < 900 ∧ Q ((I (o + 1) n3) &&& 15))))))) : Wp fi (d + 1) M_X5_kindAt [.ref o, .int x1] I J R Q := ⟨Nat.le_of_ble_eq_true rfl, fun K hK => g_X5_kindAt_0 hK hs h_o hF⟩
set_option maxHeartbeats 4000000 in
theorem g_X5_operandAt_0 {d : Nat} {K : KT} {Q : Int32 → Prop} {I : HI} {J : HJ} {R : HR} {o : Nat} {x1 : Int32} (hK : am_R M_X5_operandAt (am_W d) none R (qP fi I J R Q) K) (hs : Stat R) (h_o : isX5 o) (hF : ((x1 < 0 → Q 0) ∧ (¬ x1 < 0 → (((I o 1) ≤ x1 → Q 0) ∧ (¬ (I o 1) ≤ x1 → (∃ n3 : Nat, x1 = nI n3 ∧ n3 < 900 ∧ Q ((I (o + 1) n3) >>> ((10 : Int32) &&& 31) : Int32))))))) : K 0 [(0, .ref o), (1, .int x1)] [] I J R := by
  refine k_ld hK 1 dX5_operandAt_0 rfl rfl rfl rfl ?_
  refine k_lt hK dX5_operandAt_1 (tgt := 24) rfl (fun h1 => ?_) (fun h1 => ?_)
  · have hF := hF.1 h1
    refine k_ic hK dX5_operandAt_24 ci_0 ?_
    exact k_iret hK dX5_operandAt_25 rfl rfl (done_0 rfl rfl) (qP_i hF)
  · have hF := hF.2 h1
    refine k_ld hK 1 dX5_operandAt_4 rfl rfl rfl rfl ?_
    refine k_ld hK 0 dX5_operandAt_5 rfl rfl rfl rfl ?_
    refine k_gI hK dX5_operandAt_6 lf_X5_21 rfl (sk_X5_0 hs h_o) rfl ?_
    refine k_cge hK dX5_operandAt_9 (tgt := 24) rfl (fun h2 => ?_) (fun h2 => ?_)
    · have hF := hF.1 h2
      refine k_ic hK dX5_operandAt_24 ci_0 ?_
      exact k_iret hK dX5_operandAt_25 rfl rfl (done_0 rfl rfl) (qP_i hF)
    · have hF := hF.2 h2
      refine k_ld hK 0 dX5_operandAt_12 rfl rfl rfl rfl ?_
      refine k_gR hK dX5_operandAt_13 lf_X5_9 rfl (sk_X5_0 hs h_o) (sr_X5_0_0 hs h_o) ?_
      refine k_ld hK 1 dX5_operandAt_16 rfl rfl rfl rfl ?_
      obtain ⟨n3, i4, j5, hF⟩ := hF
      refine k_iald hK dX5_operandAt_17 (sk_X5_1 hs h_o) (sl_X5_1 h_o) (by decide) i4 j5 rfl ?_
      refine k_bi hK dX5_operandAt_18 cb_10 ?_
      refine k_op hK dX5_operandAt_20 rfl rfl ?_
      refine k_goto hK dX5_operandAt_21 (tgt := 25) rfl ?_
      exact k_iret hK dX5_operandAt_25 rfl rfl (done_0 rfl rfl) (qP_i hF)
theorem e_X5_operandAt {d : Nat} {Q : Int32 → Prop} {I : HI} {J : HJ} {R : HR} {o : Nat} {x1 : Int32} (hs : Stat R) (h_o : isX5 o) (hF : ((x1 < 0 → Q 0) ∧ (¬ x1 < 0 → (((I o 1) ≤ x1 → Q 0) ∧ (¬ (I o 1) ≤ x1 → (∃ n3 : Nat, x1 = nI n3 ∧ n3 < 900 ∧ Q ((I (o + 1) n3) >>> ((10 : Int32) &&& 31) : Int32))))))) : Wp fi (d + 1) M_X5_operandAt [.ref o, .int x1] I J R Q := ⟨Nat.le_of_ble_eq_true rfl, fun K hK => g_X5_operandAt_0 hK hs h_o hF⟩
set_option maxHeartbeats 4000000 in
theorem g_X5_roundsAt_0 {d : Nat} {K : KT} {Q : Int32 → Prop} {I : HI} {J : HJ} {R : HR} {o : Nat} {x1 : Int32} (hK : am_R M_X5_roundsAt (am_W d) none R (qP fi I J R Q) K) (hs : Stat R) (h_o : isX5 o) (hF : ((x1 < 0 → Q 0) ∧ (¬ x1 < 0 → (((I o 1) ≤ x1 → Q 0) ∧ (¬ (I o 1) ≤ x1 → (∃ n3 : Nat, x1 = nI n3 ∧ n3 < 900 ∧ Q (((I (o + 1) n3) >>> ((4 : Int32) &&& 31) : Int32) &&& 63))))))) : K 0 [(0, .ref o), (1, .int x1)] [] I J R := by
  refine k_ld hK 1 dX5_roundsAt_0 rfl rfl rfl rfl ?_
  refine k_lt hK dX5_roundsAt_1 (tgt := 26) rfl (fun h1 => ?_) (fun h1 => ?_)
  · have hF := hF.1 h1
    refine k_ic hK dX5_roundsAt_26 ci_0 ?_
    exact k_iret hK dX5_roundsAt_27 rfl rfl (done_0 rfl rfl) (qP_i hF)
  · have hF := hF.2 h1
    refine k_ld hK 1 dX5_roundsAt_4 rfl rfl rfl rfl ?_
    refine k_ld hK 0 dX5_roundsAt_5 rfl rfl rfl rfl ?_
    refine k_gI hK dX5_roundsAt_6 lf_X5_21 rfl (sk_X5_0 hs h_o) rfl ?_
    refine k_cge hK dX5_roundsAt_9 (tgt := 26) rfl (fun h2 => ?_) (fun h2 => ?_)
    · have hF := hF.1 h2
      refine k_ic hK dX5_roundsAt_26 ci_0 ?_
      exact k_iret hK dX5_roundsAt_27 rfl rfl (done_0 rfl rfl) (qP_i hF)
    · have hF := hF.2 h2
      refine k_ld hK 0 dX5_roundsAt_12 rfl rfl rfl rfl ?_
      refine k_gR hK dX5_roundsAt_13 lf_X5_9 rfl (sk_X5_0 hs h_o) (sr_X5_0_0 hs h_o) ?_
      refine k_ld hK 1 dX5_roundsAt_16 rfl rfl rfl rfl ?_
      obtain ⟨n3, i4, j5, hF⟩ := hF
      refine k_iald hK dX5_roundsAt_17 (sk_X5_1 hs h_o) (sl_X5_1 h_o) (by decide) i4 j5 rfl ?_
      refine k_ic hK dX5_roundsAt_18 ci_4 ?_
      refine k_op hK dX5_roundsAt_19 rfl rfl ?_
      refine k_bi hK dX5_roundsAt_20 cb_63 ?_
      refine k_op hK dX5_roundsAt_22 rfl rfl ?_
      refine k_goto hK dX5_roundsAt_23 (tgt := 27) rfl ?_
      exact k_iret hK dX5_roundsAt_27 rfl rfl (done_0 rfl rfl) (qP_i hF)
theorem e_X5_roundsAt {d : Nat} {Q : Int32 → Prop} {I : HI} {J : HJ} {R : HR} {o : Nat} {x1 : Int32} (hs : Stat R) (h_o : isX5 o) (hF : ((x1 < 0 → Q 0) ∧ (¬ x1 < 0 → (((I o 1) ≤ x1 → Q 0) ∧ (¬ (I o 1) ≤ x1 → (∃ n3 : Nat, x1 = nI n3 ∧ n3 < 900 ∧ Q (((I (o + 1) n3) >>> ((4 : Int32) &&& 31) : Int32) &&& 63))))))) : Wp fi (d + 1) M_X5_roundsAt [.ref o, .int x1] I J R Q := ⟨Nat.le_of_ble_eq_true rfl, fun K hK => g_X5_roundsAt_0 hK hs h_o hF⟩
set_option maxHeartbeats 4000000 in
theorem g_X5_addRow_0 {d : Nat} {K : KT} {Q : Unit → HI → Prop} {I : HI} {J : HJ} {R : HR} {o : Nat} {x1 : Int32} {x2 : Int32} (hK : am_R M_X5_addRow (am_W d) none R (qC fv J R Q) K) (hs : Stat R) (h_o : isX5 o) (hF : ((6 ≤ (I o 5) → Q () I) ∧ (¬ 6 ≤ (I o 5) → (∃ n2 : Nat, (I o 5) = nI n2 ∧ n2 < 6 ∧ Q () (up (up (up I (o + 2) n2 x1) (o + 3) n2 x2) o 5 ((I o 5) + 1)))))) : K 0 [(0, .ref o), (1, .int x1), (2, .int x2)] [] I J R := by
  refine k_ld hK 0 dX5_addRow_0 rfl rfl rfl rfl ?_
  refine k_gI hK dX5_addRow_1 lf_X5_34 rfl (sk_X5_0 hs h_o) rfl ?_
  refine k_bi hK dX5_addRow_4 cb_6 ?_
  refine k_cge hK dX5_addRow_6 (tgt := 39) rfl (fun h1 => ?_) (fun h1 => ?_)
  · have hF := hF.1 h1
    exact k_vret hK dX5_addRow_39 rfl (done_0 rfl rfl) (qC_i hF)
  · have hF := hF.2 h1
    refine k_ld hK 0 dX5_addRow_9 rfl rfl rfl rfl ?_
    refine k_gR hK dX5_addRow_10 lf_X5_15 rfl (sk_X5_0 hs h_o) (sr_X5_0_7 hs h_o) ?_
    refine k_ld hK 0 dX5_addRow_13 rfl rfl rfl rfl ?_
    refine k_gI hK dX5_addRow_14 lf_X5_34 rfl (sk_X5_0 hs h_o) rfl ?_
    refine k_ld hK 1 dX5_addRow_17 rfl rfl rfl rfl ?_
    obtain ⟨n2, i3, j4, hF⟩ := hF
    refine k_iast hK dX5_addRow_18 (sk_X5_2 hs h_o) (sl_X5_2 h_o) (by decide) i3 j4 ?_
    refine k_ld hK 0 dX5_addRow_19 rfl rfl rfl rfl ?_
    refine k_gR hK dX5_addRow_20 lf_X5_18 rfl (sk_X5_0 hs h_o) (sr_X5_0_8 hs h_o) ?_
    refine k_ld hK 0 dX5_addRow_23 rfl rfl rfl rfl ?_
    refine k_gI hK dX5_addRow_24 lf_X5_34 rfl (sk_X5_0 hs h_o) ((up_na (by omega)).trans rfl) ?_
    refine k_ld hK 2 dX5_addRow_27 rfl rfl rfl rfl ?_
    refine k_iast hK dX5_addRow_28 (sk_X5_3 hs h_o) (sl_X5_3 h_o) (by decide) i3 j4 ?_
    refine k_ld hK 0 dX5_addRow_29 rfl rfl rfl rfl ?_
    refine k_op hK dX5_addRow_30 rfl rfl ?_
    refine k_gI hK dX5_addRow_31 lf_X5_34 rfl (sk_X5_0 hs h_o) ((up_na (by omega)).trans ((up_na (by omega)).trans rfl)) ?_
    refine k_ic hK dX5_addRow_34 ci_1 ?_
    refine k_op hK dX5_addRow_35 rfl rfl ?_
    refine k_pI hK dX5_addRow_36 lf_X5_34 rfl rfl rfl (sk_X5_0 hs h_o) ?_
    exact k_vret hK dX5_addRow_39 rfl (done_0 rfl rfl) (qC_i hF)
theorem e_X5_addRow {d : Nat} {Q : Unit → HI → Prop} {I : HI} {J : HJ} {R : HR} {o : Nat} {x1 : Int32} {x2 : Int32} (hs : Stat R) (h_o : isX5 o) (hF : ((6 ≤ (I o 5) → Q () I) ∧ (¬ 6 ≤ (I o 5) → (∃ n2 : Nat, (I o 5) = nI n2 ∧ n2 < 6 ∧ Q () (up (up (up I (o + 2) n2 x1) (o + 3) n2 x2) o 5 ((I o 5) + 1)))))) : Wc fv (d + 1) M_X5_addRow [.ref o, .int x1, .int x2] I J R Q := ⟨Nat.le_of_ble_eq_true rfl, fun K hK => g_X5_addRow_0 hK hs h_o hF⟩
set_option maxHeartbeats 4000000 in
theorem g_X5_rowsThatShare_0 {d : Nat} {K : KT} {Q : Int32 → Prop} {I : HI} {J : HJ} {R : HR} {o : Nat} {x1 : Int32} (hK : am_R M_X5_rowsThatShare (am_W d) none R (qP fi I J R Q) K) (hs : Stat R) (h_o : isX5 o) (hF : K 4 [(0, .ref o), (1, .int x1), (2, .int 0), (3, .int 0)] [] I J R) : K 0 [(0, .ref o), (1, .int x1)] [] I J R := by
  refine k_ic hK dX5_rowsThatShare_0 ci_0 ?_
  refine k_st hK dX5_rowsThatShare_1 rfl rfl rfl (Nat.le_of_ble_eq_true rfl) rfl ?_
  refine k_ic hK dX5_rowsThatShare_2 ci_0 ?_
  refine k_st hK dX5_rowsThatShare_3 rfl rfl rfl (Nat.le_of_ble_eq_true rfl) rfl ?_
  exact k_sub hK [2, 3, 1, 0] rfl hF
set_option maxHeartbeats 4000000 in
theorem g_X5_rowsThatShare_4 {d : Nat} {K : KT} {Q : Int32 → Prop} {I : HI} {J : HJ} {R : HR} {o : Nat} {x1 : Int32} {x2 : Int32} {x3 : Int32} (hK : am_R M_X5_rowsThatShare (am_W d) none R (qP fi I J R Q) K) (hs : Stat R) (h_o : isX5 o) (hF : (((I o 5) ≤ x3 → Q x2) ∧ (¬ (I o 5) ≤ x3 → ((x1 < 0 → Q x2) ∧ (¬ x1 < 0 → (((I o 5) ≤ x1 → Q x2) ∧ (¬ (I o 5) ≤ x1 → (∃ n4 : Nat, x3 = nI n4 ∧ n4 < 6 ∧ (∃ n7 : Nat, x1 = nI n7 ∧ n7 < 6 ∧ ((((I (o + 2) n7) + (I (o + 3) n7)) ≤ (I (o + 2) n4) → K 4 [(0, .ref o), (1, .int x1), (2, .int x2), (3, .int (x3 + 1))] [] I J R) ∧ (¬ ((I (o + 2) n7) + (I (o + 3) n7)) ≤ (I (o + 2) n4) → ((((I (o + 2) n4) + (I (o + 3) n4)) ≤ (I (o + 2) n7) → K 4 [(0, .ref o), (1, .int x1), (2, .int x2), (3, .int (x3 + 1))] [] I J R) ∧ (¬ ((I (o + 2) n4) + (I (o + 3) n4)) ≤ (I (o + 2) n7) → K 4 [(0, .ref o), (1, .int x1), (2, .int (x2 + 1)), (3, .int (x3 + 1))] [] I J R))))))))))))) : K 4 [(0, .ref o), (1, .int x1), (2, .int x2), (3, .int x3)] [] I J R := by
  refine k_ld hK 3 dX5_rowsThatShare_4 rfl rfl rfl rfl ?_
  refine k_ld hK 0 dX5_rowsThatShare_5 rfl rfl rfl rfl ?_
  refine k_gI hK dX5_rowsThatShare_6 lf_X5_34 rfl (sk_X5_0 hs h_o) rfl ?_
  refine k_cge hK dX5_rowsThatShare_9 (tgt := 77) rfl (fun h1 => ?_) (fun h1 => ?_)
  · have hF := hF.1 h1
    refine k_ld hK 2 dX5_rowsThatShare_77 rfl rfl rfl rfl ?_
    exact k_iret hK dX5_rowsThatShare_78 rfl rfl (done_0 rfl rfl) (qP_i hF)
  · have hF := hF.2 h1
    refine k_ld hK 1 dX5_rowsThatShare_12 rfl rfl rfl rfl ?_
    refine k_lt hK dX5_rowsThatShare_13 (tgt := 77) rfl (fun h2 => ?_) (fun h2 => ?_)
    · have hF := hF.1 h2
      refine k_ld hK 2 dX5_rowsThatShare_77 rfl rfl rfl rfl ?_
      exact k_iret hK dX5_rowsThatShare_78 rfl rfl (done_0 rfl rfl) (qP_i hF)
    · have hF := hF.2 h2
      refine k_ld hK 1 dX5_rowsThatShare_16 rfl rfl rfl rfl ?_
      refine k_ld hK 0 dX5_rowsThatShare_17 rfl rfl rfl rfl ?_
      refine k_gI hK dX5_rowsThatShare_18 lf_X5_34 rfl (sk_X5_0 hs h_o) rfl ?_
      refine k_cge hK dX5_rowsThatShare_21 (tgt := 77) rfl (fun h3 => ?_) (fun h3 => ?_)
      · have hF := hF.1 h3
        refine k_ld hK 2 dX5_rowsThatShare_77 rfl rfl rfl rfl ?_
        exact k_iret hK dX5_rowsThatShare_78 rfl rfl (done_0 rfl rfl) (qP_i hF)
      · have hF := hF.2 h3
        refine k_ld hK 0 dX5_rowsThatShare_24 rfl rfl rfl rfl ?_
        refine k_gR hK dX5_rowsThatShare_25 lf_X5_15 rfl (sk_X5_0 hs h_o) (sr_X5_0_7 hs h_o) ?_
        refine k_ld hK 3 dX5_rowsThatShare_28 rfl rfl rfl rfl ?_
        obtain ⟨n4, i5, j6, hF⟩ := hF
        refine k_iald hK dX5_rowsThatShare_29 (sk_X5_2 hs h_o) (sl_X5_2 h_o) (by decide) i5 j6 rfl ?_
        refine k_ld hK 0 dX5_rowsThatShare_30 rfl rfl rfl rfl ?_
        refine k_gR hK dX5_rowsThatShare_31 lf_X5_15 rfl (sk_X5_0 hs h_o) (sr_X5_0_7 hs h_o) ?_
        refine k_ld hK 1 dX5_rowsThatShare_34 rfl rfl rfl rfl ?_
        obtain ⟨n7, i8, j9, hF⟩ := hF
        refine k_iald hK dX5_rowsThatShare_35 (sk_X5_2 hs h_o) (sl_X5_2 h_o) (by decide) i8 j9 rfl ?_
        refine k_ld hK 0 dX5_rowsThatShare_36 rfl rfl rfl rfl ?_
        refine k_gR hK dX5_rowsThatShare_37 lf_X5_18 rfl (sk_X5_0 hs h_o) (sr_X5_0_8 hs h_o) ?_
        refine k_ld hK 1 dX5_rowsThatShare_40 rfl rfl rfl rfl ?_
        refine k_iald hK dX5_rowsThatShare_41 (sk_X5_3 hs h_o) (sl_X5_3 h_o) (by decide) i8 j9 rfl ?_
        refine k_op hK dX5_rowsThatShare_42 rfl rfl ?_
        refine k_cge hK dX5_rowsThatShare_43 (tgt := 71) rfl (fun h10 => ?_) (fun h10 => ?_)
        · have hF := hF.1 h10
          refine k_iinc hK 3 dX5_rowsThatShare_71 (v := (x3 + 1)) rfl (Nat.le_of_ble_eq_true rfl) (congrArg (fun q => x3 + q) ci_1) rfl ?_
          refine k_goto hK dX5_rowsThatShare_74 (tgt := 4) rfl ?_
          exact k_sub hK [1, 2, 3, 0] rfl hF
        · have hF := hF.2 h10
          refine k_ld hK 0 dX5_rowsThatShare_46 rfl rfl rfl rfl ?_
          refine k_gR hK dX5_rowsThatShare_47 lf_X5_15 rfl (sk_X5_0 hs h_o) (sr_X5_0_7 hs h_o) ?_
          refine k_ld hK 1 dX5_rowsThatShare_50 rfl rfl rfl rfl ?_
          refine k_iald hK dX5_rowsThatShare_51 (sk_X5_2 hs h_o) (sl_X5_2 h_o) (by decide) i8 j9 rfl ?_
          refine k_ld hK 0 dX5_rowsThatShare_52 rfl rfl rfl rfl ?_
          refine k_gR hK dX5_rowsThatShare_53 lf_X5_15 rfl (sk_X5_0 hs h_o) (sr_X5_0_7 hs h_o) ?_
          refine k_ld hK 3 dX5_rowsThatShare_56 rfl rfl rfl rfl ?_
          refine k_iald hK dX5_rowsThatShare_57 (sk_X5_2 hs h_o) (sl_X5_2 h_o) (by decide) i5 j6 rfl ?_
          refine k_ld hK 0 dX5_rowsThatShare_58 rfl rfl rfl rfl ?_
          refine k_gR hK dX5_rowsThatShare_59 lf_X5_18 rfl (sk_X5_0 hs h_o) (sr_X5_0_8 hs h_o) ?_
          refine k_ld hK 3 dX5_rowsThatShare_62 rfl rfl rfl rfl ?_
          refine k_iald hK dX5_rowsThatShare_63 (sk_X5_3 hs h_o) (sl_X5_3 h_o) (by decide) i5 j6 rfl ?_
          refine k_op hK dX5_rowsThatShare_64 rfl rfl ?_
          refine k_cge hK dX5_rowsThatShare_65 (tgt := 71) rfl (fun h11 => ?_) (fun h11 => ?_)
          · have hF := hF.1 h11
            refine k_iinc hK 3 dX5_rowsThatShare_71 (v := (x3 + 1)) rfl (Nat.le_of_ble_eq_true rfl) (congrArg (fun q => x3 + q) ci_1) rfl ?_
            refine k_goto hK dX5_rowsThatShare_74 (tgt := 4) rfl ?_
            exact k_sub hK [1, 2, 3, 0] rfl hF
          · have hF := hF.2 h11
            refine k_iinc hK 2 dX5_rowsThatShare_68 (v := (x2 + 1)) rfl (Nat.le_of_ble_eq_true rfl) (congrArg (fun q => x2 + q) ci_1) rfl ?_
            refine k_iinc hK 3 dX5_rowsThatShare_71 (v := (x3 + 1)) rfl (Nat.le_of_ble_eq_true rfl) (congrArg (fun q => x3 + q) ci_1) rfl ?_
            refine k_goto hK dX5_rowsThatShare_74 (tgt := 4) rfl ?_
            exact k_sub hK [2, 3, 1, 0] rfl hF
set_option maxHeartbeats 4000000 in
theorem g_X5_cellOf_0 {d : Nat} {K : KT} {Q : Int32 → Prop} {I : HI} {J : HJ} {R : HR} {o : Nat} {x1 : Int32} {x2 : Int32} (hK : am_R M_X5_cellOf (am_W d) none R (qP fi I J R Q) K) (hs : Stat R) (h_o : isX5 o) (hF : ((x1 < 0 → Q (-1)) ∧ (¬ x1 < 0 → (((I o 5) ≤ x1 → Q (-1)) ∧ (¬ (I o 5) ≤ x1 → ((x2 < 0 → Q (-1)) ∧ (¬ x2 < 0 → (∃ n4 : Nat, x1 = nI n4 ∧ n4 < 6 ∧ ((x2 < (I (o + 3) n4) → Q ((I (o + 2) n4) + x2)) ∧ (¬ x2 < (I (o + 3) n4) → Q (-1))))))))))) : K 0 [(0, .ref o), (1, .int x1), (2, .int x2)] [] I J R := by
  refine k_ld hK 1 dX5_cellOf_0 rfl rfl rfl rfl ?_
  refine k_lt hK dX5_cellOf_1 (tgt := 26) rfl (fun h1 => ?_) (fun h1 => ?_)
  · have hF := hF.1 h1
    refine k_ic hK dX5_cellOf_26 ci_m1 ?_
    exact k_iret hK dX5_cellOf_27 rfl rfl (done_0 rfl rfl) (qP_i hF)
  · have hF := hF.2 h1
    refine k_ld hK 1 dX5_cellOf_4 rfl rfl rfl rfl ?_
    refine k_ld hK 0 dX5_cellOf_5 rfl rfl rfl rfl ?_
    refine k_gI hK dX5_cellOf_6 lf_X5_34 rfl (sk_X5_0 hs h_o) rfl ?_
    refine k_cge hK dX5_cellOf_9 (tgt := 26) rfl (fun h2 => ?_) (fun h2 => ?_)
    · have hF := hF.1 h2
      refine k_ic hK dX5_cellOf_26 ci_m1 ?_
      exact k_iret hK dX5_cellOf_27 rfl rfl (done_0 rfl rfl) (qP_i hF)
    · have hF := hF.2 h2
      refine k_ld hK 2 dX5_cellOf_12 rfl rfl rfl rfl ?_
      refine k_lt hK dX5_cellOf_13 (tgt := 26) rfl (fun h3 => ?_) (fun h3 => ?_)
      · have hF := hF.1 h3
        refine k_ic hK dX5_cellOf_26 ci_m1 ?_
        exact k_iret hK dX5_cellOf_27 rfl rfl (done_0 rfl rfl) (qP_i hF)
      · have hF := hF.2 h3
        refine k_ld hK 2 dX5_cellOf_16 rfl rfl rfl rfl ?_
        refine k_ld hK 0 dX5_cellOf_17 rfl rfl rfl rfl ?_
        refine k_gR hK dX5_cellOf_18 lf_X5_18 rfl (sk_X5_0 hs h_o) (sr_X5_0_8 hs h_o) ?_
        refine k_ld hK 1 dX5_cellOf_21 rfl rfl rfl rfl ?_
        obtain ⟨n4, i5, j6, hF⟩ := hF
        refine k_iald hK dX5_cellOf_22 (sk_X5_3 hs h_o) (sl_X5_3 h_o) (by decide) i5 j6 rfl ?_
        refine k_clt hK dX5_cellOf_23 (tgt := 28) rfl (fun h7 => ?_) (fun h7 => ?_)
        · have hF := hF.1 h7
          refine k_ld hK 0 dX5_cellOf_28 rfl rfl rfl rfl ?_
          refine k_gR hK dX5_cellOf_29 lf_X5_15 rfl (sk_X5_0 hs h_o) (sr_X5_0_7 hs h_o) ?_
          refine k_ld hK 1 dX5_cellOf_32 rfl rfl rfl rfl ?_
          refine k_iald hK dX5_cellOf_33 (sk_X5_2 hs h_o) (sl_X5_2 h_o) (by decide) i5 j6 rfl ?_
          refine k_ld hK 2 dX5_cellOf_34 rfl rfl rfl rfl ?_
          refine k_op hK dX5_cellOf_35 rfl rfl ?_
          exact k_iret hK dX5_cellOf_36 rfl rfl (done_0 rfl rfl) (qP_i hF)
        · have hF := hF.2 h7
          refine k_ic hK dX5_cellOf_26 ci_m1 ?_
          exact k_iret hK dX5_cellOf_27 rfl rfl (done_0 rfl rfl) (qP_i hF)
theorem e_X5_cellOf {d : Nat} {Q : Int32 → Prop} {I : HI} {J : HJ} {R : HR} {o : Nat} {x1 : Int32} {x2 : Int32} (hs : Stat R) (h_o : isX5 o) (hF : ((x1 < 0 → Q (-1)) ∧ (¬ x1 < 0 → (((I o 5) ≤ x1 → Q (-1)) ∧ (¬ (I o 5) ≤ x1 → ((x2 < 0 → Q (-1)) ∧ (¬ x2 < 0 → (∃ n4 : Nat, x1 = nI n4 ∧ n4 < 6 ∧ ((x2 < (I (o + 3) n4) → Q ((I (o + 2) n4) + x2)) ∧ (¬ x2 < (I (o + 3) n4) → Q (-1))))))))))) : Wp fi (d + 1) M_X5_cellOf [.ref o, .int x1, .int x2] I J R Q := ⟨Nat.le_of_ble_eq_true rfl, fun K hK => g_X5_cellOf_0 hK hs h_o hF⟩
set_option maxHeartbeats 4000000 in
theorem g_X5_hasTest_0 {d : Nat} {K : KT} {Q : Bool → Prop} {I : HI} {J : HJ} {R : HR} {o : Nat} (hK : am_R M_X5_hasTest (am_W d) none R (qP fb I J R Q) K) (hs : Stat R) (h_o : isX5 o) (hF : K 2 [(0, .ref o), (1, .int 0)] [] I J R) : K 0 [(0, .ref o)] [] I J R := by
  refine k_ic hK dX5_hasTest_0 ci_0 ?_
  refine k_st hK dX5_hasTest_1 rfl rfl rfl (Nat.le_of_ble_eq_true rfl) rfl ?_
  exact k_sub hK [1, 0] rfl hF
set_option maxHeartbeats 4000000 in
theorem g_X5_hasTest_2 {d : Nat} {K : KT} {Q : Bool → Prop} {I : HI} {J : HJ} {R : HR} {o : Nat} {x1 : Int32} (hK : am_R M_X5_hasTest (am_W d) none R (qP fb I J R Q) K) (hs : Stat R) (h_o : isX5 o) (hF : (((I o 1) ≤ x1 → Q false) ∧ (¬ (I o 1) ≤ x1 → Wp fi d M_X5_kindAt [.ref o, .int x1] I J R (fun r2 => ((r2 = 12 → Q true) ∧ (¬ r2 = 12 → ((¬ r2 = 13 → K 2 [(0, .ref o), (1, .int (x1 + 1))] [] I J R) ∧ (r2 = 13 → Q true)))))))) : K 2 [(0, .ref o), (1, .int x1)] [] I J R := by
  refine k_ld hK 1 dX5_hasTest_2 rfl rfl rfl rfl ?_
  refine k_ld hK 0 dX5_hasTest_3 rfl rfl rfl rfl ?_
  refine k_gI hK dX5_hasTest_4 lf_X5_21 rfl (sk_X5_0 hs h_o) rfl ?_
  refine k_cge hK dX5_hasTest_7 (tgt := 36) rfl (fun h1 => ?_) (fun h1 => ?_)
  · have hF := hF.1 h1
    refine k_ic hK dX5_hasTest_36 ci_0 ?_
    exact k_iret (x := b2i false) hK dX5_hasTest_37 rfl (b2i_nar _) (done_0 rfl rfl) (qP_i hF)
  · have hF := hF.2 h1
    refine k_ld hK 0 dX5_hasTest_10 rfl rfl rfl rfl ?_
    refine k_ld hK 1 dX5_hasTest_11 rfl rfl rfl rfl ?_
    refine k_cVp hK dX5_hasTest_12 (Or.inl lm_X5_40) (As := [.int x1]) (S := []) rfl (sk_X5_0 hs h_o) (Nat.le_of_ble_eq_true rfl) (fit_0 rfl rfl) rfl hF (fun r2 hF => ?_)
    show K _ _ [.int r2] _ _ _
    refine k_st hK dX5_hasTest_15 rfl rfl rfl (Nat.le_of_ble_eq_true rfl) rfl ?_
    refine k_ld hK 0 dX5_hasTest_16 rfl rfl rfl rfl ?_
    refine k_bi hK dX5_hasTest_17 cb_12 ?_
    refine k_ceq hK dX5_hasTest_19 (tgt := 28) rfl (fun h3 => ?_) (fun h3 => ?_)
    · have hF := hF.1 h3
      refine k_ic hK dX5_hasTest_28 ci_1 ?_
      exact k_iret (x := b2i true) hK dX5_hasTest_29 rfl (b2i_nar _) (done_0 rfl rfl) (qP_i hF)
    · have hF := hF.2 h3
      refine k_ld hK 0 dX5_hasTest_22 rfl rfl rfl rfl ?_
      refine k_bi hK dX5_hasTest_23 cb_13 ?_
      refine k_cne hK dX5_hasTest_25 (tgt := 30) rfl (fun h4 => ?_) (fun h4 => ?_)
      · have hF := hF.1 h4
        refine k_iinc hK 2 dX5_hasTest_30 (v := (x1 + 1)) rfl (Nat.le_of_ble_eq_true rfl) (congrArg (fun q => x1 + q) ci_1) rfl ?_
        refine k_goto hK dX5_hasTest_33 (tgt := 2) rfl ?_
        exact k_sub hK [2, 0] rfl hF
      · have hF := hF.2 h4
        refine k_ic hK dX5_hasTest_28 ci_1 ?_
        exact k_iret (x := b2i true) hK dX5_hasTest_29 rfl (b2i_nar _) (done_0 rfl rfl) (qP_i hF)
set_option maxHeartbeats 4000000 in
theorem g_X7_once_0 {d : Nat} {K : KT} {Q : Int32 → HI → Prop} {I : HI} {J : HJ} {R : HR} {p1 : Nat} {x2 : Int32} {x3 : Int32} (hK : am_R M_X7_once (am_W d) none R (qC fi J R Q) K) (hs : Stat R) (h_p1 : isX9 p1) (hF : Wc fv d M_X7_fillFirst [.ref 72, .ref p1, .int x3] I J R (fun u1 I2 => Wp fi d M_X7_of [.ref 73, .int x2, .int x3] I2 J R (fun r3 => Q r3 I2))) : K 0 [(0, .ref 72), (1, .ref p1), (2, .int x2), (3, .int x3)] [] I J R := by
  refine k_ld hK 0 dX7_once_0 rfl rfl rfl rfl ?_
  refine k_ld hK 1 dX7_once_1 rfl rfl rfl rfl ?_
  refine k_ld hK 3 dX7_once_2 rfl rfl rfl rfl ?_
  refine k_cVc hK dX7_once_3 (Or.inl lm_X7_21) (As := [.ref p1, .int x3]) (S := []) rfl (sc_72 hs) (Nat.le_of_ble_eq_true rfl) (fit_0 rfl rfl) rfl hF (fun u1 I2 hF => ?_)
  show K _ _ [] _ _ _
  refine k_ld hK 0 dX7_once_6 rfl rfl rfl rfl ?_
  refine k_gR hK dX7_once_7 lf_X7_9 rfl (sc_72 hs) (sf_72_0 hs) ?_
  refine k_ld hK 2 dX7_once_10 rfl rfl rfl rfl ?_
  refine k_ld hK 3 dX7_once_11 rfl rfl rfl rfl ?_
  refine k_cSp hK dX7_once_12 lm_X7_25 (As := [.ref 73, .int x2, .int x3]) (S := []) rfl (Nat.le_of_ble_eq_true rfl) (fit_0 rfl rfl) rfl hF (fun r3 hF => ?_)
  show K _ _ [.int r3] _ _ _
  exact k_iret hK dX7_once_15 rfl rfl (done_0 rfl rfl) (qC_i hF)
theorem e_X7_once {d : Nat} {Q : Int32 → HI → Prop} {I : HI} {J : HJ} {R : HR} {p1 : Nat} {x2 : Int32} {x3 : Int32} (hs : Stat R) (h_p1 : isX9 p1) (hF : Wc fv d M_X7_fillFirst [.ref 72, .ref p1, .int x3] I J R (fun u1 I2 => Wp fi d M_X7_of [.ref 73, .int x2, .int x3] I2 J R (fun r3 => Q r3 I2))) : Wc fi (d + 1) M_X7_once [.ref 72, .ref p1, .int x2, .int x3] I J R Q := ⟨Nat.le_of_ble_eq_true rfl, fun K hK => g_X7_once_0 hK hs h_p1 hF⟩
set_option maxHeartbeats 4000000 in
theorem g_X7_fillFirst_0 {d : Nat} {K : KT} {Q : Unit → HI → Prop} {I : HI} {J : HJ} {R : HR} {p1 : Nat} {x2 : Int32} (hK : am_R M_X7_fillFirst (am_W d) none R (qC fv J R Q) K) (hs : Stat R) (h_p1 : isX9 p1) (hF : Wc fv d M_X7_fill [.ref 73, .ref p1, .int x2] I J R (fun u1 I2 => Q () I2)) : K 0 [(0, .ref 72), (1, .ref p1), (2, .int x2)] [] I J R := by
  refine k_ld hK 0 dX7_fillFirst_0 rfl rfl rfl rfl ?_
  refine k_gR hK dX7_fillFirst_1 lf_X7_9 rfl (sc_72 hs) (sf_72_0 hs) ?_
  refine k_ld hK 1 dX7_fillFirst_4 rfl rfl rfl rfl ?_
  refine k_ld hK 2 dX7_fillFirst_5 rfl rfl rfl rfl ?_
  refine k_cSc hK dX7_fillFirst_6 lm_X7_29 (As := [.ref 73, .ref p1, .int x2]) (S := []) rfl (Nat.le_of_ble_eq_true rfl) (fit_0 rfl rfl) rfl hF (fun u1 I2 hF => ?_)
  show K _ _ [] _ _ _
  exact k_vret hK dX7_fillFirst_9 rfl (done_0 rfl rfl) (qC_i hF)
theorem e_X7_fillFirst {d : Nat} {Q : Unit → HI → Prop} {I : HI} {J : HJ} {R : HR} {p1 : Nat} {x2 : Int32} (hs : Stat R) (h_p1 : isX9 p1) (hF : Wc fv d M_X7_fill [.ref 73, .ref p1, .int x2] I J R (fun u1 I2 => Q () I2)) : Wc fv (d + 1) M_X7_fillFirst [.ref 72, .ref p1, .int x2] I J R Q := ⟨Nat.le_of_ble_eq_true rfl, fun K hK => g_X7_fillFirst_0 hK hs h_p1 hF⟩
set_option maxHeartbeats 4000000 in
theorem g_X7_firstOf_0 {d : Nat} {K : KT} {Q : Int32 → Prop} {I : HI} {J : HJ} {R : HR} {x1 : Int32} {x2 : Int32} (hK : am_R M_X7_firstOf (am_W d) none R (qP fi I J R Q) K) (hs : Stat R)  (hF : Wp fi d M_X7_of [.ref 73, .int x1, .int x2] I J R (fun r1 => Q r1)) : K 0 [(0, .ref 72), (1, .int x1), (2, .int x2)] [] I J R := by
  refine k_ld hK 0 dX7_firstOf_0 rfl rfl rfl rfl ?_
  refine k_gR hK dX7_firstOf_1 lf_X7_9 rfl (sc_72 hs) (sf_72_0 hs) ?_
  refine k_ld hK 1 dX7_firstOf_4 rfl rfl rfl rfl ?_
  refine k_ld hK 2 dX7_firstOf_5 rfl rfl rfl rfl ?_
  refine k_cSp hK dX7_firstOf_6 lm_X7_25 (As := [.ref 73, .int x1, .int x2]) (S := []) rfl (Nat.le_of_ble_eq_true rfl) (fit_0 rfl rfl) rfl hF (fun r1 hF => ?_)
  show K _ _ [.int r1] _ _ _
  exact k_iret hK dX7_firstOf_9 rfl rfl (done_0 rfl rfl) (qP_i hF)
theorem e_X7_firstOf {d : Nat} {Q : Int32 → Prop} {I : HI} {J : HJ} {R : HR} {x1 : Int32} {x2 : Int32} (hs : Stat R)  (hF : Wp fi d M_X7_of [.ref 73, .int x1, .int x2] I J R (fun r1 => Q r1)) : Wp fi (d + 1) M_X7_firstOf [.ref 72, .int x1, .int x2] I J R Q := ⟨Nat.le_of_ble_eq_true rfl, fun K hK => g_X7_firstOf_0 hK hs hF⟩
set_option maxHeartbeats 4000000 in
theorem g_X7_of_0 {d : Nat} {K : KT} {Q : Int32 → Prop} {I : HI} {J : HJ} {R : HR} {a0 : Nat} {x1 : Int32} {x2 : Int32} (hK : am_R M_X7_of (am_W d) none R (qP fi I J R Q) K) (hs : Stat R) (h_a0 : am_is R a0 13) (l_a0 : (am_T a0).2 = 400) (hF : ((¬ x1 = x2 → ((x1 < 0 → Q 0) ∧ (¬ x1 < 0 → ((400 ≤ x1 → Q 0) ∧ (¬ 400 ≤ x1 → (∃ n4 : Nat, x1 = nI n4 ∧ n4 < 400 ∧ Q (I a0 n4))))))) ∧ (x1 = x2 → Q 1))) : K 0 [(0, .ref a0), (1, .int x1), (2, .int x2)] [] I J R := by
  refine k_ld hK 1 dX7_of_0 rfl rfl rfl rfl ?_
  refine k_ld hK 2 dX7_of_1 rfl rfl rfl rfl ?_
  refine k_cne hK dX7_of_2 (tgt := 7) rfl (fun h1 => ?_) (fun h1 => ?_)
  · have hF := hF.1 h1
    refine k_ld hK 1 dX7_of_7 rfl rfl rfl rfl ?_
    refine k_lt hK dX7_of_8 (tgt := 23) rfl (fun h2 => ?_) (fun h2 => ?_)
    · have hF := hF.1 h2
      refine k_ic hK dX7_of_23 ci_0 ?_
      exact k_iret hK dX7_of_24 rfl rfl (done_0 rfl rfl) (qP_i hF)
    · have hF := hF.2 h2
      refine k_ld hK 1 dX7_of_11 rfl rfl rfl rfl ?_
      refine k_ld hK 0 dX7_of_12 rfl rfl rfl rfl ?_
      refine k_alen hK dX7_of_13 (Or.inr h_a0) l_a0 cn_400 ?_
      refine k_cge hK dX7_of_14 (tgt := 23) rfl (fun h3 => ?_) (fun h3 => ?_)
      · have hF := hF.1 h3
        refine k_ic hK dX7_of_23 ci_0 ?_
        exact k_iret hK dX7_of_24 rfl rfl (done_0 rfl rfl) (qP_i hF)
      · have hF := hF.2 h3
        refine k_ld hK 0 dX7_of_17 rfl rfl rfl rfl ?_
        refine k_ld hK 1 dX7_of_18 rfl rfl rfl rfl ?_
        obtain ⟨n4, i5, j6, hF⟩ := hF
        refine k_iald hK dX7_of_19 h_a0 l_a0 (by decide) i5 j6 rfl ?_
        refine k_goto hK dX7_of_20 (tgt := 24) rfl ?_
        exact k_iret hK dX7_of_24 rfl rfl (done_0 rfl rfl) (qP_i hF)
  · have hF := hF.2 h1
    refine k_ic hK dX7_of_5 ci_1 ?_
    exact k_iret hK dX7_of_6 rfl rfl (done_0 rfl rfl) (qP_i hF)
theorem e_X7_of {d : Nat} {Q : Int32 → Prop} {I : HI} {J : HJ} {R : HR} {a0 : Nat} {x1 : Int32} {x2 : Int32} (hs : Stat R) (h_a0 : am_is R a0 13) (l_a0 : (am_T a0).2 = 400) (hF : ((¬ x1 = x2 → ((x1 < 0 → Q 0) ∧ (¬ x1 < 0 → ((400 ≤ x1 → Q 0) ∧ (¬ 400 ≤ x1 → (∃ n4 : Nat, x1 = nI n4 ∧ n4 < 400 ∧ Q (I a0 n4))))))) ∧ (x1 = x2 → Q 1))) : Wp fi (d + 1) M_X7_of [.ref a0, .int x1, .int x2] I J R Q := ⟨Nat.le_of_ble_eq_true rfl, fun K hK => g_X7_of_0 hK hs h_a0 l_a0 hF⟩
set_option maxHeartbeats 4000000 in
theorem g_X7_fill_0 {d : Nat} {K : KT} {Q : Unit → HI → Prop} {I : HI} {J : HJ} {R : HR} {a0 : Nat} {p1 : Nat} {x2 : Int32} (hK : am_R M_X7_fill (am_W d) none R (qC fv J R Q) K) (hs : Stat R) (h_a0 : am_is R a0 13) (l_a0 : (am_T a0).2 = 400) (h_p1 : isX9 p1) (hF : K 2 [(0, .ref a0), (1, .ref p1), (2, .int x2), (3, .int 0)] [] I J R) : K 0 [(0, .ref a0), (1, .ref p1), (2, .int x2)] [] I J R := by
  refine k_ic hK dX7_fill_0 ci_0 ?_
  refine k_st hK dX7_fill_1 rfl rfl rfl (Nat.le_of_ble_eq_true rfl) rfl ?_
  exact k_sub hK [1, 2, 3, 0] rfl hF
set_option maxHeartbeats 4000000 in
theorem g_X7_fill_2 {d : Nat} {K : KT} {Q : Unit → HI → Prop} {I : HI} {J : HJ} {R : HR} {a0 : Nat} {p1 : Nat} {x2 : Int32} {x3 : Int32} (hK : am_R M_X7_fill (am_W d) none R (qC fv J R Q) K) (hs : Stat R) (h_a0 : am_is R a0 13) (l_a0 : (am_T a0).2 = 400) (h_p1 : isX9 p1) (hF : (((I p1 0) ≤ x3 → Q () I) ∧ (¬ (I p1 0) ≤ x3 → ((400 ≤ x3 → Q () I) ∧ (¬ 400 ≤ x3 → (∃ n3 : Nat, x3 = nI n3 ∧ n3 < 400 ∧ Wp fi d M_X7_of [.ref a0, .int (I (p1 + 6) n3), .int x2] I J R (fun r6 => Wp fi d M_X7_of [.ref a0, .int (I (p1 + 7) n3), .int x2] I J R (fun r7 => Wp fi d M_X7_joined [.ref p1, .int x3, .int r6, .int r7] I J R (fun r8 => K 2 [(0, .ref a0), (1, .ref p1), (2, .int x2), (3, .int (x3 + 1))] [] (up I a0 n3 r8) J R))))))))) : K 2 [(0, .ref a0), (1, .ref p1), (2, .int x2), (3, .int x3)] [] I J R := by
  refine k_ld hK 3 dX7_fill_2 rfl rfl rfl rfl ?_
  refine k_ld hK 1 dX7_fill_3 rfl rfl rfl rfl ?_
  refine k_gI hK dX7_fill_4 lf_X7_33 rfl (sk_X9_0 hs h_p1) rfl ?_
  refine k_cge hK dX7_fill_7 (tgt := 60) rfl (fun h1 => ?_) (fun h1 => ?_)
  · have hF := hF.1 h1
    exact k_vret hK dX7_fill_60 rfl (done_0 rfl rfl) (qC_i hF)
  · have hF := hF.2 h1
    refine k_ld hK 3 dX7_fill_10 rfl rfl rfl rfl ?_
    refine k_ld hK 0 dX7_fill_11 rfl rfl rfl rfl ?_
    refine k_alen hK dX7_fill_12 (Or.inr h_a0) l_a0 cn_400 ?_
    refine k_cge hK dX7_fill_13 (tgt := 60) rfl (fun h2 => ?_) (fun h2 => ?_)
    · have hF := hF.1 h2
      exact k_vret hK dX7_fill_60 rfl (done_0 rfl rfl) (qC_i hF)
    · have hF := hF.2 h2
      refine k_ld hK 0 dX7_fill_16 rfl rfl rfl rfl ?_
      refine k_ld hK 1 dX7_fill_17 rfl rfl rfl rfl ?_
      refine k_gR hK dX7_fill_18 lf_X7_39 rfl (sk_X9_0 hs h_p1) (sr_X9_0_6 hs h_p1) ?_
      refine k_ld hK 3 dX7_fill_21 rfl rfl rfl rfl ?_
      obtain ⟨n3, i4, j5, hF⟩ := hF
      refine k_iald hK dX7_fill_22 (sk_X9_6 hs h_p1) (sl_X9_6 h_p1) (by decide) i4 j5 rfl ?_
      refine k_ld hK 2 dX7_fill_23 rfl rfl rfl rfl ?_
      refine k_cSp hK dX7_fill_24 lm_X7_25 (As := [.ref a0, .int (I (p1 + 6) n3), .int x2]) (S := []) rfl (Nat.le_of_ble_eq_true rfl) (fit_0 rfl rfl) rfl hF (fun r6 hF => ?_)
      show K _ _ [.int r6] _ _ _
      refine k_st hK dX7_fill_27 rfl rfl rfl (Nat.le_of_ble_eq_true rfl) rfl ?_
      refine k_ld hK 1 dX7_fill_29 rfl rfl rfl rfl ?_
      refine k_ld hK 2 dX7_fill_30 rfl rfl rfl rfl ?_
      refine k_gR hK dX7_fill_31 lf_X7_42 rfl (sk_X9_0 hs h_p1) (sr_X9_0_7 hs h_p1) ?_
      refine k_ld hK 4 dX7_fill_34 rfl rfl rfl rfl ?_
      refine k_iald hK dX7_fill_35 (sk_X9_7 hs h_p1) (sl_X9_7 h_p1) (by decide) i4 j5 rfl ?_
      refine k_ld hK 3 dX7_fill_36 rfl rfl rfl rfl ?_
      refine k_cSp hK dX7_fill_37 lm_X7_25 (As := [.ref a0, .int (I (p1 + 7) n3), .int x2]) (S := []) rfl (Nat.le_of_ble_eq_true rfl) (fit_0 rfl rfl) rfl hF (fun r7 hF => ?_)
      show K _ _ [.int r7] _ _ _
      refine k_st hK dX7_fill_40 rfl rfl rfl (Nat.le_of_ble_eq_true rfl) rfl ?_
      refine k_ld hK 2 dX7_fill_42 rfl rfl rfl rfl ?_
      refine k_ld hK 5 dX7_fill_43 rfl rfl rfl rfl ?_
      refine k_ld hK 3 dX7_fill_44 rfl rfl rfl rfl ?_
      refine k_ld hK 5 dX7_fill_45 rfl rfl rfl rfl ?_
      refine k_ld hK 1 dX7_fill_46 rfl rfl rfl rfl ?_
      refine k_ld hK 0 dX7_fill_48 rfl rfl rfl rfl ?_
      refine k_cSp hK dX7_fill_50 lm_X7_45 (As := [.ref p1, .int x3, .int r6, .int r7]) (S := [.int x3, .ref a0]) rfl (Nat.le_of_ble_eq_true rfl) (fit_0 rfl rfl) rfl hF (fun r8 hF => ?_)
      show K _ _ [.int r8, .int x3, .ref a0] _ _ _
      refine k_iast hK dX7_fill_53 h_a0 l_a0 (by decide) i4 j5 ?_
      refine k_iinc hK 5 dX7_fill_54 (v := (x3 + 1)) rfl (Nat.le_of_ble_eq_true rfl) (congrArg (fun q => x3 + q) ci_1) rfl ?_
      refine k_goto hK dX7_fill_57 (tgt := 2) rfl ?_
      exact k_sub hK [3, 4, 5, 0] rfl hF
set_option maxHeartbeats 4000000 in
theorem g_X7_joined_0 {d : Nat} {K : KT} {Q : Int32 → Prop} {I : HI} {J : HJ} {R : HR} {p0 : Nat} {x1 : Int32} {x2 : Int32} {x3 : Int32} (hK : am_R M_X7_joined (am_W d) none R (qP fi I J R Q) K) (hs : Stat R) (h_p0 : isX9 p0) (hF : ((x1 < 0 → Q 0) ∧ (¬ x1 < 0 → ((x1 < 400 → (∃ n3 : Nat, x1 = nI n3 ∧ n3 < 400 ∧ (((I (p0 + 1) n3) = 3 → Wp fi d M_X3_plus [.int x2, .int x3] I J R (fun r7 => Q r7)) ∧ (¬ (I (p0 + 1) n3) = 3 → (((I (p0 + 1) n3) = 4 → Wp fi d M_X3_minus [.int x2, .int x3] I J R (fun r9 => Q r9)) ∧ (¬ (I (p0 + 1) n3) = 4 → (((I (p0 + 1) n3) = 5 → Wp fi d M_X3_times [.int x2, .int (I (p0 + 5) n3)] I J R (fun r11 => Wp fi d M_X3_times [.int (I (p0 + 4) n3), .int x3] I J R (fun r12 => Wp fi d M_X3_plus [.int r11, .int r12] I J R (fun r13 => Q r13)))) ∧ (¬ (I (p0 + 1) n3) = 5 → Wp fi d M_X3_times [.int (I (p0 + 3) n3), .int x3] I J R (fun r14 => Wp fi d M_X3_minus [.int x2, .int r14] I J R (fun r15 => Wp fi d M_X3_times [.int r15, .int (I (p0 + 8) n3)] I J R (fun r16 => Q r16))))))))))) ∧ (¬ x1 < 400 → Q 0))))) : K 0 [(0, .ref p0), (1, .int x1), (2, .int x2), (3, .int x3)] [] I J R := by
  refine k_ld hK 1 dX7_joined_0 rfl rfl rfl rfl ?_
  refine k_lt hK dX7_joined_1 (tgt := 11) rfl (fun h1 => ?_) (fun h1 => ?_)
  · have hF := hF.1 h1
    refine k_ic hK dX7_joined_11 ci_0 ?_
    exact k_iret hK dX7_joined_12 rfl rfl (done_0 rfl rfl) (qP_i hF)
  · have hF := hF.2 h1
    refine k_ld hK 1 dX7_joined_4 rfl rfl rfl rfl ?_
    refine k_si hK dX7_joined_5 cs_400 ?_
    refine k_clt hK dX7_joined_8 (tgt := 13) rfl (fun h2 => ?_) (fun h2 => ?_)
    · have hF := hF.1 h2
      refine k_ld hK 0 dX7_joined_13 rfl rfl rfl rfl ?_
      refine k_gR hK dX7_joined_14 lf_X7_49 rfl (sk_X9_0 hs h_p0) (sr_X9_0_1 hs h_p0) ?_
      refine k_ld hK 1 dX7_joined_17 rfl rfl rfl rfl ?_
      obtain ⟨n3, i4, j5, hF⟩ := hF
      refine k_iald hK dX7_joined_18 (sk_X9_1 hs h_p0) (sl_X9_1 h_p0) (by decide) i4 j5 rfl ?_
      refine k_tab hK dX7_joined_19 (cs := [(3, 44), (4, 50), (5, 56)]) (td := 80) (by decide) (by decide) ?_
      refine swc (fun h6 => ?_) (fun h6 => ?_)
      · have hF := hF.1 h6
        refine k_ld hK 2 dX7_joined_44 rfl rfl rfl rfl ?_
        refine k_ld hK 3 dX7_joined_45 rfl rfl rfl rfl ?_
        refine k_cSp hK dX7_joined_46 lm_X7_52 (As := [.int x2, .int x3]) (S := []) rfl (Nat.le_of_ble_eq_true rfl) (fit_0 rfl rfl) rfl hF (fun r7 hF => ?_)
        show K _ _ [.int r7] _ _ _
        exact k_iret hK dX7_joined_49 rfl rfl (done_0 rfl rfl) (qP_i hF)
      have hF := hF.2 h6
      refine swc (fun h8 => ?_) (fun h8 => ?_)
      · have hF := hF.1 h8
        refine k_ld hK 2 dX7_joined_50 rfl rfl rfl rfl ?_
        refine k_ld hK 3 dX7_joined_51 rfl rfl rfl rfl ?_
        refine k_cSp hK dX7_joined_52 lm_X7_58 (As := [.int x2, .int x3]) (S := []) rfl (Nat.le_of_ble_eq_true rfl) (fit_0 rfl rfl) rfl hF (fun r9 hF => ?_)
        show K _ _ [.int r9] _ _ _
        exact k_iret hK dX7_joined_55 rfl rfl (done_0 rfl rfl) (qP_i hF)
      have hF := hF.2 h8
      refine swc (fun h10 => ?_) (fun h10 => ?_)
      · have hF := hF.1 h10
        refine k_ld hK 2 dX7_joined_56 rfl rfl rfl rfl ?_
        refine k_ld hK 0 dX7_joined_57 rfl rfl rfl rfl ?_
        refine k_gR hK dX7_joined_58 lf_X7_61 rfl (sk_X9_0 hs h_p0) (sr_X9_0_5 hs h_p0) ?_
        refine k_ld hK 1 dX7_joined_61 rfl rfl rfl rfl ?_
        refine k_iald hK dX7_joined_62 (sk_X9_5 hs h_p0) (sl_X9_5 h_p0) (by decide) i4 j5 rfl ?_
        refine k_cSp hK dX7_joined_63 lm_X7_64 (As := [.int x2, .int (I (p0 + 5) n3)]) (S := []) rfl (Nat.le_of_ble_eq_true rfl) (fit_0 rfl rfl) rfl hF (fun r11 hF => ?_)
        show K _ _ [.int r11] _ _ _
        refine k_ld hK 0 dX7_joined_66 rfl rfl rfl rfl ?_
        refine k_gR hK dX7_joined_67 lf_X7_67 rfl (sk_X9_0 hs h_p0) (sr_X9_0_4 hs h_p0) ?_
        refine k_ld hK 1 dX7_joined_70 rfl rfl rfl rfl ?_
        refine k_iald hK dX7_joined_71 (sk_X9_4 hs h_p0) (sl_X9_4 h_p0) (by decide) i4 j5 rfl ?_
        refine k_ld hK 3 dX7_joined_72 rfl rfl rfl rfl ?_
        refine k_cSp hK dX7_joined_73 lm_X7_64 (As := [.int (I (p0 + 4) n3), .int x3]) (S := [.int r11]) rfl (Nat.le_of_ble_eq_true rfl) (fit_0 rfl rfl) rfl hF (fun r12 hF => ?_)
        show K _ _ [.int r12, .int r11] _ _ _
        refine k_cSp hK dX7_joined_76 lm_X7_52 (As := [.int r11, .int r12]) (S := []) rfl (Nat.le_of_ble_eq_true rfl) (fit_0 rfl rfl) rfl hF (fun r13 hF => ?_)
        show K _ _ [.int r13] _ _ _
        exact k_iret hK dX7_joined_79 rfl rfl (done_0 rfl rfl) (qP_i hF)
      have hF := hF.2 h10
      refine swn ?_
      refine k_ld hK 2 dX7_joined_80 rfl rfl rfl rfl ?_
      refine k_ld hK 0 dX7_joined_81 rfl rfl rfl rfl ?_
      refine k_gR hK dX7_joined_82 lf_X7_70 rfl (sk_X9_0 hs h_p0) (sr_X9_0_3 hs h_p0) ?_
      refine k_ld hK 1 dX7_joined_85 rfl rfl rfl rfl ?_
      refine k_iald hK dX7_joined_86 (sk_X9_3 hs h_p0) (sl_X9_3 h_p0) (by decide) i4 j5 rfl ?_
      refine k_ld hK 3 dX7_joined_87 rfl rfl rfl rfl ?_
      refine k_cSp hK dX7_joined_88 lm_X7_64 (As := [.int (I (p0 + 3) n3), .int x3]) (S := [.int x2]) rfl (Nat.le_of_ble_eq_true rfl) (fit_0 rfl rfl) rfl hF (fun r14 hF => ?_)
      show K _ _ [.int r14, .int x2] _ _ _
      refine k_cSp hK dX7_joined_91 lm_X7_58 (As := [.int x2, .int r14]) (S := []) rfl (Nat.le_of_ble_eq_true rfl) (fit_0 rfl rfl) rfl hF (fun r15 hF => ?_)
      show K _ _ [.int r15] _ _ _
      refine k_ld hK 0 dX7_joined_94 rfl rfl rfl rfl ?_
      refine k_gR hK dX7_joined_95 lf_X7_73 rfl (sk_X9_0 hs h_p0) (sr_X9_0_8 hs h_p0) ?_
      refine k_ld hK 1 dX7_joined_98 rfl rfl rfl rfl ?_
      refine k_iald hK dX7_joined_99 (sk_X9_8 hs h_p0) (sl_X9_8 h_p0) (by decide) i4 j5 rfl ?_
      refine k_cSp hK dX7_joined_100 lm_X7_64 (As := [.int r15, .int (I (p0 + 8) n3)]) (S := []) rfl (Nat.le_of_ble_eq_true rfl) (fit_0 rfl rfl) rfl hF (fun r16 hF => ?_)
      show K _ _ [.int r16] _ _ _
      exact k_iret hK dX7_joined_103 rfl rfl (done_0 rfl rfl) (qP_i hF)
    · have hF := hF.2 h2
      refine k_ic hK dX7_joined_11 ci_0 ?_
      exact k_iret hK dX7_joined_12 rfl rfl (done_0 rfl rfl) (qP_i hF)
theorem e_X7_joined {d : Nat} {Q : Int32 → Prop} {I : HI} {J : HJ} {R : HR} {p0 : Nat} {x1 : Int32} {x2 : Int32} {x3 : Int32} (hs : Stat R) (h_p0 : isX9 p0) (hF : ((x1 < 0 → Q 0) ∧ (¬ x1 < 0 → ((x1 < 400 → (∃ n3 : Nat, x1 = nI n3 ∧ n3 < 400 ∧ (((I (p0 + 1) n3) = 3 → Wp fi d M_X3_plus [.int x2, .int x3] I J R (fun r7 => Q r7)) ∧ (¬ (I (p0 + 1) n3) = 3 → (((I (p0 + 1) n3) = 4 → Wp fi d M_X3_minus [.int x2, .int x3] I J R (fun r9 => Q r9)) ∧ (¬ (I (p0 + 1) n3) = 4 → (((I (p0 + 1) n3) = 5 → Wp fi d M_X3_times [.int x2, .int (I (p0 + 5) n3)] I J R (fun r11 => Wp fi d M_X3_times [.int (I (p0 + 4) n3), .int x3] I J R (fun r12 => Wp fi d M_X3_plus [.int r11, .int r12] I J R (fun r13 => Q r13)))) ∧ (¬ (I (p0 + 1) n3) = 5 → Wp fi d M_X3_times [.int (I (p0 + 3) n3), .int x3] I J R (fun r14 => Wp fi d M_X3_minus [.int x2, .int r14] I J R (fun r15 => Wp fi d M_X3_times [.int r15, .int (I (p0 + 8) n3)] I J R (fun r16 => Q r16))))))))))) ∧ (¬ x1 < 400 → Q 0))))) : Wp fi (d + 1) M_X7_joined [.ref p0, .int x1, .int x2, .int x3] I J R Q := ⟨Nat.le_of_ble_eq_true rfl, fun K hK => g_X7_joined_0 hK hs h_p0 hF⟩
set_option maxHeartbeats 4000000 in
theorem g_X7_twice_0 {d : Nat} {K : KT} {Q : Int32 → HI → Prop} {I : HI} {J : HJ} {R : HR} {p1 : Nat} {x2 : Int32} {x3 : Int32} {x4 : Int32} (hK : am_R M_X7_twice (am_W d) none R (qC fi J R Q) K) (hs : Stat R) (h_p1 : isX9 p1) (hF : Wc fv d M_X7_fill [.ref 73, .ref p1, .int x3] I J R (fun u1 I2 => Wc fv d M_X7_fill [.ref 74, .ref p1, .int x4] I2 J R (fun u3 I4 => K 22 [(0, .ref 72), (1, .ref p1), (2, .int x2), (3, .int x3), (4, .int x4), (5, .int 0)] [] I4 J R))) : K 0 [(0, .ref 72), (1, .ref p1), (2, .int x2), (3, .int x3), (4, .int x4)] [] I J R := by
  refine k_ld hK 0 dX7_twice_0 rfl rfl rfl rfl ?_
  refine k_gR hK dX7_twice_1 lf_X7_9 rfl (sc_72 hs) (sf_72_0 hs) ?_
  refine k_ld hK 1 dX7_twice_4 rfl rfl rfl rfl ?_
  refine k_ld hK 3 dX7_twice_5 rfl rfl rfl rfl ?_
  refine k_cSc hK dX7_twice_6 lm_X7_29 (As := [.ref 73, .ref p1, .int x3]) (S := []) rfl (Nat.le_of_ble_eq_true rfl) (fit_0 rfl rfl) rfl hF (fun u1 I2 hF => ?_)
  show K _ _ [] _ _ _
  refine k_ld hK 0 dX7_twice_9 rfl rfl rfl rfl ?_
  refine k_gR hK dX7_twice_10 lf_X7_15 rfl (sc_72 hs) (sf_72_1 hs) ?_
  refine k_ld hK 1 dX7_twice_13 rfl rfl rfl rfl ?_
  refine k_ld hK 4 dX7_twice_14 rfl rfl rfl rfl ?_
  refine k_cSc hK dX7_twice_16 lm_X7_29 (As := [.ref 74, .ref p1, .int x4]) (S := []) rfl (Nat.le_of_ble_eq_true rfl) (fit_0 rfl rfl) rfl hF (fun u3 I4 hF => ?_)
  show K _ _ [] _ _ _
  refine k_ic hK dX7_twice_19 ci_0 ?_
  refine k_st hK dX7_twice_20 rfl rfl rfl (Nat.le_of_ble_eq_true rfl) rfl ?_
  exact k_sub hK [1, 2, 3, 4, 5, 0] rfl hF
set_option maxHeartbeats 4000000 in
theorem g_X7_twice_22 {d : Nat} {K : KT} {Q : Int32 → HI → Prop} {I : HI} {J : HJ} {R : HR} {p1 : Nat} {x2 : Int32} {x3 : Int32} {x4 : Int32} {x5 : Int32} (hK : am_R M_X7_twice (am_W d) none R (qC fi J R Q) K) (hs : Stat R) (h_p1 : isX9 p1) (hF : (((I p1 0) ≤ x5 → Wp fi d M_X7_of [.ref 75, .int x2, .int (-1)] I J R (fun r2 => Q r2 I)) ∧ (¬ (I p1 0) ≤ x5 → ((400 ≤ x5 → Wp fi d M_X7_of [.ref 75, .int x2, .int (-1)] I J R (fun r4 => Q r4 I)) ∧ (¬ 400 ≤ x5 → (∃ n5 : Nat, x5 = nI n5 ∧ n5 < 400 ∧ Wp fi d M_X7_of [.ref 75, .int (I (p1 + 6) n5), .int (-1)] I J R (fun r8 => Wp fi d M_X7_of [.ref 75, .int (I (p1 + 7) n5), .int (-1)] I J R (fun r9 => Wp fi d M_X7_joined [.ref p1, .int x5, .int r8, .int r9] I J R (fun r10 => Wp fi d M_X7_crossed [.ref 72, .ref p1, .int x5, .int x3, .int x4] I J R (fun r11 => Wp fi d M_X3_plus [.int r10, .int r11] I J R (fun r12 => K 22 [(0, .ref 72), (1, .ref p1), (2, .int x2), (3, .int x3), (4, .int x4), (5, .int (x5 + 1))] [] (up I 75 n5 r12) J R))))))))))) : K 22 [(0, .ref 72), (1, .ref p1), (2, .int x2), (3, .int x3), (4, .int x4), (5, .int x5)] [] I J R := by
  refine k_ld hK 5 dX7_twice_22 rfl rfl rfl rfl ?_
  refine k_ld hK 1 dX7_twice_24 rfl rfl rfl rfl ?_
  refine k_gI hK dX7_twice_25 lf_X7_33 rfl (sk_X9_0 hs h_p1) rfl ?_
  refine k_cge hK dX7_twice_28 (tgt := 109) rfl (fun h1 => ?_) (fun h1 => ?_)
  · have hF := hF.1 h1
    refine k_ld hK 0 dX7_twice_109 rfl rfl rfl rfl ?_
    refine k_gR hK dX7_twice_110 lf_X7_18 rfl (sc_72 hs) (sf_72_2 hs) ?_
    refine k_ld hK 2 dX7_twice_113 rfl rfl rfl rfl ?_
    refine k_ic hK dX7_twice_114 ci_m1 ?_
    refine k_cSp hK dX7_twice_115 lm_X7_25 (As := [.ref 75, .int x2, .int (-1)]) (S := []) rfl (Nat.le_of_ble_eq_true rfl) (fit_0 rfl rfl) rfl hF (fun r2 hF => ?_)
    show K _ _ [.int r2] _ _ _
    exact k_iret hK dX7_twice_118 rfl rfl (done_0 rfl rfl) (qC_i hF)
  · have hF := hF.2 h1
    refine k_ld hK 5 dX7_twice_31 rfl rfl rfl rfl ?_
    refine k_si hK dX7_twice_33 cs_400 ?_
    refine k_cge hK dX7_twice_36 (tgt := 109) rfl (fun h3 => ?_) (fun h3 => ?_)
    · have hF := hF.1 h3
      refine k_ld hK 0 dX7_twice_109 rfl rfl rfl rfl ?_
      refine k_gR hK dX7_twice_110 lf_X7_18 rfl (sc_72 hs) (sf_72_2 hs) ?_
      refine k_ld hK 2 dX7_twice_113 rfl rfl rfl rfl ?_
      refine k_ic hK dX7_twice_114 ci_m1 ?_
      refine k_cSp hK dX7_twice_115 lm_X7_25 (As := [.ref 75, .int x2, .int (-1)]) (S := []) rfl (Nat.le_of_ble_eq_true rfl) (fit_0 rfl rfl) rfl hF (fun r4 hF => ?_)
      show K _ _ [.int r4] _ _ _
      exact k_iret hK dX7_twice_118 rfl rfl (done_0 rfl rfl) (qC_i hF)
    · have hF := hF.2 h3
      refine k_ld hK 0 dX7_twice_39 rfl rfl rfl rfl ?_
      refine k_gR hK dX7_twice_40 lf_X7_18 rfl (sc_72 hs) (sf_72_2 hs) ?_
      refine k_ld hK 1 dX7_twice_43 rfl rfl rfl rfl ?_
      refine k_gR hK dX7_twice_44 lf_X7_39 rfl (sk_X9_0 hs h_p1) (sr_X9_0_6 hs h_p1) ?_
      refine k_ld hK 5 dX7_twice_47 rfl rfl rfl rfl ?_
      obtain ⟨n5, i6, j7, hF⟩ := hF
      refine k_iald hK dX7_twice_49 (sk_X9_6 hs h_p1) (sl_X9_6 h_p1) (by decide) i6 j7 rfl ?_
      refine k_ic hK dX7_twice_50 ci_m1 ?_
      refine k_cSp hK dX7_twice_51 lm_X7_25 (As := [.ref 75, .int (I (p1 + 6) n5), .int (-1)]) (S := []) rfl (Nat.le_of_ble_eq_true rfl) (fit_0 rfl rfl) rfl hF (fun r8 hF => ?_)
      show K _ _ [.int r8] _ _ _
      refine k_st hK dX7_twice_54 rfl rfl rfl (Nat.le_of_ble_eq_true rfl) rfl ?_
      refine k_ld hK 1 dX7_twice_56 rfl rfl rfl rfl ?_
      refine k_gR hK dX7_twice_57 lf_X7_18 rfl (sc_72 hs) (sf_72_2 hs) ?_
      refine k_ld hK 2 dX7_twice_60 rfl rfl rfl rfl ?_
      refine k_gR hK dX7_twice_61 lf_X7_42 rfl (sk_X9_0 hs h_p1) (sr_X9_0_7 hs h_p1) ?_
      refine k_ld hK 6 dX7_twice_64 rfl rfl rfl rfl ?_
      refine k_iald hK dX7_twice_66 (sk_X9_7 hs h_p1) (sl_X9_7 h_p1) (by decide) i6 j7 rfl ?_
      refine k_ic hK dX7_twice_67 ci_m1 ?_
      refine k_cSp hK dX7_twice_68 lm_X7_25 (As := [.ref 75, .int (I (p1 + 7) n5), .int (-1)]) (S := []) rfl (Nat.le_of_ble_eq_true rfl) (fit_0 rfl rfl) rfl hF (fun r9 hF => ?_)
      show K _ _ [.int r9] _ _ _
      refine k_st hK dX7_twice_71 rfl rfl rfl (Nat.le_of_ble_eq_true rfl) rfl ?_
      refine k_ld hK 2 dX7_twice_73 rfl rfl rfl rfl ?_
      refine k_gR hK dX7_twice_74 lf_X7_18 rfl (sc_72 hs) (sf_72_2 hs) ?_
      refine k_ld hK 7 dX7_twice_77 rfl rfl rfl rfl ?_
      refine k_ld hK 3 dX7_twice_79 rfl rfl rfl rfl ?_
      refine k_ld hK 7 dX7_twice_80 rfl rfl rfl rfl ?_
      refine k_ld hK 1 dX7_twice_82 rfl rfl rfl rfl ?_
      refine k_ld hK 0 dX7_twice_84 rfl rfl rfl rfl ?_
      refine k_cSp hK dX7_twice_86 lm_X7_45 (As := [.ref p1, .int x5, .int r8, .int r9]) (S := [.int x5, .ref 75]) rfl (Nat.le_of_ble_eq_true rfl) (fit_0 rfl rfl) rfl hF (fun r10 hF => ?_)
      show K _ _ [.int r10, .int x5, .ref 75] _ _ _
      refine k_ld hK 2 dX7_twice_89 rfl rfl rfl rfl ?_
      refine k_ld hK 3 dX7_twice_90 rfl rfl rfl rfl ?_
      refine k_ld hK 7 dX7_twice_91 rfl rfl rfl rfl ?_
      refine k_ld hK 5 dX7_twice_93 rfl rfl rfl rfl ?_
      refine k_ld hK 6 dX7_twice_94 rfl rfl rfl rfl ?_
      refine k_cVp hK dX7_twice_96 (Or.inl lm_X7_76) (As := [.ref p1, .int x5, .int x3, .int x4]) (S := [.int r10, .int x5, .ref 75]) rfl (sc_72 hs) (Nat.le_of_ble_eq_true rfl) (fit_0 rfl rfl) rfl hF (fun r11 hF => ?_)
      show K _ _ [.int r11, .int r10, .int x5, .ref 75] _ _ _
      refine k_cSp hK dX7_twice_99 lm_X7_52 (As := [.int r10, .int r11]) (S := [.int x5, .ref 75]) rfl (Nat.le_of_ble_eq_true rfl) (fit_0 rfl rfl) rfl hF (fun r12 hF => ?_)
      show K _ _ [.int r12, .int x5, .ref 75] _ _ _
      refine k_iast hK dX7_twice_102 (sc_75 hs) sn_75 (by decide) i6 j7 ?_
      refine k_iinc hK 7 dX7_twice_103 (v := (x5 + 1)) rfl (Nat.le_of_ble_eq_true rfl) (congrArg (fun q => x5 + q) ci_1) rfl ?_
      refine k_goto hK dX7_twice_106 (tgt := 22) rfl ?_
      exact k_sub hK [3, 4, 5, 6, 7, 0] rfl hF
set_option maxHeartbeats 4000000 in
theorem g_X7_crossed_0 {d : Nat} {K : KT} {Q : Int32 → Prop} {I : HI} {J : HJ} {R : HR} {p1 : Nat} {x2 : Int32} {x3 : Int32} {x4 : Int32} (hK : am_R M_X7_crossed (am_W d) none R (qP fi I J R Q) K) (hs : Stat R) (h_p1 : isX9 p1) (hF : ((x2 < 0 → Q 0) ∧ (¬ x2 < 0 → ((400 ≤ x2 → Q 0) ∧ (¬ 400 ≤ x2 → (∃ n3 : Nat, x2 = nI n3 ∧ n3 < 400 ∧ (((I (p1 + 1) n3) = 5 → K 34 [(0, .ref 72), (1, .ref p1), (2, .int x2), (3, .int x3), (4, .int x4)] [] I J R) ∧ (¬ (I (p1 + 1) n3) = 5 → (((I (p1 + 1) n3) = 6 → K 34 [(0, .ref 72), (1, .ref p1), (2, .int x2), (3, .int x3), (4, .int x4)] [] I J R) ∧ (¬ (I (p1 + 1) n3) = 6 → Q 0)))))))))) : K 0 [(0, .ref 72), (1, .ref p1), (2, .int x2), (3, .int x3), (4, .int x4)] [] I J R := by
  refine k_ld hK 2 dX7_crossed_0 rfl rfl rfl rfl ?_
  refine k_lt hK dX7_crossed_1 (tgt := 32) rfl (fun h1 => ?_) (fun h1 => ?_)
  · have hF := hF.1 h1
    refine k_ic hK dX7_crossed_32 ci_0 ?_
    exact k_iret hK dX7_crossed_33 rfl rfl (done_0 rfl rfl) (qP_i hF)
  · have hF := hF.2 h1
    refine k_ld hK 2 dX7_crossed_4 rfl rfl rfl rfl ?_
    refine k_si hK dX7_crossed_5 cs_400 ?_
    refine k_cge hK dX7_crossed_8 (tgt := 32) rfl (fun h2 => ?_) (fun h2 => ?_)
    · have hF := hF.1 h2
      refine k_ic hK dX7_crossed_32 ci_0 ?_
      exact k_iret hK dX7_crossed_33 rfl rfl (done_0 rfl rfl) (qP_i hF)
    · have hF := hF.2 h2
      refine k_ld hK 1 dX7_crossed_11 rfl rfl rfl rfl ?_
      refine k_gR hK dX7_crossed_12 lf_X7_49 rfl (sk_X9_0 hs h_p1) (sr_X9_0_1 hs h_p1) ?_
      refine k_ld hK 2 dX7_crossed_15 rfl rfl rfl rfl ?_
      obtain ⟨n3, i4, j5, hF⟩ := hF
      refine k_iald hK dX7_crossed_16 (sk_X9_1 hs h_p1) (sl_X9_1 h_p1) (by decide) i4 j5 rfl ?_
      refine k_ic hK dX7_crossed_17 ci_5 ?_
      refine k_ceq hK dX7_crossed_18 (tgt := 34) rfl (fun h6 => ?_) (fun h6 => ?_)
      · have hF := hF.1 h6
        exact k_sub hK [0, 1, 2, 3, 4] rfl hF
      · have hF := hF.2 h6
        refine k_ld hK 1 dX7_crossed_21 rfl rfl rfl rfl ?_
        refine k_gR hK dX7_crossed_22 lf_X7_49 rfl (sk_X9_0 hs h_p1) (sr_X9_0_1 hs h_p1) ?_
        refine k_ld hK 2 dX7_crossed_25 rfl rfl rfl rfl ?_
        refine k_iald hK dX7_crossed_26 (sk_X9_1 hs h_p1) (sl_X9_1 h_p1) (by decide) i4 j5 rfl ?_
        refine k_bi hK dX7_crossed_27 cb_6 ?_
        refine k_ceq hK dX7_crossed_29 (tgt := 34) rfl (fun h7 => ?_) (fun h7 => ?_)
        · have hF := hF.1 h7
          exact k_sub hK [0, 1, 2, 3, 4] rfl hF
        · have hF := hF.2 h7
          refine k_ic hK dX7_crossed_32 ci_0 ?_
          exact k_iret hK dX7_crossed_33 rfl rfl (done_0 rfl rfl) (qP_i hF)
set_option maxHeartbeats 4000000 in
theorem g_X7_crossed_34 {d : Nat} {K : KT} {Q : Int32 → Prop} {I : HI} {J : HJ} {R : HR} {p1 : Nat} {x2 : Int32} {x3 : Int32} {x4 : Int32} (hK : am_R M_X7_crossed (am_W d) none R (qP fi I J R Q) K) (hs : Stat R) (h_p1 : isX9 p1) (hF : (∃ n1 : Nat, x2 = nI n1 ∧ n1 < 400 ∧ Wp fi d M_X7_of [.ref 73, .int (I (p1 + 7) n1), .int x3] I J R (fun r4 => Wp fi d M_X7_of [.ref 74, .int (I (p1 + 7) n1), .int x4] I J R (fun r5 => ((¬ (I (p1 + 1) n1) = 5 → Wp fi d M_X3_times [.int (I 73 n1), .int r5] I J R (fun r7 => Wp fi d M_X3_times [.int (I 74 n1), .int r4] I J R (fun r8 => Wp fi d M_X3_plus [.int r7, .int r8] I J R (fun r9 => Wp fi d M_X3_minus [.int 0, .int r9] I J R (fun r10 => Wp fi d M_X3_times [.int r10, .int (I (p1 + 8) n1)] I J R (fun r11 => Q r11)))))) ∧ ((I (p1 + 1) n1) = 5 → Wp fi d M_X7_of [.ref 73, .int (I (p1 + 6) n1), .int x3] I J R (fun r12 => Wp fi d M_X7_of [.ref 74, .int (I (p1 + 6) n1), .int x4] I J R (fun r13 => Wp fi d M_X3_times [.int r12, .int r5] I J R (fun r14 => Wp fi d M_X3_times [.int r13, .int r4] I J R (fun r15 => Wp fi d M_X3_plus [.int r14, .int r15] I J R (fun r16 => Q r16))))))))))) : K 34 [(0, .ref 72), (1, .ref p1), (2, .int x2), (3, .int x3), (4, .int x4)] [] I J R := by
  refine k_ld hK 0 dX7_crossed_34 rfl rfl rfl rfl ?_
  refine k_gR hK dX7_crossed_35 lf_X7_9 rfl (sc_72 hs) (sf_72_0 hs) ?_
  refine k_ld hK 1 dX7_crossed_38 rfl rfl rfl rfl ?_
  refine k_gR hK dX7_crossed_39 lf_X7_42 rfl (sk_X9_0 hs h_p1) (sr_X9_0_7 hs h_p1) ?_
  refine k_ld hK 2 dX7_crossed_42 rfl rfl rfl rfl ?_
  obtain ⟨n1, i2, j3, hF⟩ := hF
  refine k_iald hK dX7_crossed_43 (sk_X9_7 hs h_p1) (sl_X9_7 h_p1) (by decide) i2 j3 rfl ?_
  refine k_ld hK 3 dX7_crossed_44 rfl rfl rfl rfl ?_
  refine k_cSp hK dX7_crossed_45 lm_X7_25 (As := [.ref 73, .int (I (p1 + 7) n1), .int x3]) (S := []) rfl (Nat.le_of_ble_eq_true rfl) (fit_0 rfl rfl) rfl hF (fun r4 hF => ?_)
  show K _ _ [.int r4] _ _ _
  refine k_st hK dX7_crossed_48 rfl rfl rfl (Nat.le_of_ble_eq_true rfl) rfl ?_
  refine k_ld hK 1 dX7_crossed_50 rfl rfl rfl rfl ?_
  refine k_gR hK dX7_crossed_51 lf_X7_15 rfl (sc_72 hs) (sf_72_1 hs) ?_
  refine k_ld hK 2 dX7_crossed_54 rfl rfl rfl rfl ?_
  refine k_gR hK dX7_crossed_55 lf_X7_42 rfl (sk_X9_0 hs h_p1) (sr_X9_0_7 hs h_p1) ?_
  refine k_ld hK 3 dX7_crossed_58 rfl rfl rfl rfl ?_
  refine k_iald hK dX7_crossed_59 (sk_X9_7 hs h_p1) (sl_X9_7 h_p1) (by decide) i2 j3 rfl ?_
  refine k_ld hK 5 dX7_crossed_60 rfl rfl rfl rfl ?_
  refine k_cSp hK dX7_crossed_62 lm_X7_25 (As := [.ref 74, .int (I (p1 + 7) n1), .int x4]) (S := []) rfl (Nat.le_of_ble_eq_true rfl) (fit_0 rfl rfl) rfl hF (fun r5 hF => ?_)
  show K _ _ [.int r5] _ _ _
  refine k_st hK dX7_crossed_65 rfl rfl rfl (Nat.le_of_ble_eq_true rfl) rfl ?_
  refine k_ld hK 3 dX7_crossed_67 rfl rfl rfl rfl ?_
  refine k_gR hK dX7_crossed_68 lf_X7_49 rfl (sk_X9_0 hs h_p1) (sr_X9_0_1 hs h_p1) ?_
  refine k_ld hK 4 dX7_crossed_71 rfl rfl rfl rfl ?_
  refine k_iald hK dX7_crossed_72 (sk_X9_1 hs h_p1) (sl_X9_1 h_p1) (by decide) i2 j3 rfl ?_
  refine k_ic hK dX7_crossed_73 ci_5 ?_
  refine k_cne hK dX7_crossed_74 (tgt := 128) rfl (fun h6 => ?_) (fun h6 => ?_)
  · have hF := hF.1 h6
    refine k_ld hK 2 dX7_crossed_128 rfl rfl rfl rfl ?_
    refine k_gR hK dX7_crossed_129 lf_X7_9 rfl (sc_72 hs) (sf_72_0 hs) ?_
    refine k_ld hK 4 dX7_crossed_132 rfl rfl rfl rfl ?_
    refine k_iald hK dX7_crossed_133 (sc_73 hs) sn_73 (by decide) i2 j3 rfl ?_
    refine k_ld hK 0 dX7_crossed_134 rfl rfl rfl rfl ?_
    refine k_cSp hK dX7_crossed_136 lm_X7_64 (As := [.int (I 73 n1), .int r5]) (S := []) rfl (Nat.le_of_ble_eq_true rfl) (fit_0 rfl rfl) rfl hF (fun r7 hF => ?_)
    show K _ _ [.int r7] _ _ _
    refine k_ld hK 2 dX7_crossed_139 rfl rfl rfl rfl ?_
    refine k_gR hK dX7_crossed_140 lf_X7_15 rfl (sc_72 hs) (sf_72_1 hs) ?_
    refine k_ld hK 4 dX7_crossed_143 rfl rfl rfl rfl ?_
    refine k_iald hK dX7_crossed_144 (sc_74 hs) sn_74 (by decide) i2 j3 rfl ?_
    refine k_ld hK 1 dX7_crossed_145 rfl rfl rfl rfl ?_
    refine k_cSp hK dX7_crossed_147 lm_X7_64 (As := [.int (I 74 n1), .int r4]) (S := [.int r7]) rfl (Nat.le_of_ble_eq_true rfl) (fit_0 rfl rfl) rfl hF (fun r8 hF => ?_)
    show K _ _ [.int r8, .int r7] _ _ _
    refine k_cSp hK dX7_crossed_150 lm_X7_52 (As := [.int r7, .int r8]) (S := []) rfl (Nat.le_of_ble_eq_true rfl) (fit_0 rfl rfl) rfl hF (fun r9 hF => ?_)
    show K _ _ [.int r9] _ _ _
    refine k_st hK dX7_crossed_153 rfl rfl rfl (Nat.le_of_ble_eq_true rfl) rfl ?_
    refine k_ic hK dX7_crossed_155 ci_0 ?_
    refine k_ld hK 0 dX7_crossed_156 rfl rfl rfl rfl ?_
    refine k_cSp hK dX7_crossed_158 lm_X7_58 (As := [.int 0, .int r9]) (S := []) rfl (Nat.le_of_ble_eq_true rfl) (fit_0 rfl rfl) rfl hF (fun r10 hF => ?_)
    show K _ _ [.int r10] _ _ _
    refine k_ld hK 4 dX7_crossed_161 rfl rfl rfl rfl ?_
    refine k_gR hK dX7_crossed_162 lf_X7_73 rfl (sk_X9_0 hs h_p1) (sr_X9_0_8 hs h_p1) ?_
    refine k_ld hK 5 dX7_crossed_165 rfl rfl rfl rfl ?_
    refine k_iald hK dX7_crossed_166 (sk_X9_8 hs h_p1) (sl_X9_8 h_p1) (by decide) i2 j3 rfl ?_
    refine k_cSp hK dX7_crossed_167 lm_X7_64 (As := [.int r10, .int (I (p1 + 8) n1)]) (S := []) rfl (Nat.le_of_ble_eq_true rfl) (fit_0 rfl rfl) rfl hF (fun r11 hF => ?_)
    show K _ _ [.int r11] _ _ _
    exact k_iret hK dX7_crossed_170 rfl rfl (done_0 rfl rfl) (qP_i hF)
  · have hF := hF.2 h6
    refine k_ld hK 2 dX7_crossed_77 rfl rfl rfl rfl ?_
    refine k_gR hK dX7_crossed_78 lf_X7_9 rfl (sc_72 hs) (sf_72_0 hs) ?_
    refine k_ld hK 3 dX7_crossed_81 rfl rfl rfl rfl ?_
    refine k_gR hK dX7_crossed_82 lf_X7_39 rfl (sk_X9_0 hs h_p1) (sr_X9_0_6 hs h_p1) ?_
    refine k_ld hK 4 dX7_crossed_85 rfl rfl rfl rfl ?_
    refine k_iald hK dX7_crossed_86 (sk_X9_6 hs h_p1) (sl_X9_6 h_p1) (by decide) i2 j3 rfl ?_
    refine k_ld hK 5 dX7_crossed_87 rfl rfl rfl rfl ?_
    refine k_cSp hK dX7_crossed_88 lm_X7_25 (As := [.ref 73, .int (I (p1 + 6) n1), .int x3]) (S := []) rfl (Nat.le_of_ble_eq_true rfl) (fit_0 rfl rfl) rfl hF (fun r12 hF => ?_)
    show K _ _ [.int r12] _ _ _
    refine k_st hK dX7_crossed_91 rfl rfl rfl (Nat.le_of_ble_eq_true rfl) rfl ?_
    refine k_ld hK 3 dX7_crossed_93 rfl rfl rfl rfl ?_
    refine k_gR hK dX7_crossed_94 lf_X7_15 rfl (sc_72 hs) (sf_72_1 hs) ?_
    refine k_ld hK 4 dX7_crossed_97 rfl rfl rfl rfl ?_
    refine k_gR hK dX7_crossed_98 lf_X7_39 rfl (sk_X9_0 hs h_p1) (sr_X9_0_6 hs h_p1) ?_
    refine k_ld hK 5 dX7_crossed_101 rfl rfl rfl rfl ?_
    refine k_iald hK dX7_crossed_102 (sk_X9_6 hs h_p1) (sl_X9_6 h_p1) (by decide) i2 j3 rfl ?_
    refine k_ld hK 7 dX7_crossed_103 rfl rfl rfl rfl ?_
    refine k_cSp hK dX7_crossed_105 lm_X7_25 (As := [.ref 74, .int (I (p1 + 6) n1), .int x4]) (S := []) rfl (Nat.le_of_ble_eq_true rfl) (fit_0 rfl rfl) rfl hF (fun r13 hF => ?_)
    show K _ _ [.int r13] _ _ _
    refine k_st hK dX7_crossed_108 rfl rfl rfl (Nat.le_of_ble_eq_true rfl) rfl ?_
    refine k_ld hK 1 dX7_crossed_110 rfl rfl rfl rfl ?_
    refine k_ld hK 2 dX7_crossed_112 rfl rfl rfl rfl ?_
    refine k_cSp hK dX7_crossed_114 lm_X7_64 (As := [.int r12, .int r5]) (S := []) rfl (Nat.le_of_ble_eq_true rfl) (fit_0 rfl rfl) rfl hF (fun r14 hF => ?_)
    show K _ _ [.int r14] _ _ _
    refine k_ld hK 0 dX7_crossed_117 rfl rfl rfl rfl ?_
    refine k_ld hK 3 dX7_crossed_119 rfl rfl rfl rfl ?_
    refine k_cSp hK dX7_crossed_121 lm_X7_64 (As := [.int r13, .int r4]) (S := [.int r14]) rfl (Nat.le_of_ble_eq_true rfl) (fit_0 rfl rfl) rfl hF (fun r15 hF => ?_)
    show K _ _ [.int r15, .int r14] _ _ _
    refine k_cSp hK dX7_crossed_124 lm_X7_52 (As := [.int r14, .int r15]) (S := []) rfl (Nat.le_of_ble_eq_true rfl) (fit_0 rfl rfl) rfl hF (fun r16 hF => ?_)
    show K _ _ [.int r16] _ _ _
    exact k_iret hK dX7_crossed_127 rfl rfl (done_0 rfl rfl) (qP_i hF)
set_option maxHeartbeats 4000000 in
theorem g_X8_clear_0 {d : Nat} {K : KT} {Q : Unit → HI → Prop} {I : HI} {J : HJ} {R : HR} {o : Nat} {x1 : Int32} (hK : am_R M_X8_clear (am_W d) none R (qC fv J R Q) K) (hs : Stat R) (h_o : isX8 o) (hF : K 16 [(0, .ref o), (2, .int 0)] [] (up I o 2 (if 0 < (if 48 < x1 then 48 else x1) then (if 48 < x1 then 48 else x1) else 0)) J R) : K 0 [(0, .ref o), (1, .int x1)] [] I J R := by
  refine k_ld hK 0 dX8_clear_0 rfl rfl rfl rfl ?_
  refine k_ic hK dX8_clear_1 ci_0 ?_
  refine k_ld hK 1 dX8_clear_2 rfl rfl rfl rfl ?_
  refine k_bi hK dX8_clear_3 cb_48 ?_
  refine k_min hK dX8_clear_5 lx_X8_18 lmath_min_1 lmath_0 lmath_min_2 (Nat.le_of_ble_eq_true rfl) (Nat.le_add_right _ _) (Nat.le_add_right _ _) ?_
  refine k_max hK dX8_clear_8 lx_X8_24 lmath_max_1 lmath_0 lmath_max_2 (Nat.le_of_ble_eq_true rfl) (Nat.le_add_right _ _) (Nat.le_add_right _ _) ?_
  refine k_pI hK dX8_clear_11 lf_X8_27 rfl rfl rfl (sk_X8_0 hs h_o) ?_
  refine k_ic hK dX8_clear_14 ci_0 ?_
  refine k_st hK dX8_clear_15 rfl rfl rfl (Nat.le_of_ble_eq_true rfl) rfl ?_
  exact k_sub hK [1, 0] rfl hF
set_option maxHeartbeats 4000000 in
theorem g_X8_clear_16 {d : Nat} {K : KT} {Q : Unit → HI → Prop} {I : HI} {J : HJ} {R : HR} {o : Nat} {x2 : Int32} (hK : am_R M_X8_clear (am_W d) none R (qC fv J R Q) K) (hs : Stat R) (h_o : isX8 o) (hF : (((I o 2) ≤ x2 → Q () I) ∧ (¬ (I o 2) ≤ x2 → (∃ n2 : Nat, x2 = nI n2 ∧ n2 < 48 ∧ K 16 [(0, .ref o), (2, .int (x2 + 1))] [] (up (up I (o + 1) n2 0) (o + 2) n2 (-2)) J R)))) : K 16 [(0, .ref o), (2, .int x2)] [] I J R := by
  refine k_ld hK 1 dX8_clear_16 rfl rfl rfl rfl ?_
  refine k_ld hK 0 dX8_clear_17 rfl rfl rfl rfl ?_
  refine k_gI hK dX8_clear_18 lf_X8_27 rfl (sk_X8_0 hs h_o) rfl ?_
  refine k_cge hK dX8_clear_21 (tgt := 45) rfl (fun h1 => ?_) (fun h1 => ?_)
  · have hF := hF.1 h1
    exact k_vret hK dX8_clear_45 rfl (done_0 rfl rfl) (qC_i hF)
  · have hF := hF.2 h1
    refine k_ld hK 0 dX8_clear_24 rfl rfl rfl rfl ?_
    refine k_gR hK dX8_clear_25 lf_X8_11 rfl (sk_X8_0 hs h_o) (sr_X8_0_0 hs h_o) ?_
    refine k_ld hK 1 dX8_clear_28 rfl rfl rfl rfl ?_
    refine k_ic hK dX8_clear_29 ci_0 ?_
    obtain ⟨n2, i3, j4, hF⟩ := hF
    refine k_iast hK dX8_clear_30 (sk_X8_1 hs h_o) (sl_X8_1 h_o) (by decide) i3 j4 ?_
    refine k_ld hK 0 dX8_clear_31 rfl rfl rfl rfl ?_
    refine k_gR hK dX8_clear_32 lf_X8_15 rfl (sk_X8_0 hs h_o) (sr_X8_0_1 hs h_o) ?_
    refine k_ld hK 1 dX8_clear_35 rfl rfl rfl rfl ?_
    refine k_bi hK dX8_clear_36 cb_m2 ?_
    refine k_iast hK dX8_clear_38 (sk_X8_2 hs h_o) (sl_X8_2 h_o) (by decide) i3 j4 ?_
    refine k_iinc hK 1 dX8_clear_39 (v := (x2 + 1)) rfl (Nat.le_of_ble_eq_true rfl) (congrArg (fun q => x2 + q) ci_1) rfl ?_
    refine k_goto hK dX8_clear_42 (tgt := 16) rfl ?_
    exact k_sub hK [1, 0] rfl hF
set_option maxHeartbeats 4000000 in
theorem g_X8_valueAt_0 {d : Nat} {K : KT} {Q : Int32 → Prop} {I : HI} {J : HJ} {R : HR} {o : Nat} {x1 : Int32} (hK : am_R M_X8_valueAt (am_W d) none R (qP fi I J R Q) K) (hs : Stat R) (h_o : isX8 o) (hF : ((x1 < 0 → Q 0) ∧ (¬ x1 < 0 → (((I o 2) ≤ x1 → Q 0) ∧ (¬ (I o 2) ≤ x1 → (∃ n3 : Nat, x1 = nI n3 ∧ n3 < 48 ∧ Q (I (o + 1) n3))))))) : K 0 [(0, .ref o), (1, .int x1)] [] I J R := by
  refine k_ld hK 1 dX8_valueAt_0 rfl rfl rfl rfl ?_
  refine k_lt hK dX8_valueAt_1 (tgt := 21) rfl (fun h1 => ?_) (fun h1 => ?_)
  · have hF := hF.1 h1
    refine k_ic hK dX8_valueAt_21 ci_0 ?_
    exact k_iret hK dX8_valueAt_22 rfl rfl (done_0 rfl rfl) (qP_i hF)
  · have hF := hF.2 h1
    refine k_ld hK 1 dX8_valueAt_4 rfl rfl rfl rfl ?_
    refine k_ld hK 0 dX8_valueAt_5 rfl rfl rfl rfl ?_
    refine k_gI hK dX8_valueAt_6 lf_X8_27 rfl (sk_X8_0 hs h_o) rfl ?_
    refine k_cge hK dX8_valueAt_9 (tgt := 21) rfl (fun h2 => ?_) (fun h2 => ?_)
    · have hF := hF.1 h2
      refine k_ic hK dX8_valueAt_21 ci_0 ?_
      exact k_iret hK dX8_valueAt_22 rfl rfl (done_0 rfl rfl) (qP_i hF)
    · have hF := hF.2 h2
      refine k_ld hK 0 dX8_valueAt_12 rfl rfl rfl rfl ?_
      refine k_gR hK dX8_valueAt_13 lf_X8_11 rfl (sk_X8_0 hs h_o) (sr_X8_0_0 hs h_o) ?_
      refine k_ld hK 1 dX8_valueAt_16 rfl rfl rfl rfl ?_
      obtain ⟨n3, i4, j5, hF⟩ := hF
      refine k_iald hK dX8_valueAt_17 (sk_X8_1 hs h_o) (sl_X8_1 h_o) (by decide) i4 j5 rfl ?_
      refine k_goto hK dX8_valueAt_18 (tgt := 22) rfl ?_
      exact k_iret hK dX8_valueAt_22 rfl rfl (done_0 rfl rfl) (qP_i hF)
theorem e_X8_valueAt {d : Nat} {Q : Int32 → Prop} {I : HI} {J : HJ} {R : HR} {o : Nat} {x1 : Int32} (hs : Stat R) (h_o : isX8 o) (hF : ((x1 < 0 → Q 0) ∧ (¬ x1 < 0 → (((I o 2) ≤ x1 → Q 0) ∧ (¬ (I o 2) ≤ x1 → (∃ n3 : Nat, x1 = nI n3 ∧ n3 < 48 ∧ Q (I (o + 1) n3))))))) : Wp fi (d + 1) M_X8_valueAt [.ref o, .int x1] I J R Q := ⟨Nat.le_of_ble_eq_true rfl, fun K hK => g_X8_valueAt_0 hK hs h_o hF⟩
set_option maxHeartbeats 4000000 in
theorem g_X8_sourceAt_0 {d : Nat} {K : KT} {Q : Int32 → Prop} {I : HI} {J : HJ} {R : HR} {o : Nat} {x1 : Int32} (hK : am_R M_X8_sourceAt (am_W d) none R (qP fi I J R Q) K) (hs : Stat R) (h_o : isX8 o) (hF : ((x1 < 0 → Q (-2)) ∧ (¬ x1 < 0 → (((I o 2) ≤ x1 → Q (-2)) ∧ (¬ (I o 2) ≤ x1 → (∃ n3 : Nat, x1 = nI n3 ∧ n3 < 48 ∧ Q (I (o + 2) n3))))))) : K 0 [(0, .ref o), (1, .int x1)] [] I J R := by
  refine k_ld hK 1 dX8_sourceAt_0 rfl rfl rfl rfl ?_
  refine k_lt hK dX8_sourceAt_1 (tgt := 21) rfl (fun h1 => ?_) (fun h1 => ?_)
  · have hF := hF.1 h1
    refine k_bi hK dX8_sourceAt_21 cb_m2 ?_
    exact k_iret hK dX8_sourceAt_23 rfl rfl (done_0 rfl rfl) (qP_i hF)
  · have hF := hF.2 h1
    refine k_ld hK 1 dX8_sourceAt_4 rfl rfl rfl rfl ?_
    refine k_ld hK 0 dX8_sourceAt_5 rfl rfl rfl rfl ?_
    refine k_gI hK dX8_sourceAt_6 lf_X8_27 rfl (sk_X8_0 hs h_o) rfl ?_
    refine k_cge hK dX8_sourceAt_9 (tgt := 21) rfl (fun h2 => ?_) (fun h2 => ?_)
    · have hF := hF.1 h2
      refine k_bi hK dX8_sourceAt_21 cb_m2 ?_
      exact k_iret hK dX8_sourceAt_23 rfl rfl (done_0 rfl rfl) (qP_i hF)
    · have hF := hF.2 h2
      refine k_ld hK 0 dX8_sourceAt_12 rfl rfl rfl rfl ?_
      refine k_gR hK dX8_sourceAt_13 lf_X8_15 rfl (sk_X8_0 hs h_o) (sr_X8_0_1 hs h_o) ?_
      refine k_ld hK 1 dX8_sourceAt_16 rfl rfl rfl rfl ?_
      obtain ⟨n3, i4, j5, hF⟩ := hF
      refine k_iald hK dX8_sourceAt_17 (sk_X8_2 hs h_o) (sl_X8_2 h_o) (by decide) i4 j5 rfl ?_
      refine k_goto hK dX8_sourceAt_18 (tgt := 23) rfl ?_
      exact k_iret hK dX8_sourceAt_23 rfl rfl (done_0 rfl rfl) (qP_i hF)
theorem e_X8_sourceAt {d : Nat} {Q : Int32 → Prop} {I : HI} {J : HJ} {R : HR} {o : Nat} {x1 : Int32} (hs : Stat R) (h_o : isX8 o) (hF : ((x1 < 0 → Q (-2)) ∧ (¬ x1 < 0 → (((I o 2) ≤ x1 → Q (-2)) ∧ (¬ (I o 2) ≤ x1 → (∃ n3 : Nat, x1 = nI n3 ∧ n3 < 48 ∧ Q (I (o + 2) n3))))))) : Wp fi (d + 1) M_X8_sourceAt [.ref o, .int x1] I J R Q := ⟨Nat.le_of_ble_eq_true rfl, fun K hK => g_X8_sourceAt_0 hK hs h_o hF⟩
set_option maxHeartbeats 4000000 in
theorem g_X8_put_0 {d : Nat} {K : KT} {Q : Unit → HI → Prop} {I : HI} {J : HJ} {R : HR} {o : Nat} {x1 : Int32} {x2 : Int32} {x3 : Int32} (hK : am_R M_X8_put (am_W d) none R (qC fv J R Q) K) (hs : Stat R) (h_o : isX8 o) (hF : ((x1 < 0 → Q () I) ∧ (¬ x1 < 0 → (((I o 2) ≤ x1 → Q () I) ∧ (¬ (I o 2) ≤ x1 → (∃ n3 : Nat, x1 = nI n3 ∧ n3 < 48 ∧ Q () (up (up I (o + 1) n3 x2) (o + 2) n3 x3))))))) : K 0 [(0, .ref o), (1, .int x1), (2, .int x2), (3, .int x3)] [] I J R := by
  refine k_ld hK 1 dX8_put_0 rfl rfl rfl rfl ?_
  refine k_lt hK dX8_put_1 (tgt := 26) rfl (fun h1 => ?_) (fun h1 => ?_)
  · have hF := hF.1 h1
    exact k_vret hK dX8_put_26 rfl (done_0 rfl rfl) (qC_i hF)
  · have hF := hF.2 h1
    refine k_ld hK 1 dX8_put_4 rfl rfl rfl rfl ?_
    refine k_ld hK 0 dX8_put_5 rfl rfl rfl rfl ?_
    refine k_gI hK dX8_put_6 lf_X8_27 rfl (sk_X8_0 hs h_o) rfl ?_
    refine k_cge hK dX8_put_9 (tgt := 26) rfl (fun h2 => ?_) (fun h2 => ?_)
    · have hF := hF.1 h2
      exact k_vret hK dX8_put_26 rfl (done_0 rfl rfl) (qC_i hF)
    · have hF := hF.2 h2
      refine k_ld hK 0 dX8_put_12 rfl rfl rfl rfl ?_
      refine k_gR hK dX8_put_13 lf_X8_11 rfl (sk_X8_0 hs h_o) (sr_X8_0_0 hs h_o) ?_
      refine k_ld hK 1 dX8_put_16 rfl rfl rfl rfl ?_
      refine k_ld hK 2 dX8_put_17 rfl rfl rfl rfl ?_
      obtain ⟨n3, i4, j5, hF⟩ := hF
      refine k_iast hK dX8_put_18 (sk_X8_1 hs h_o) (sl_X8_1 h_o) (by decide) i4 j5 ?_
      refine k_ld hK 0 dX8_put_19 rfl rfl rfl rfl ?_
      refine k_gR hK dX8_put_20 lf_X8_15 rfl (sk_X8_0 hs h_o) (sr_X8_0_1 hs h_o) ?_
      refine k_ld hK 1 dX8_put_23 rfl rfl rfl rfl ?_
      refine k_ld hK 3 dX8_put_24 rfl rfl rfl rfl ?_
      refine k_iast hK dX8_put_25 (sk_X8_2 hs h_o) (sl_X8_2 h_o) (by decide) i4 j5 ?_
      exact k_vret hK dX8_put_26 rfl (done_0 rfl rfl) (qC_i hF)
theorem e_X8_put {d : Nat} {Q : Unit → HI → Prop} {I : HI} {J : HJ} {R : HR} {o : Nat} {x1 : Int32} {x2 : Int32} {x3 : Int32} (hs : Stat R) (h_o : isX8 o) (hF : ((x1 < 0 → Q () I) ∧ (¬ x1 < 0 → (((I o 2) ≤ x1 → Q () I) ∧ (¬ (I o 2) ≤ x1 → (∃ n3 : Nat, x1 = nI n3 ∧ n3 < 48 ∧ Q () (up (up I (o + 1) n3 x2) (o + 2) n3 x3))))))) : Wc fv (d + 1) M_X8_put [.ref o, .int x1, .int x2, .int x3] I J R Q := ⟨Nat.le_of_ble_eq_true rfl, fun K hK => g_X8_put_0 hK hs h_o hF⟩
set_option maxHeartbeats 4000000 in
theorem g_X8_add_0 {d : Nat} {K : KT} {Q : Unit → HI → Prop} {I : HI} {J : HJ} {R : HR} {o : Nat} {x1 : Int32} {x2 : Int32} (hK : am_R M_X8_add (am_W d) none R (qC fv J R Q) K) (hs : Stat R) (h_o : isX8 o) (hF : (((I o 2) < 0 → Q () I) ∧ (¬ (I o 2) < 0 → ((48 ≤ (I o 2) → Q () I) ∧ (¬ 48 ≤ (I o 2) → (∃ n3 : Nat, (I o 2) = nI n3 ∧ n3 < 48 ∧ Q () (up (up (up I (o + 1) n3 x1) (o + 2) n3 x2) o 2 ((I o 2) + 1)))))))) : K 0 [(0, .ref o), (1, .int x1), (2, .int x2)] [] I J R := by
  refine k_ld hK 0 dX8_add_0 rfl rfl rfl rfl ?_
  refine k_gI hK dX8_add_1 lf_X8_27 rfl (sk_X8_0 hs h_o) rfl ?_
  refine k_lt hK dX8_add_4 (tgt := 46) rfl (fun h1 => ?_) (fun h1 => ?_)
  · have hF := hF.1 h1
    exact k_vret hK dX8_add_46 rfl (done_0 rfl rfl) (qC_i hF)
  · have hF := hF.2 h1
    refine k_ld hK 0 dX8_add_7 rfl rfl rfl rfl ?_
    refine k_gI hK dX8_add_8 lf_X8_27 rfl (sk_X8_0 hs h_o) rfl ?_
    refine k_bi hK dX8_add_11 cb_48 ?_
    refine k_cge hK dX8_add_13 (tgt := 46) rfl (fun h2 => ?_) (fun h2 => ?_)
    · have hF := hF.1 h2
      exact k_vret hK dX8_add_46 rfl (done_0 rfl rfl) (qC_i hF)
    · have hF := hF.2 h2
      refine k_ld hK 0 dX8_add_16 rfl rfl rfl rfl ?_
      refine k_gR hK dX8_add_17 lf_X8_11 rfl (sk_X8_0 hs h_o) (sr_X8_0_0 hs h_o) ?_
      refine k_ld hK 0 dX8_add_20 rfl rfl rfl rfl ?_
      refine k_gI hK dX8_add_21 lf_X8_27 rfl (sk_X8_0 hs h_o) rfl ?_
      refine k_ld hK 1 dX8_add_24 rfl rfl rfl rfl ?_
      obtain ⟨n3, i4, j5, hF⟩ := hF
      refine k_iast hK dX8_add_25 (sk_X8_1 hs h_o) (sl_X8_1 h_o) (by decide) i4 j5 ?_
      refine k_ld hK 0 dX8_add_26 rfl rfl rfl rfl ?_
      refine k_gR hK dX8_add_27 lf_X8_15 rfl (sk_X8_0 hs h_o) (sr_X8_0_1 hs h_o) ?_
      refine k_ld hK 0 dX8_add_30 rfl rfl rfl rfl ?_
      refine k_gI hK dX8_add_31 lf_X8_27 rfl (sk_X8_0 hs h_o) ((up_na (by omega)).trans rfl) ?_
      refine k_ld hK 2 dX8_add_34 rfl rfl rfl rfl ?_
      refine k_iast hK dX8_add_35 (sk_X8_2 hs h_o) (sl_X8_2 h_o) (by decide) i4 j5 ?_
      refine k_ld hK 0 dX8_add_36 rfl rfl rfl rfl ?_
      refine k_op hK dX8_add_37 rfl rfl ?_
      refine k_gI hK dX8_add_38 lf_X8_27 rfl (sk_X8_0 hs h_o) ((up_na (by omega)).trans ((up_na (by omega)).trans rfl)) ?_
      refine k_ic hK dX8_add_41 ci_1 ?_
      refine k_op hK dX8_add_42 rfl rfl ?_
      refine k_pI hK dX8_add_43 lf_X8_27 rfl rfl rfl (sk_X8_0 hs h_o) ?_
      exact k_vret hK dX8_add_46 rfl (done_0 rfl rfl) (qC_i hF)
theorem e_X8_add {d : Nat} {Q : Unit → HI → Prop} {I : HI} {J : HJ} {R : HR} {o : Nat} {x1 : Int32} {x2 : Int32} (hs : Stat R) (h_o : isX8 o) (hF : (((I o 2) < 0 → Q () I) ∧ (¬ (I o 2) < 0 → ((48 ≤ (I o 2) → Q () I) ∧ (¬ 48 ≤ (I o 2) → (∃ n3 : Nat, (I o 2) = nI n3 ∧ n3 < 48 ∧ Q () (up (up (up I (o + 1) n3 x1) (o + 2) n3 x2) o 2 ((I o 2) + 1)))))))) : Wc fv (d + 1) M_X8_add [.ref o, .int x1, .int x2] I J R Q := ⟨Nat.le_of_ble_eq_true rfl, fun K hK => g_X8_add_0 hK hs h_o hF⟩
set_option maxHeartbeats 4000000 in
theorem g_X8_drop_0 {d : Nat} {K : KT} {Q : Unit → HI → Prop} {I : HI} {J : HJ} {R : HR} {o : Nat} {x1 : Int32} (hK : am_R M_X8_drop (am_W d) none R (qC fv J R Q) K) (hs : Stat R) (h_o : isX8 o) (hF : Q () (up I o 2 (if 0 < ((I o 2) - x1) then ((I o 2) - x1) else 0))) : K 0 [(0, .ref o), (1, .int x1)] [] I J R := by
  refine k_ld hK 0 dX8_drop_0 rfl rfl rfl rfl ?_
  refine k_ic hK dX8_drop_1 ci_0 ?_
  refine k_ld hK 0 dX8_drop_2 rfl rfl rfl rfl ?_
  refine k_gI hK dX8_drop_3 lf_X8_27 rfl (sk_X8_0 hs h_o) rfl ?_
  refine k_ld hK 1 dX8_drop_6 rfl rfl rfl rfl ?_
  refine k_op hK dX8_drop_7 rfl rfl ?_
  refine k_max hK dX8_drop_8 lx_X8_24 lmath_max_1 lmath_0 lmath_max_2 (Nat.le_of_ble_eq_true rfl) (Nat.le_add_right _ _) (Nat.le_add_right _ _) ?_
  refine k_pI hK dX8_drop_11 lf_X8_27 rfl rfl rfl (sk_X8_0 hs h_o) ?_
  exact k_vret hK dX8_drop_14 rfl (done_0 rfl rfl) (qC_i hF)
theorem e_X8_drop {d : Nat} {Q : Unit → HI → Prop} {I : HI} {J : HJ} {R : HR} {o : Nat} {x1 : Int32} (hs : Stat R) (h_o : isX8 o) (hF : Q () (up I o 2 (if 0 < ((I o 2) - x1) then ((I o 2) - x1) else 0))) : Wc fv (d + 1) M_X8_drop [.ref o, .int x1] I J R Q := ⟨Nat.le_of_ble_eq_true rfl, fun K hK => g_X8_drop_0 hK hs h_o hF⟩
set_option maxHeartbeats 4000000 in
theorem g_X9_enter_0 {d : Nat} {K : KT} {Q : Unit → HI → Prop} {I : HI} {J : HJ} {R : HR} {o : Nat} {p3 : Nat} {x1 : Int32} {x2 : Int32} (hK : am_R M_X9_enter (am_W d) none R (qC fv J R Q) K) (hs : Stat R) (h_o : isX9 o) (h_p3 : isX8 p3) (hF : (((I o 0) < 0 → Q () I) ∧ (¬ (I o 0) < 0 → (((I o 0) < 400 → (∃ n3 : Nat, (I o 0) = nI n3 ∧ n3 < 400 ∧ Wp fi d M_X8_valueAt [.ref p3, .int (((up (up I (o + 1) n3 x1) (o + 2) n3 x2) p3 2) - 2)] (up (up I (o + 1) n3 x1) (o + 2) n3 x2) J R (fun r6 => Wp fi d M_X8_sourceAt [.ref p3, .int (((up (up (up I (o + 1) n3 x1) (o + 2) n3 x2) (o + 4) n3 r6) p3 2) - 2)] (up (up (up I (o + 1) n3 x1) (o + 2) n3 x2) (o + 4) n3 r6) J R (fun r7 => Wp fi d M_X8_valueAt [.ref p3, .int (((up (up (up (up I (o + 1) n3 x1) (o + 2) n3 x2) (o + 4) n3 r6) (o + 6) n3 r7) p3 2) - 1)] (up (up (up (up I (o + 1) n3 x1) (o + 2) n3 x2) (o + 4) n3 r6) (o + 6) n3 r7) J R (fun r8 => Wp fi d M_X8_sourceAt [.ref p3, .int (((up (up (up (up (up I (o + 1) n3 x1) (o + 2) n3 x2) (o + 4) n3 r6) (o + 6) n3 r7) (o + 5) n3 r8) p3 2) - 1)] (up (up (up (up (up I (o + 1) n3 x1) (o + 2) n3 x2) (o + 4) n3 r6) (o + 6) n3 r7) (o + 5) n3 r8) J R (fun r9 => ((¬ x1 = 6 → K 134 [(0, .ref o), (1, .int x1), (3, .ref p3), (4, .int (I o 0))] [.int 0, .int (I o 0), .ref (o + 8)] (up (up (up (up (up (up I (o + 1) n3 x1) (o + 2) n3 x2) (o + 4) n3 r6) (o + 6) n3 r7) (o + 5) n3 r8) (o + 7) n3 r9) J R) ∧ (x1 = 6 → Wp fi d M_X3_inverse [.int r8] (up (up (up (up (up (up I (o + 1) n3 x1) (o + 2) n3 x2) (o + 4) n3 r6) (o + 6) n3 r7) (o + 5) n3 r8) (o + 7) n3 r9) J R (fun r11 => K 134 [(0, .ref o), (1, .int x1), (3, .ref p3), (4, .int (I o 0))] [.int r11, .int (I o 0), .ref (o + 8)] (up (up (up (up (up (up I (o + 1) n3 x1) (o + 2) n3 x2) (o + 4) n3 r6) (o + 6) n3 r7) (o + 5) n3 r8) (o + 7) n3 r9) J R))))))))) ∧ (¬ (I o 0) < 400 → Q () I))))) : K 0 [(0, .ref o), (1, .int x1), (2, .int x2), (3, .ref p3)] [] I J R := by
  refine k_ld hK 0 dX9_enter_0 rfl rfl rfl rfl ?_
  refine k_gI hK dX9_enter_1 lf_X9_43 rfl (sk_X9_0 hs h_o) rfl ?_
  refine k_lt hK dX9_enter_4 (tgt := 17) rfl (fun h1 => ?_) (fun h1 => ?_)
  · have hF := hF.1 h1
    exact k_vret hK dX9_enter_17 rfl (done_0 rfl rfl) (qC_i hF)
  · have hF := hF.2 h1
    refine k_ld hK 0 dX9_enter_7 rfl rfl rfl rfl ?_
    refine k_gI hK dX9_enter_8 lf_X9_43 rfl (sk_X9_0 hs h_o) rfl ?_
    refine k_si hK dX9_enter_11 cs_400 ?_
    refine k_clt hK dX9_enter_14 (tgt := 18) rfl (fun h2 => ?_) (fun h2 => ?_)
    · have hF := hF.1 h2
      refine k_ld hK 0 dX9_enter_18 rfl rfl rfl rfl ?_
      refine k_gI hK dX9_enter_19 lf_X9_43 rfl (sk_X9_0 hs h_o) rfl ?_
      refine k_st hK dX9_enter_22 rfl rfl rfl (Nat.le_of_ble_eq_true rfl) rfl ?_
      refine k_ld hK 1 dX9_enter_24 rfl rfl rfl rfl ?_
      refine k_gR hK dX9_enter_25 lf_X9_9 rfl (sk_X9_0 hs h_o) (sr_X9_0_1 hs h_o) ?_
      refine k_ld hK 0 dX9_enter_28 rfl rfl rfl rfl ?_
      refine k_ld hK 2 dX9_enter_30 rfl rfl rfl rfl ?_
      obtain ⟨n3, i4, j5, hF⟩ := hF
      refine k_iast hK dX9_enter_31 (sk_X9_1 hs h_o) (sl_X9_1 h_o) (by decide) i4 j5 ?_
      refine k_ld hK 1 dX9_enter_32 rfl rfl rfl rfl ?_
      refine k_gR hK dX9_enter_33 lf_X9_15 rfl (sk_X9_0 hs h_o) (sr_X9_0_2 hs h_o) ?_
      refine k_ld hK 0 dX9_enter_36 rfl rfl rfl rfl ?_
      refine k_ld hK 3 dX9_enter_38 rfl rfl rfl rfl ?_
      refine k_iast hK dX9_enter_39 (sk_X9_2 hs h_o) (sl_X9_2 h_o) (by decide) i4 j5 ?_
      refine k_ld hK 1 dX9_enter_40 rfl rfl rfl rfl ?_
      refine k_gR hK dX9_enter_41 lf_X9_21 rfl (sk_X9_0 hs h_o) (sr_X9_0_4 hs h_o) ?_
      refine k_ld hK 0 dX9_enter_44 rfl rfl rfl rfl ?_
      refine k_ld hK 4 dX9_enter_46 rfl rfl rfl rfl ?_
      refine k_ld hK 4 dX9_enter_47 rfl rfl rfl rfl ?_
      refine k_gI hK dX9_enter_48 lf_X9_47 rfl (sk_X8_0 hs h_p3) rfl ?_
      refine k_ic hK dX9_enter_51 ci_2 ?_
      refine k_op hK dX9_enter_52 rfl rfl ?_
      refine k_cVp hK dX9_enter_53 (Or.inl lm_X9_52) (As := [.int (((up (up I (o + 1) n3 x1) (o + 2) n3 x2) p3 2) - 2)]) (S := [.int (I o 0), .ref (o + 4)]) rfl (sk_X8_0 hs h_p3) (Nat.le_of_ble_eq_true rfl) (fit_0 rfl rfl) rfl hF (fun r6 hF => ?_)
      show K _ _ [.int r6, .int (I o 0), .ref (o + 4)] _ _ _
      refine k_iast hK dX9_enter_56 (sk_X9_4 hs h_o) (sl_X9_4 h_o) (by decide) i4 j5 ?_
      refine k_ld hK 1 dX9_enter_57 rfl rfl rfl rfl ?_
      refine k_gR hK dX9_enter_58 lf_X9_27 rfl (sk_X9_0 hs h_o) (sr_X9_0_6 hs h_o) ?_
      refine k_ld hK 0 dX9_enter_61 rfl rfl rfl rfl ?_
      refine k_ld hK 4 dX9_enter_63 rfl rfl rfl rfl ?_
      refine k_ld hK 4 dX9_enter_64 rfl rfl rfl rfl ?_
      refine k_gI hK dX9_enter_65 lf_X9_47 rfl (sk_X8_0 hs h_p3) rfl ?_
      refine k_ic hK dX9_enter_68 ci_2 ?_
      refine k_op hK dX9_enter_69 rfl rfl ?_
      refine k_cVp hK dX9_enter_70 (Or.inl lm_X9_56) (As := [.int (((up (up (up I (o + 1) n3 x1) (o + 2) n3 x2) (o + 4) n3 r6) p3 2) - 2)]) (S := [.int (I o 0), .ref (o + 6)]) rfl (sk_X8_0 hs h_p3) (Nat.le_of_ble_eq_true rfl) (fit_0 rfl rfl) rfl hF (fun r7 hF => ?_)
      show K _ _ [.int r7, .int (I o 0), .ref (o + 6)] _ _ _
      refine k_iast hK dX9_enter_73 (sk_X9_6 hs h_o) (sl_X9_6 h_o) (by decide) i4 j5 ?_
      refine k_ld hK 1 dX9_enter_74 rfl rfl rfl rfl ?_
      refine k_gR hK dX9_enter_75 lf_X9_24 rfl (sk_X9_0 hs h_o) (sr_X9_0_5 hs h_o) ?_
      refine k_ld hK 0 dX9_enter_78 rfl rfl rfl rfl ?_
      refine k_ld hK 4 dX9_enter_80 rfl rfl rfl rfl ?_
      refine k_ld hK 4 dX9_enter_81 rfl rfl rfl rfl ?_
      refine k_gI hK dX9_enter_82 lf_X9_47 rfl (sk_X8_0 hs h_p3) rfl ?_
      refine k_ic hK dX9_enter_85 ci_1 ?_
      refine k_op hK dX9_enter_86 rfl rfl ?_
      refine k_cVp hK dX9_enter_87 (Or.inl lm_X9_52) (As := [.int (((up (up (up (up I (o + 1) n3 x1) (o + 2) n3 x2) (o + 4) n3 r6) (o + 6) n3 r7) p3 2) - 1)]) (S := [.int (I o 0), .ref (o + 5)]) rfl (sk_X8_0 hs h_p3) (Nat.le_of_ble_eq_true rfl) (fit_0 rfl rfl) rfl hF (fun r8 hF => ?_)
      show K _ _ [.int r8, .int (I o 0), .ref (o + 5)] _ _ _
      refine k_iast hK dX9_enter_90 (sk_X9_5 hs h_o) (sl_X9_5 h_o) (by decide) i4 j5 ?_
      refine k_ld hK 1 dX9_enter_91 rfl rfl rfl rfl ?_
      refine k_gR hK dX9_enter_92 lf_X9_30 rfl (sk_X9_0 hs h_o) (sr_X9_0_7 hs h_o) ?_
      refine k_ld hK 0 dX9_enter_95 rfl rfl rfl rfl ?_
      refine k_ld hK 4 dX9_enter_97 rfl rfl rfl rfl ?_
      refine k_ld hK 4 dX9_enter_98 rfl rfl rfl rfl ?_
      refine k_gI hK dX9_enter_99 lf_X9_47 rfl (sk_X8_0 hs h_p3) rfl ?_
      refine k_ic hK dX9_enter_102 ci_1 ?_
      refine k_op hK dX9_enter_103 rfl rfl ?_
      refine k_cVp hK dX9_enter_104 (Or.inl lm_X9_56) (As := [.int (((up (up (up (up (up I (o + 1) n3 x1) (o + 2) n3 x2) (o + 4) n3 r6) (o + 6) n3 r7) (o + 5) n3 r8) p3 2) - 1)]) (S := [.int (I o 0), .ref (o + 7)]) rfl (sk_X8_0 hs h_p3) (Nat.le_of_ble_eq_true rfl) (fit_0 rfl rfl) rfl hF (fun r9 hF => ?_)
      show K _ _ [.int r9, .int (I o 0), .ref (o + 7)] _ _ _
      refine k_iast hK dX9_enter_107 (sk_X9_7 hs h_o) (sl_X9_7 h_o) (by decide) i4 j5 ?_
      refine k_ld hK 1 dX9_enter_108 rfl rfl rfl rfl ?_
      refine k_gR hK dX9_enter_109 lf_X9_33 rfl (sk_X9_0 hs h_o) (sr_X9_0_8 hs h_o) ?_
      refine k_ld hK 0 dX9_enter_112 rfl rfl rfl rfl ?_
      refine k_ld hK 2 dX9_enter_114 rfl rfl rfl rfl ?_
      refine k_bi hK dX9_enter_115 cb_6 ?_
      refine k_cne hK dX9_enter_117 (tgt := 133) rfl (fun h10 => ?_) (fun h10 => ?_)
      · have hF := hF.1 h10
        refine k_ic hK dX9_enter_133 ci_0 ?_
        exact k_sub hK [1, 2, 4, 0] rfl hF
      · have hF := hF.2 h10
        refine k_ld hK 1 dX9_enter_120 rfl rfl rfl rfl ?_
        refine k_gR hK dX9_enter_121 lf_X9_24 rfl (sk_X9_0 hs h_o) (sr_X9_0_5 hs h_o) ?_
        refine k_ld hK 0 dX9_enter_124 rfl rfl rfl rfl ?_
        refine k_iald hK dX9_enter_126 (sk_X9_5 hs h_o) (sl_X9_5 h_o) (by decide) i4 j5 ((up_na (by omega)).trans up_s) ?_
        refine k_cSp hK dX9_enter_127 lm_X9_59 (As := [.int r8]) (S := [.int (I o 0), .ref (o + 8)]) rfl (Nat.le_of_ble_eq_true rfl) (fit_0 rfl rfl) rfl hF (fun r11 hF => ?_)
        show K _ _ [.int r11, .int (I o 0), .ref (o + 8)] _ _ _
        refine k_goto hK dX9_enter_130 (tgt := 134) rfl ?_
        exact k_sub hK [1, 2, 4, 0] rfl hF
    · have hF := hF.2 h2
      exact k_vret hK dX9_enter_17 rfl (done_0 rfl rfl) (qC_i hF)
set_option maxHeartbeats 4000000 in
theorem g_X9_enter_134 {d : Nat} {K : KT} {Q : Unit → HI → Prop} {I : HI} {J : HJ} {R : HR} {o : Nat} {p3 : Nat} {x1 : Int32} {x4 : Int32} {u0 : Int32} {u1 : Int32} (hK : am_R M_X9_enter (am_W d) none R (qC fv J R Q) K) (hs : Stat R) (h_o : isX9 o) (h_p3 : isX8 p3) (hF : (∃ n1 : Nat, u1 = nI n1 ∧ n1 < 400 ∧ (∃ n4 : Nat, x4 = nI n4 ∧ n4 < 400 ∧ Wp fi d M_X9_result [.int x1, .int (I (o + 4) n4), .int (I (o + 5) n4), .int ((up I (o + 8) n1 u0) (o + 8) n4)] (up I (o + 8) n1 u0) J R (fun r7 => Wp fi d M_X9_bitsOf [.ref o, .int (I (o + 6) n4)] (up (up I (o + 8) n1 u0) (o + 3) n4 r7) J R (fun r8 => Wp fi d M_X9_bitsOf [.ref o, .int (I (o + 7) n4)] (up (up I (o + 8) n1 u0) (o + 3) n4 r7) J R (fun r9 => Wc fv d M_X8_drop [.ref p3, .int 2] (up (up (up (up I (o + 8) n1 u0) (o + 3) n4 r7) (o + 9) n4 (r8 ||| r9)) o 0 ((I o 0) + 1)) J R (fun u10 I11 => Wc fv d M_X8_add [.ref p3, .int (I11 (o + 3) n4), .int x4] I11 J R (fun u12 I13 => Q () I13)))))))) : K 134 [(0, .ref o), (1, .int x1), (3, .ref p3), (4, .int x4)] [.int u0, .int u1, .ref (o + 8)] I J R := by
  obtain ⟨n1, i2, j3, hF⟩ := hF
  refine k_iast hK dX9_enter_134 (sk_X9_8 hs h_o) (sl_X9_8 h_o) (by decide) i2 j3 ?_
  refine k_ld hK 0 dX9_enter_135 rfl rfl rfl rfl ?_
  refine k_gR hK dX9_enter_136 lf_X9_18 rfl (sk_X9_0 hs h_o) (sr_X9_0_3 hs h_o) ?_
  refine k_ld hK 3 dX9_enter_139 rfl rfl rfl rfl ?_
  refine k_ld hK 1 dX9_enter_141 rfl rfl rfl rfl ?_
  refine k_ld hK 0 dX9_enter_142 rfl rfl rfl rfl ?_
  refine k_gR hK dX9_enter_143 lf_X9_21 rfl (sk_X9_0 hs h_o) (sr_X9_0_4 hs h_o) ?_
  refine k_ld hK 3 dX9_enter_146 rfl rfl rfl rfl ?_
  obtain ⟨n4, i5, j6, hF⟩ := hF
  refine k_iald hK dX9_enter_148 (sk_X9_4 hs h_o) (sl_X9_4 h_o) (by decide) i5 j6 ((up_na (by omega)).trans rfl) ?_
  refine k_ld hK 0 dX9_enter_149 rfl rfl rfl rfl ?_
  refine k_gR hK dX9_enter_150 lf_X9_24 rfl (sk_X9_0 hs h_o) (sr_X9_0_5 hs h_o) ?_
  refine k_ld hK 3 dX9_enter_153 rfl rfl rfl rfl ?_
  refine k_iald hK dX9_enter_155 (sk_X9_5 hs h_o) (sl_X9_5 h_o) (by decide) i5 j6 ((up_na (by omega)).trans rfl) ?_
  refine k_ld hK 0 dX9_enter_156 rfl rfl rfl rfl ?_
  refine k_gR hK dX9_enter_157 lf_X9_33 rfl (sk_X9_0 hs h_o) (sr_X9_0_8 hs h_o) ?_
  refine k_ld hK 3 dX9_enter_160 rfl rfl rfl rfl ?_
  refine k_iald hK dX9_enter_162 (sk_X9_8 hs h_o) (sl_X9_8 h_o) (by decide) i5 j6 rfl ?_
  refine k_cSp hK dX9_enter_163 lm_X9_63 (As := [.int x1, .int (I (o + 4) n4), .int (I (o + 5) n4), .int ((up I (o + 8) n1 u0) (o + 8) n4)]) (S := [.int x4, .ref (o + 3)]) rfl (Nat.le_of_ble_eq_true rfl) (fit_0 rfl rfl) rfl hF (fun r7 hF => ?_)
  show K _ _ [.int r7, .int x4, .ref (o + 3)] _ _ _
  refine k_iast hK dX9_enter_166 (sk_X9_3 hs h_o) (sl_X9_3 h_o) (by decide) i5 j6 ?_
  refine k_ld hK 0 dX9_enter_167 rfl rfl rfl rfl ?_
  refine k_gR hK dX9_enter_168 lf_X9_36 rfl (sk_X9_0 hs h_o) (sr_X9_0_9 hs h_o) ?_
  refine k_ld hK 3 dX9_enter_171 rfl rfl rfl rfl ?_
  refine k_ld hK 0 dX9_enter_173 rfl rfl rfl rfl ?_
  refine k_ld hK 0 dX9_enter_174 rfl rfl rfl rfl ?_
  refine k_gR hK dX9_enter_175 lf_X9_27 rfl (sk_X9_0 hs h_o) (sr_X9_0_6 hs h_o) ?_
  refine k_ld hK 3 dX9_enter_178 rfl rfl rfl rfl ?_
  refine k_iald hK dX9_enter_180 (sk_X9_6 hs h_o) (sl_X9_6 h_o) (by decide) i5 j6 ((up_na (by omega)).trans ((up_na (by omega)).trans rfl)) ?_
  refine k_cVp hK dX9_enter_181 (Or.inl lm_X9_67) (As := [.int (I (o + 6) n4)]) (S := [.int x4, .ref (o + 9)]) rfl (sk_X9_0 hs h_o) (Nat.le_of_ble_eq_true rfl) (fit_0 rfl rfl) rfl hF (fun r8 hF => ?_)
  show K _ _ [.int r8, .int x4, .ref (o + 9)] _ _ _
  refine k_ld hK 0 dX9_enter_184 rfl rfl rfl rfl ?_
  refine k_ld hK 0 dX9_enter_185 rfl rfl rfl rfl ?_
  refine k_gR hK dX9_enter_186 lf_X9_30 rfl (sk_X9_0 hs h_o) (sr_X9_0_7 hs h_o) ?_
  refine k_ld hK 3 dX9_enter_189 rfl rfl rfl rfl ?_
  refine k_iald hK dX9_enter_191 (sk_X9_7 hs h_o) (sl_X9_7 h_o) (by decide) i5 j6 ((up_na (by omega)).trans ((up_na (by omega)).trans rfl)) ?_
  refine k_cVp hK dX9_enter_192 (Or.inl lm_X9_67) (As := [.int (I (o + 7) n4)]) (S := [.int r8, .int x4, .ref (o + 9)]) rfl (sk_X9_0 hs h_o) (Nat.le_of_ble_eq_true rfl) (fit_0 rfl rfl) rfl hF (fun r9 hF => ?_)
  show K _ _ [.int r9, .int r8, .int x4, .ref (o + 9)] _ _ _
  refine k_op hK dX9_enter_195 rfl rfl ?_
  refine k_iast hK dX9_enter_196 (sk_X9_9 hs h_o) (sl_X9_9 h_o) (by decide) i5 j6 ?_
  refine k_ld hK 0 dX9_enter_197 rfl rfl rfl rfl ?_
  refine k_op hK dX9_enter_198 rfl rfl ?_
  refine k_gI hK dX9_enter_199 lf_X9_43 rfl (sk_X9_0 hs h_o) ((up_na (by omega)).trans ((up_na (by omega)).trans ((up_na (by omega)).trans rfl))) ?_
  refine k_ic hK dX9_enter_202 ci_1 ?_
  refine k_op hK dX9_enter_203 rfl rfl ?_
  refine k_pI hK dX9_enter_204 lf_X9_43 rfl rfl rfl (sk_X9_0 hs h_o) ?_
  refine k_ld hK 2 dX9_enter_207 rfl rfl rfl rfl ?_
  refine k_ic hK dX9_enter_208 ci_2 ?_
  refine k_cVc hK dX9_enter_209 (Or.inl lm_X9_70) (As := [.int 2]) (S := []) rfl (sk_X8_0 hs h_p3) (Nat.le_of_ble_eq_true rfl) (fit_0 rfl rfl) rfl hF (fun u10 I11 hF => ?_)
  show K _ _ [] _ _ _
  refine k_ld hK 2 dX9_enter_212 rfl rfl rfl rfl ?_
  refine k_ld hK 0 dX9_enter_213 rfl rfl rfl rfl ?_
  refine k_gR hK dX9_enter_214 lf_X9_18 rfl (sk_X9_0 hs h_o) (sr_X9_0_3 hs h_o) ?_
  refine k_ld hK 3 dX9_enter_217 rfl rfl rfl rfl ?_
  refine k_iald hK dX9_enter_219 (sk_X9_3 hs h_o) (sl_X9_3 h_o) (by decide) i5 j6 rfl ?_
  refine k_ld hK 3 dX9_enter_220 rfl rfl rfl rfl ?_
  refine k_cVc hK dX9_enter_222 (Or.inl lm_X9_74) (As := [.int (I11 (o + 3) n4), .int x4]) (S := []) rfl (sk_X8_0 hs h_p3) (Nat.le_of_ble_eq_true rfl) (fit_0 rfl rfl) rfl hF (fun u12 I13 hF => ?_)
  show K _ _ [] _ _ _
  exact k_vret hK dX9_enter_225 rfl (done_0 rfl rfl) (qC_i hF)
set_option maxHeartbeats 4000000 in
theorem g_X9_result_0 {d : Nat} {K : KT} {Q : Int32 → Prop} {I : HI} {J : HJ} {R : HR} {x0 : Int32} {x1 : Int32} {x2 : Int32} {x3 : Int32} (hK : am_R M_X9_result (am_W d) none R (qP fi I J R Q) K) (hs : Stat R)  (hF : ((x0 = 3 → Wp fi d M_X3_plus [.int x1, .int x2] I J R (fun r2 => Q r2)) ∧ (¬ x0 = 3 → ((x0 = 4 → Wp fi d M_X3_minus [.int x1, .int x2] I J R (fun r4 => Q r4)) ∧ (¬ x0 = 4 → ((x0 = 5 → Wp fi d M_X3_times [.int x1, .int x2] I J R (fun r6 => Q r6)) ∧ (¬ x0 = 5 → Wp fi d M_X3_times [.int x1, .int x3] I J R (fun r7 => Q r7)))))))) : K 0 [(0, .int x0), (1, .int x1), (2, .int x2), (3, .int x3)] [] I J R := by
  refine k_ld hK 0 dX9_result_0 rfl rfl rfl rfl ?_
  refine k_tab hK dX9_result_1 (cs := [(3, 28), (4, 34), (5, 40)]) (td := 46) (by decide) (by decide) ?_
  refine swc (fun h1 => ?_) (fun h1 => ?_)
  · have hF := hF.1 h1
    refine k_ld hK 1 dX9_result_28 rfl rfl rfl rfl ?_
    refine k_ld hK 2 dX9_result_29 rfl rfl rfl rfl ?_
    refine k_cSp hK dX9_result_30 lm_X9_78 (As := [.int x1, .int x2]) (S := []) rfl (Nat.le_of_ble_eq_true rfl) (fit_0 rfl rfl) rfl hF (fun r2 hF => ?_)
    show K _ _ [.int r2] _ _ _
    exact k_iret hK dX9_result_33 rfl rfl (done_0 rfl rfl) (qP_i hF)
  have hF := hF.2 h1
  refine swc (fun h3 => ?_) (fun h3 => ?_)
  · have hF := hF.1 h3
    refine k_ld hK 1 dX9_result_34 rfl rfl rfl rfl ?_
    refine k_ld hK 2 dX9_result_35 rfl rfl rfl rfl ?_
    refine k_cSp hK dX9_result_36 lm_X9_82 (As := [.int x1, .int x2]) (S := []) rfl (Nat.le_of_ble_eq_true rfl) (fit_0 rfl rfl) rfl hF (fun r4 hF => ?_)
    show K _ _ [.int r4] _ _ _
    exact k_iret hK dX9_result_39 rfl rfl (done_0 rfl rfl) (qP_i hF)
  have hF := hF.2 h3
  refine swc (fun h5 => ?_) (fun h5 => ?_)
  · have hF := hF.1 h5
    refine k_ld hK 1 dX9_result_40 rfl rfl rfl rfl ?_
    refine k_ld hK 2 dX9_result_41 rfl rfl rfl rfl ?_
    refine k_cSp hK dX9_result_42 lm_X9_85 (As := [.int x1, .int x2]) (S := []) rfl (Nat.le_of_ble_eq_true rfl) (fit_0 rfl rfl) rfl hF (fun r6 hF => ?_)
    show K _ _ [.int r6] _ _ _
    exact k_iret hK dX9_result_45 rfl rfl (done_0 rfl rfl) (qP_i hF)
  have hF := hF.2 h5
  refine swn ?_
  refine k_ld hK 1 dX9_result_46 rfl rfl rfl rfl ?_
  refine k_ld hK 3 dX9_result_47 rfl rfl rfl rfl ?_
  refine k_cSp hK dX9_result_48 lm_X9_85 (As := [.int x1, .int x3]) (S := []) rfl (Nat.le_of_ble_eq_true rfl) (fit_0 rfl rfl) rfl hF (fun r7 hF => ?_)
  show K _ _ [.int r7] _ _ _
  exact k_iret hK dX9_result_51 rfl rfl (done_0 rfl rfl) (qP_i hF)
theorem e_X9_result {d : Nat} {Q : Int32 → Prop} {I : HI} {J : HJ} {R : HR} {x0 : Int32} {x1 : Int32} {x2 : Int32} {x3 : Int32} (hs : Stat R)  (hF : ((x0 = 3 → Wp fi d M_X3_plus [.int x1, .int x2] I J R (fun r2 => Q r2)) ∧ (¬ x0 = 3 → ((x0 = 4 → Wp fi d M_X3_minus [.int x1, .int x2] I J R (fun r4 => Q r4)) ∧ (¬ x0 = 4 → ((x0 = 5 → Wp fi d M_X3_times [.int x1, .int x2] I J R (fun r6 => Q r6)) ∧ (¬ x0 = 5 → Wp fi d M_X3_times [.int x1, .int x3] I J R (fun r7 => Q r7)))))))) : Wp fi (d + 1) M_X9_result [.int x0, .int x1, .int x2, .int x3] I J R Q := ⟨Nat.le_of_ble_eq_true rfl, fun K hK => g_X9_result_0 hK hs hF⟩
set_option maxHeartbeats 4000000 in
theorem g_X9_bitsOf_0 {d : Nat} {K : KT} {Q : Int32 → Prop} {I : HI} {J : HJ} {R : HR} {o : Nat} {x1 : Int32} (hK : am_R M_X9_bitsOf (am_W d) none R (qP fi I J R Q) K) (hs : Stat R) (h_o : isX9 o) (hF : ((x1 < 1000 → ((x1 < 0 → Q 0) ∧ (¬ x1 < 0 → (((I o 0) ≤ x1 → Q 0) ∧ (¬ (I o 0) ≤ x1 → (∃ n4 : Nat, x1 = nI n4 ∧ n4 < 400 ∧ Q (I (o + 9) n4))))))) ∧ (¬ x1 < 1000 → Q (1 <<< (((x1 - 1000) : Int32) &&& 31) : Int32)))) : K 0 [(0, .ref o), (1, .int x1)] [] I J R := by
  refine k_ld hK 1 dX9_bitsOf_0 rfl rfl rfl rfl ?_
  refine k_si hK dX9_bitsOf_1 cs_1000 ?_
  refine k_clt hK dX9_bitsOf_4 (tgt := 15) rfl (fun h1 => ?_) (fun h1 => ?_)
  · have hF := hF.1 h1
    refine k_ld hK 1 dX9_bitsOf_15 rfl rfl rfl rfl ?_
    refine k_lt hK dX9_bitsOf_16 (tgt := 36) rfl (fun h2 => ?_) (fun h2 => ?_)
    · have hF := hF.1 h2
      refine k_ic hK dX9_bitsOf_36 ci_0 ?_
      exact k_iret hK dX9_bitsOf_37 rfl rfl (done_0 rfl rfl) (qP_i hF)
    · have hF := hF.2 h2
      refine k_ld hK 1 dX9_bitsOf_19 rfl rfl rfl rfl ?_
      refine k_ld hK 0 dX9_bitsOf_20 rfl rfl rfl rfl ?_
      refine k_gI hK dX9_bitsOf_21 lf_X9_43 rfl (sk_X9_0 hs h_o) rfl ?_
      refine k_cge hK dX9_bitsOf_24 (tgt := 36) rfl (fun h3 => ?_) (fun h3 => ?_)
      · have hF := hF.1 h3
        refine k_ic hK dX9_bitsOf_36 ci_0 ?_
        exact k_iret hK dX9_bitsOf_37 rfl rfl (done_0 rfl rfl) (qP_i hF)
      · have hF := hF.2 h3
        refine k_ld hK 0 dX9_bitsOf_27 rfl rfl rfl rfl ?_
        refine k_gR hK dX9_bitsOf_28 lf_X9_36 rfl (sk_X9_0 hs h_o) (sr_X9_0_9 hs h_o) ?_
        refine k_ld hK 1 dX9_bitsOf_31 rfl rfl rfl rfl ?_
        obtain ⟨n4, i5, j6, hF⟩ := hF
        refine k_iald hK dX9_bitsOf_32 (sk_X9_9 hs h_o) (sl_X9_9 h_o) (by decide) i5 j6 rfl ?_
        refine k_goto hK dX9_bitsOf_33 (tgt := 37) rfl ?_
        exact k_iret hK dX9_bitsOf_37 rfl rfl (done_0 rfl rfl) (qP_i hF)
  · have hF := hF.2 h1
    refine k_ic hK dX9_bitsOf_7 ci_1 ?_
    refine k_ld hK 1 dX9_bitsOf_8 rfl rfl rfl rfl ?_
    refine k_si hK dX9_bitsOf_9 cs_1000 ?_
    refine k_op hK dX9_bitsOf_12 rfl rfl ?_
    refine k_op hK dX9_bitsOf_13 rfl rfl ?_
    exact k_iret hK dX9_bitsOf_14 rfl rfl (done_0 rfl rfl) (qP_i hF)
theorem e_X9_bitsOf {d : Nat} {Q : Int32 → Prop} {I : HI} {J : HJ} {R : HR} {o : Nat} {x1 : Int32} (hs : Stat R) (h_o : isX9 o) (hF : ((x1 < 1000 → ((x1 < 0 → Q 0) ∧ (¬ x1 < 0 → (((I o 0) ≤ x1 → Q 0) ∧ (¬ (I o 0) ≤ x1 → (∃ n4 : Nat, x1 = nI n4 ∧ n4 < 400 ∧ Q (I (o + 9) n4))))))) ∧ (¬ x1 < 1000 → Q (1 <<< (((x1 - 1000) : Int32) &&& 31) : Int32)))) : Wp fi (d + 1) M_X9_bitsOf [.ref o, .int x1] I J R Q := ⟨Nat.le_of_ble_eq_true rfl, fun K hK => g_X9_bitsOf_0 hK hs h_o hF⟩
set_option maxHeartbeats 4000000 in
theorem g_X9_markBack_0 {d : Nat} {K : KT} {Q : Unit → HI → Prop} {I : HI} {J : HJ} {R : HR} {o : Nat} {x1 : Int32} (hK : am_R M_X9_markBack (am_W d) none R (qC fv J R Q) K) (hs : Stat R) (h_o : isX9 o) (hF : Wc fv d M_X9_unmark [.ref o] I J R (fun u1 I2 => Wc fv d M_X9_mark [.ref o, .int x1] I2 J R (fun u3 I4 => K 22 [(0, .ref o), (2, .int ((if 400 < (I4 o 0) then 400 else (I4 o 0)) - 1))] [] I4 J R))) : K 0 [(0, .ref o), (1, .int x1)] [] I J R := by
  refine k_ld hK 0 dX9_markBack_0 rfl rfl rfl rfl ?_
  refine k_cVc hK dX9_markBack_1 (Or.inl lm_X9_88) (As := []) (S := []) rfl (sk_X9_0 hs h_o) (Nat.le_of_ble_eq_true rfl) (fit_0 rfl rfl) rfl hF (fun u1 I2 hF => ?_)
  show K _ _ [] _ _ _
  refine k_ld hK 0 dX9_markBack_4 rfl rfl rfl rfl ?_
  refine k_ld hK 1 dX9_markBack_5 rfl rfl rfl rfl ?_
  refine k_cVc hK dX9_markBack_6 (Or.inl lm_X9_91) (As := [.int x1]) (S := []) rfl (sk_X9_0 hs h_o) (Nat.le_of_ble_eq_true rfl) (fit_0 rfl rfl) rfl hF (fun u3 I4 hF => ?_)
  show K _ _ [] _ _ _
  refine k_ld hK 0 dX9_markBack_9 rfl rfl rfl rfl ?_
  refine k_gI hK dX9_markBack_10 lf_X9_43 rfl (sk_X9_0 hs h_o) rfl ?_
  refine k_si hK dX9_markBack_13 cs_400 ?_
  refine k_min hK dX9_markBack_16 lx_X9_94 lmath_min_1 lmath_0 lmath_min_2 (Nat.le_of_ble_eq_true rfl) (Nat.le_add_right _ _) (Nat.le_add_right _ _) ?_
  refine k_ic hK dX9_markBack_19 ci_1 ?_
  refine k_op hK dX9_markBack_20 rfl rfl ?_
  refine k_st hK dX9_markBack_21 rfl rfl rfl (Nat.le_of_ble_eq_true rfl) rfl ?_
  exact k_sub hK [1, 0] rfl hF
set_option maxHeartbeats 4000000 in
theorem g_X9_markBack_22 {d : Nat} {K : KT} {Q : Unit → HI → Prop} {I : HI} {J : HJ} {R : HR} {o : Nat} {x2 : Int32} (hK : am_R M_X9_markBack (am_W d) none R (qC fv J R Q) K) (hs : Stat R) (h_o : isX9 o) (hF : ((x2 < 0 → Q () I) ∧ (¬ x2 < 0 → (∃ n2 : Nat, x2 = nI n2 ∧ n2 < 400 ∧ (((I (o + 10) n2) = 0 → K 22 [(0, .ref o), (2, .int (x2 + (-1)))] [] I J R) ∧ (¬ (I (o + 10) n2) = 0 → Wc fv d M_X9_mark [.ref o, .int (I (o + 6) n2)] I J R (fun u6 I7 => Wc fv d M_X9_mark [.ref o, .int (I7 (o + 7) n2)] I7 J R (fun u8 I9 => K 22 [(0, .ref o), (2, .int (x2 + (-1)))] [] I9 J R)))))))) : K 22 [(0, .ref o), (2, .int x2)] [] I J R := by
  refine k_ld hK 1 dX9_markBack_22 rfl rfl rfl rfl ?_
  refine k_lt hK dX9_markBack_23 (tgt := 61) rfl (fun h1 => ?_) (fun h1 => ?_)
  · have hF := hF.1 h1
    exact k_vret hK dX9_markBack_61 rfl (done_0 rfl rfl) (qC_i hF)
  · have hF := hF.2 h1
    refine k_ld hK 0 dX9_markBack_26 rfl rfl rfl rfl ?_
    refine k_gR hK dX9_markBack_27 lf_X9_39 rfl (sk_X9_0 hs h_o) (sr_X9_0_10 hs h_o) ?_
    refine k_ld hK 1 dX9_markBack_30 rfl rfl rfl rfl ?_
    obtain ⟨n2, i3, j4, hF⟩ := hF
    refine k_bald hK dX9_markBack_31 (Or.inr (sk_X9_10 hs h_o)) (sl_X9_10 h_o) (by decide) i3 j4 rfl ?_
    refine k_eq hK dX9_markBack_32 (tgt := 55) rfl (fun h5 => ?_) (fun h5 => ?_)
    · have hF := hF.1 h5
      refine k_iinc hK 1 dX9_markBack_55 (v := (x2 + (-1))) rfl (Nat.le_of_ble_eq_true rfl) (congrArg (fun q => x2 + q) ci_m1) rfl ?_
      refine k_goto hK dX9_markBack_58 (tgt := 22) rfl ?_
      exact k_sub hK [1, 0] rfl hF
    · have hF := hF.2 h5
      refine k_ld hK 0 dX9_markBack_35 rfl rfl rfl rfl ?_
      refine k_ld hK 0 dX9_markBack_36 rfl rfl rfl rfl ?_
      refine k_gR hK dX9_markBack_37 lf_X9_27 rfl (sk_X9_0 hs h_o) (sr_X9_0_6 hs h_o) ?_
      refine k_ld hK 1 dX9_markBack_40 rfl rfl rfl rfl ?_
      refine k_iald hK dX9_markBack_41 (sk_X9_6 hs h_o) (sl_X9_6 h_o) (by decide) i3 j4 rfl ?_
      refine k_cVc hK dX9_markBack_42 (Or.inl lm_X9_91) (As := [.int (I (o + 6) n2)]) (S := []) rfl (sk_X9_0 hs h_o) (Nat.le_of_ble_eq_true rfl) (fit_0 rfl rfl) rfl hF (fun u6 I7 hF => ?_)
      show K _ _ [] _ _ _
      refine k_ld hK 0 dX9_markBack_45 rfl rfl rfl rfl ?_
      refine k_ld hK 0 dX9_markBack_46 rfl rfl rfl rfl ?_
      refine k_gR hK dX9_markBack_47 lf_X9_30 rfl (sk_X9_0 hs h_o) (sr_X9_0_7 hs h_o) ?_
      refine k_ld hK 1 dX9_markBack_50 rfl rfl rfl rfl ?_
      refine k_iald hK dX9_markBack_51 (sk_X9_7 hs h_o) (sl_X9_7 h_o) (by decide) i3 j4 rfl ?_
      refine k_cVc hK dX9_markBack_52 (Or.inl lm_X9_91) (As := [.int (I7 (o + 7) n2)]) (S := []) rfl (sk_X9_0 hs h_o) (Nat.le_of_ble_eq_true rfl) (fit_0 rfl rfl) rfl hF (fun u8 I9 hF => ?_)
      show K _ _ [] _ _ _
      refine k_iinc hK 1 dX9_markBack_55 (v := (x2 + (-1))) rfl (Nat.le_of_ble_eq_true rfl) (congrArg (fun q => x2 + q) ci_m1) rfl ?_
      refine k_goto hK dX9_markBack_58 (tgt := 22) rfl ?_
      exact k_sub hK [1, 0] rfl hF
set_option maxHeartbeats 4000000 in
theorem g_X9_markForward_0 {d : Nat} {K : KT} {Q : Unit → HI → Prop} {I : HI} {J : HJ} {R : HR} {o : Nat} {x1 : Int32} (hK : am_R M_X9_markForward (am_W d) none R (qC fv J R Q) K) (hs : Stat R) (h_o : isX9 o) (hF : Wc fv d M_X9_unmark [.ref o] I J R (fun u1 I2 => Wc fv d M_X9_mark [.ref o, .int x1] I2 J R (fun u3 I4 => K 17 [(0, .ref o), (2, .int (if (x1 + 1) < 0 then 0 else (x1 + 1)))] [] I4 J R))) : K 0 [(0, .ref o), (1, .int x1)] [] I J R := by
  refine k_ld hK 0 dX9_markForward_0 rfl rfl rfl rfl ?_
  refine k_cVc hK dX9_markForward_1 (Or.inl lm_X9_88) (As := []) (S := []) rfl (sk_X9_0 hs h_o) (Nat.le_of_ble_eq_true rfl) (fit_0 rfl rfl) rfl hF (fun u1 I2 hF => ?_)
  show K _ _ [] _ _ _
  refine k_ld hK 0 dX9_markForward_4 rfl rfl rfl rfl ?_
  refine k_ld hK 1 dX9_markForward_5 rfl rfl rfl rfl ?_
  refine k_cVc hK dX9_markForward_6 (Or.inl lm_X9_91) (As := [.int x1]) (S := []) rfl (sk_X9_0 hs h_o) (Nat.le_of_ble_eq_true rfl) (fit_0 rfl rfl) rfl hF (fun u3 I4 hF => ?_)
  show K _ _ [] _ _ _
  refine k_ld hK 1 dX9_markForward_9 rfl rfl rfl rfl ?_
  refine k_ic hK dX9_markForward_10 ci_1 ?_
  refine k_op hK dX9_markForward_11 rfl rfl ?_
  refine k_ic hK dX9_markForward_12 ci_0 ?_
  refine k_max hK dX9_markForward_13 lx_X9_99 lmath_max_1 lmath_0 lmath_max_2 (Nat.le_of_ble_eq_true rfl) (Nat.le_add_right _ _) (Nat.le_add_right _ _) ?_
  refine k_st hK dX9_markForward_16 rfl rfl rfl (Nat.le_of_ble_eq_true rfl) rfl ?_
  exact k_sub hK [1, 0] rfl hF
set_option maxHeartbeats 4000000 in
theorem g_X9_markForward_17 {d : Nat} {K : KT} {Q : Unit → HI → Prop} {I : HI} {J : HJ} {R : HR} {o : Nat} {x2 : Int32} (hK : am_R M_X9_markForward (am_W d) none R (qC fv J R Q) K) (hs : Stat R) (h_o : isX9 o) (hF : (((I o 0) ≤ x2 → Q () I) ∧ (¬ (I o 0) ≤ x2 → ((400 ≤ x2 → Q () I) ∧ (¬ 400 ≤ x2 → (∃ n3 : Nat, x2 = nI n3 ∧ n3 < 400 ∧ Wp fb d M_X9_isMarked [.ref o, .int (I (o + 6) n3)] I J R (fun b6 => ((b6 = true → K 17 [(0, .ref o), (2, .int (x2 + 1))] [] (up I (o + 10) n3 1) J R) ∧ (b6 = false → Wp fb d M_X9_isMarked [.ref o, .int (I (o + 7) n3)] I J R (fun b8 => ((b8 = false → K 17 [(0, .ref o), (2, .int (x2 + 1))] [] (up I (o + 10) n3 0) J R) ∧ (b8 = true → K 17 [(0, .ref o), (2, .int (x2 + 1))] [] (up I (o + 10) n3 1) J R)))))))))))) : K 17 [(0, .ref o), (2, .int x2)] [] I J R := by
  refine k_ld hK 1 dX9_markForward_17 rfl rfl rfl rfl ?_
  refine k_ld hK 0 dX9_markForward_18 rfl rfl rfl rfl ?_
  refine k_gI hK dX9_markForward_19 lf_X9_43 rfl (sk_X9_0 hs h_o) rfl ?_
  refine k_cge hK dX9_markForward_22 (tgt := 75) rfl (fun h1 => ?_) (fun h1 => ?_)
  · have hF := hF.1 h1
    exact k_vret hK dX9_markForward_75 rfl (done_0 rfl rfl) (qC_i hF)
  · have hF := hF.2 h1
    refine k_ld hK 1 dX9_markForward_25 rfl rfl rfl rfl ?_
    refine k_si hK dX9_markForward_26 cs_400 ?_
    refine k_cge hK dX9_markForward_29 (tgt := 75) rfl (fun h2 => ?_) (fun h2 => ?_)
    · have hF := hF.1 h2
      exact k_vret hK dX9_markForward_75 rfl (done_0 rfl rfl) (qC_i hF)
    · have hF := hF.2 h2
      refine k_ld hK 0 dX9_markForward_32 rfl rfl rfl rfl ?_
      refine k_gR hK dX9_markForward_33 lf_X9_39 rfl (sk_X9_0 hs h_o) (sr_X9_0_10 hs h_o) ?_
      refine k_ld hK 1 dX9_markForward_36 rfl rfl rfl rfl ?_
      refine k_ld hK 0 dX9_markForward_37 rfl rfl rfl rfl ?_
      refine k_ld hK 0 dX9_markForward_38 rfl rfl rfl rfl ?_
      refine k_gR hK dX9_markForward_39 lf_X9_27 rfl (sk_X9_0 hs h_o) (sr_X9_0_6 hs h_o) ?_
      refine k_ld hK 1 dX9_markForward_42 rfl rfl rfl rfl ?_
      obtain ⟨n3, i4, j5, hF⟩ := hF
      refine k_iald hK dX9_markForward_43 (sk_X9_6 hs h_o) (sl_X9_6 h_o) (by decide) i4 j5 rfl ?_
      refine k_cVp hK dX9_markForward_44 (Or.inl lm_X9_102) (As := [.int (I (o + 6) n3)]) (S := [.int x2, .ref (o + 10)]) rfl (sk_X9_0 hs h_o) (Nat.le_of_ble_eq_true rfl) (fit_0 rfl rfl) rfl hF (fun b6 hF => ?_)
      show K _ _ [.int (b2i b6), .int x2, .ref (o + 10)] _ _ _
      refine k_bne hK dX9_markForward_47 (tgt := 63) rfl (fun h7 => ?_) (fun h7 => ?_)
      · have hF := hF.1 h7
        refine k_ic hK dX9_markForward_63 ci_1 ?_
        refine k_goto hK dX9_markForward_64 (tgt := 68) rfl ?_
        refine k_bast hK dX9_markForward_68 (Or.inr ⟨(sk_X9_10 hs h_o), (by decide)⟩) (sl_X9_10 h_o) (by decide) i4 j5 ?_
        refine k_iinc hK 1 dX9_markForward_69 (v := (x2 + 1)) rfl (Nat.le_of_ble_eq_true rfl) (congrArg (fun q => x2 + q) ci_1) rfl ?_
        refine k_goto hK dX9_markForward_72 (tgt := 17) rfl ?_
        exact k_sub hK [1, 0] rfl hF
      · have hF := hF.2 h7
        refine k_ld hK 0 dX9_markForward_50 rfl rfl rfl rfl ?_
        refine k_ld hK 0 dX9_markForward_51 rfl rfl rfl rfl ?_
        refine k_gR hK dX9_markForward_52 lf_X9_30 rfl (sk_X9_0 hs h_o) (sr_X9_0_7 hs h_o) ?_
        refine k_ld hK 1 dX9_markForward_55 rfl rfl rfl rfl ?_
        refine k_iald hK dX9_markForward_56 (sk_X9_7 hs h_o) (sl_X9_7 h_o) (by decide) i4 j5 rfl ?_
        refine k_cVp hK dX9_markForward_57 (Or.inl lm_X9_102) (As := [.int (I (o + 7) n3)]) (S := [.int x2, .ref (o + 10)]) rfl (sk_X9_0 hs h_o) (Nat.le_of_ble_eq_true rfl) (fit_0 rfl rfl) rfl hF (fun b8 hF => ?_)
        show K _ _ [.int (b2i b8), .int x2, .ref (o + 10)] _ _ _
        refine k_beq hK dX9_markForward_60 (tgt := 67) rfl (fun h9 => ?_) (fun h9 => ?_)
        · have hF := hF.1 h9
          refine k_ic hK dX9_markForward_67 ci_0 ?_
          refine k_bast hK dX9_markForward_68 (Or.inr ⟨(sk_X9_10 hs h_o), (by decide)⟩) (sl_X9_10 h_o) (by decide) i4 j5 ?_
          refine k_iinc hK 1 dX9_markForward_69 (v := (x2 + 1)) rfl (Nat.le_of_ble_eq_true rfl) (congrArg (fun q => x2 + q) ci_1) rfl ?_
          refine k_goto hK dX9_markForward_72 (tgt := 17) rfl ?_
          exact k_sub hK [1, 0] rfl hF
        · have hF := hF.2 h9
          refine k_ic hK dX9_markForward_63 ci_1 ?_
          refine k_goto hK dX9_markForward_64 (tgt := 68) rfl ?_
          refine k_bast hK dX9_markForward_68 (Or.inr ⟨(sk_X9_10 hs h_o), (by decide)⟩) (sl_X9_10 h_o) (by decide) i4 j5 ?_
          refine k_iinc hK 1 dX9_markForward_69 (v := (x2 + 1)) rfl (Nat.le_of_ble_eq_true rfl) (congrArg (fun q => x2 + q) ci_1) rfl ?_
          refine k_goto hK dX9_markForward_72 (tgt := 17) rfl ?_
          exact k_sub hK [1, 0] rfl hF
set_option maxHeartbeats 4000000 in
theorem g_X9_unmark_0 {d : Nat} {K : KT} {Q : Unit → HI → Prop} {I : HI} {J : HJ} {R : HR} {o : Nat} (hK : am_R M_X9_unmark (am_W d) none R (qC fv J R Q) K) (hs : Stat R) (h_o : isX9 o) (hF : K 2 [(0, .ref o), (1, .int 0)] [] I J R) : K 0 [(0, .ref o)] [] I J R := by
  refine k_ic hK dX9_unmark_0 ci_0 ?_
  refine k_st hK dX9_unmark_1 rfl rfl rfl (Nat.le_of_ble_eq_true rfl) rfl ?_
  exact k_sub hK [1, 0] rfl hF
set_option maxHeartbeats 4000000 in
theorem g_X9_unmark_2 {d : Nat} {K : KT} {Q : Unit → HI → Prop} {I : HI} {J : HJ} {R : HR} {o : Nat} {x1 : Int32} (hK : am_R M_X9_unmark (am_W d) none R (qC fv J R Q) K) (hs : Stat R) (h_o : isX9 o) (hF : ((400 ≤ x1 → Q () I) ∧ (¬ 400 ≤ x1 → (∃ n2 : Nat, x1 = nI n2 ∧ n2 < 400 ∧ K 2 [(0, .ref o), (1, .int (x1 + 1))] [] (up I (o + 10) n2 0) J R)))) : K 2 [(0, .ref o), (1, .int x1)] [] I J R := by
  refine k_ld hK 1 dX9_unmark_2 rfl rfl rfl rfl ?_
  refine k_si hK dX9_unmark_3 cs_400 ?_
  refine k_cge hK dX9_unmark_6 (tgt := 22) rfl (fun h1 => ?_) (fun h1 => ?_)
  · have hF := hF.1 h1
    exact k_vret hK dX9_unmark_22 rfl (done_0 rfl rfl) (qC_i hF)
  · have hF := hF.2 h1
    refine k_ld hK 0 dX9_unmark_9 rfl rfl rfl rfl ?_
    refine k_gR hK dX9_unmark_10 lf_X9_39 rfl (sk_X9_0 hs h_o) (sr_X9_0_10 hs h_o) ?_
    refine k_ld hK 1 dX9_unmark_13 rfl rfl rfl rfl ?_
    refine k_ic hK dX9_unmark_14 ci_0 ?_
    obtain ⟨n2, i3, j4, hF⟩ := hF
    refine k_bast hK dX9_unmark_15 (Or.inr ⟨(sk_X9_10 hs h_o), (by decide)⟩) (sl_X9_10 h_o) (by decide) i3 j4 ?_
    refine k_iinc hK 1 dX9_unmark_16 (v := (x1 + 1)) rfl (Nat.le_of_ble_eq_true rfl) (congrArg (fun q => x1 + q) ci_1) rfl ?_
    refine k_goto hK dX9_unmark_19 (tgt := 2) rfl ?_
    exact k_sub hK [1, 0] rfl hF
set_option maxHeartbeats 4000000 in
theorem g_X9_mark_0 {d : Nat} {K : KT} {Q : Unit → HI → Prop} {I : HI} {J : HJ} {R : HR} {o : Nat} {x1 : Int32} (hK : am_R M_X9_mark (am_W d) none R (qC fv J R Q) K) (hs : Stat R) (h_o : isX9 o) (hF : ((x1 < 0 → Q () I) ∧ (¬ x1 < 0 → ((400 ≤ x1 → Q () I) ∧ (¬ 400 ≤ x1 → (∃ n3 : Nat, x1 = nI n3 ∧ n3 < 400 ∧ Q () (up I (o + 10) n3 1))))))) : K 0 [(0, .ref o), (1, .int x1)] [] I J R := by
  refine k_ld hK 1 dX9_mark_0 rfl rfl rfl rfl ?_
  refine k_lt hK dX9_mark_1 (tgt := 18) rfl (fun h1 => ?_) (fun h1 => ?_)
  · have hF := hF.1 h1
    exact k_vret hK dX9_mark_18 rfl (done_0 rfl rfl) (qC_i hF)
  · have hF := hF.2 h1
    refine k_ld hK 1 dX9_mark_4 rfl rfl rfl rfl ?_
    refine k_si hK dX9_mark_5 cs_400 ?_
    refine k_cge hK dX9_mark_8 (tgt := 18) rfl (fun h2 => ?_) (fun h2 => ?_)
    · have hF := hF.1 h2
      exact k_vret hK dX9_mark_18 rfl (done_0 rfl rfl) (qC_i hF)
    · have hF := hF.2 h2
      refine k_ld hK 0 dX9_mark_11 rfl rfl rfl rfl ?_
      refine k_gR hK dX9_mark_12 lf_X9_39 rfl (sk_X9_0 hs h_o) (sr_X9_0_10 hs h_o) ?_
      refine k_ld hK 1 dX9_mark_15 rfl rfl rfl rfl ?_
      refine k_ic hK dX9_mark_16 ci_1 ?_
      obtain ⟨n3, i4, j5, hF⟩ := hF
      refine k_bast hK dX9_mark_17 (Or.inr ⟨(sk_X9_10 hs h_o), (by decide)⟩) (sl_X9_10 h_o) (by decide) i4 j5 ?_
      exact k_vret hK dX9_mark_18 rfl (done_0 rfl rfl) (qC_i hF)
theorem e_X9_mark {d : Nat} {Q : Unit → HI → Prop} {I : HI} {J : HJ} {R : HR} {o : Nat} {x1 : Int32} (hs : Stat R) (h_o : isX9 o) (hF : ((x1 < 0 → Q () I) ∧ (¬ x1 < 0 → ((400 ≤ x1 → Q () I) ∧ (¬ 400 ≤ x1 → (∃ n3 : Nat, x1 = nI n3 ∧ n3 < 400 ∧ Q () (up I (o + 10) n3 1))))))) : Wc fv (d + 1) M_X9_mark [.ref o, .int x1] I J R Q := ⟨Nat.le_of_ble_eq_true rfl, fun K hK => g_X9_mark_0 hK hs h_o hF⟩
set_option maxHeartbeats 4000000 in
theorem g_X9_isMarked_0 {d : Nat} {K : KT} {Q : Bool → Prop} {I : HI} {J : HJ} {R : HR} {o : Nat} {x1 : Int32} (hK : am_R M_X9_isMarked (am_W d) none R (qP fb I J R Q) K) (hs : Stat R) (h_o : isX9 o) (hF : ((x1 < 0 → Q false) ∧ (¬ x1 < 0 → ((400 ≤ x1 → Q false) ∧ (¬ 400 ≤ x1 → (∃ n3 : Nat, x1 = nI n3 ∧ n3 < 400 ∧ (((I (o + 10) n3) = 0 → Q false) ∧ (¬ (I (o + 10) n3) = 0 → Q true)))))))) : K 0 [(0, .ref o), (1, .int x1)] [] I J R := by
  refine k_ld hK 1 dX9_isMarked_0 rfl rfl rfl rfl ?_
  refine k_lt hK dX9_isMarked_1 (tgt := 24) rfl (fun h1 => ?_) (fun h1 => ?_)
  · have hF := hF.1 h1
    refine k_ic hK dX9_isMarked_24 ci_0 ?_
    exact k_iret (x := b2i false) hK dX9_isMarked_25 rfl (b2i_nar _) (done_0 rfl rfl) (qP_i hF)
  · have hF := hF.2 h1
    refine k_ld hK 1 dX9_isMarked_4 rfl rfl rfl rfl ?_
    refine k_si hK dX9_isMarked_5 cs_400 ?_
    refine k_cge hK dX9_isMarked_8 (tgt := 24) rfl (fun h2 => ?_) (fun h2 => ?_)
    · have hF := hF.1 h2
      refine k_ic hK dX9_isMarked_24 ci_0 ?_
      exact k_iret (x := b2i false) hK dX9_isMarked_25 rfl (b2i_nar _) (done_0 rfl rfl) (qP_i hF)
    · have hF := hF.2 h2
      refine k_ld hK 0 dX9_isMarked_11 rfl rfl rfl rfl ?_
      refine k_gR hK dX9_isMarked_12 lf_X9_39 rfl (sk_X9_0 hs h_o) (sr_X9_0_10 hs h_o) ?_
      refine k_ld hK 1 dX9_isMarked_15 rfl rfl rfl rfl ?_
      obtain ⟨n3, i4, j5, hF⟩ := hF
      refine k_bald hK dX9_isMarked_16 (Or.inr (sk_X9_10 hs h_o)) (sl_X9_10 h_o) (by decide) i4 j5 rfl ?_
      refine k_eq hK dX9_isMarked_17 (tgt := 24) rfl (fun h6 => ?_) (fun h6 => ?_)
      · have hF := hF.1 h6
        refine k_ic hK dX9_isMarked_24 ci_0 ?_
        exact k_iret (x := b2i false) hK dX9_isMarked_25 rfl (b2i_nar _) (done_0 rfl rfl) (qP_i hF)
      · have hF := hF.2 h6
        refine k_ic hK dX9_isMarked_20 ci_1 ?_
        refine k_goto hK dX9_isMarked_21 (tgt := 25) rfl ?_
        exact k_iret (x := b2i true) hK dX9_isMarked_25 rfl (b2i_nar _) (done_0 rfl rfl) (qP_i hF)
theorem e_X9_isMarked {d : Nat} {Q : Bool → Prop} {I : HI} {J : HJ} {R : HR} {o : Nat} {x1 : Int32} (hs : Stat R) (h_o : isX9 o) (hF : ((x1 < 0 → Q false) ∧ (¬ x1 < 0 → ((400 ≤ x1 → Q false) ∧ (¬ 400 ≤ x1 → (∃ n3 : Nat, x1 = nI n3 ∧ n3 < 400 ∧ (((I (o + 10) n3) = 0 → Q false) ∧ (¬ (I (o + 10) n3) = 0 → Q true)))))))) : Wp fb (d + 1) M_X9_isMarked [.ref o, .int x1] I J R Q := ⟨Nat.le_of_ble_eq_true rfl, fun K hK => g_X9_isMarked_0 hK hs h_o hF⟩
set_option maxHeartbeats 4000000 in
theorem g_X9_costOf_0 {d : Nat} {K : KT} {Q : Int32 → Prop} {I : HI} {J : HJ} {R : HR} {o : Nat} {x1 : Int32} {x2 : Int32} (hK : am_R M_X9_costOf (am_W d) none R (qP fi I J R Q) K) (hs : Stat R) (h_o : isX9 o) (hF : ((x1 < 0 → Q 0) ∧ (¬ x1 < 0 → ((x1 < (I o 0) → (∃ n3 : Nat, x1 = nI n3 ∧ n3 < 400 ∧ Wp fi d M_X9_bitsOf [.ref o, .int (I (o + 7) n3)] I J R (fun r6 => (((r6 &&& x2) = 0 → K 34 [(0, .ref o), (1, .int x1), (2, .int x2)] [.int (b2i false)] I J R) ∧ (¬ (r6 &&& x2) = 0 → K 34 [(0, .ref o), (1, .int x1), (2, .int x2)] [.int (b2i true)] I J R))))) ∧ (¬ x1 < (I o 0) → Q 0))))) : K 0 [(0, .ref o), (1, .int x1), (2, .int x2)] [] I J R := by
  refine k_ld hK 1 dX9_costOf_0 rfl rfl rfl rfl ?_
  refine k_lt hK dX9_costOf_1 (tgt := 12) rfl (fun h1 => ?_) (fun h1 => ?_)
  · have hF := hF.1 h1
    refine k_ic hK dX9_costOf_12 ci_0 ?_
    exact k_iret hK dX9_costOf_13 rfl rfl (done_0 rfl rfl) (qP_i hF)
  · have hF := hF.2 h1
    refine k_ld hK 1 dX9_costOf_4 rfl rfl rfl rfl ?_
    refine k_ld hK 0 dX9_costOf_5 rfl rfl rfl rfl ?_
    refine k_gI hK dX9_costOf_6 lf_X9_43 rfl (sk_X9_0 hs h_o) rfl ?_
    refine k_clt hK dX9_costOf_9 (tgt := 14) rfl (fun h2 => ?_) (fun h2 => ?_)
    · have hF := hF.1 h2
      refine k_ld hK 0 dX9_costOf_14 rfl rfl rfl rfl ?_
      refine k_ld hK 0 dX9_costOf_15 rfl rfl rfl rfl ?_
      refine k_gR hK dX9_costOf_16 lf_X9_30 rfl (sk_X9_0 hs h_o) (sr_X9_0_7 hs h_o) ?_
      refine k_ld hK 1 dX9_costOf_19 rfl rfl rfl rfl ?_
      obtain ⟨n3, i4, j5, hF⟩ := hF
      refine k_iald hK dX9_costOf_20 (sk_X9_7 hs h_o) (sl_X9_7 h_o) (by decide) i4 j5 rfl ?_
      refine k_cVp hK dX9_costOf_21 (Or.inl lm_X9_67) (As := [.int (I (o + 7) n3)]) (S := []) rfl (sk_X9_0 hs h_o) (Nat.le_of_ble_eq_true rfl) (fit_0 rfl rfl) rfl hF (fun r6 hF => ?_)
      show K _ _ [.int r6] _ _ _
      refine k_ld hK 2 dX9_costOf_24 rfl rfl rfl rfl ?_
      refine k_op hK dX9_costOf_25 rfl rfl ?_
      refine k_eq hK dX9_costOf_26 (tgt := 33) rfl (fun h7 => ?_) (fun h7 => ?_)
      · have hF := hF.1 h7
        refine k_ic hK dX9_costOf_33 ci_0 ?_
        exact k_sub hK [0, 1, 2] rfl hF
      · have hF := hF.2 h7
        refine k_ic hK dX9_costOf_29 ci_1 ?_
        refine k_goto hK dX9_costOf_30 (tgt := 34) rfl ?_
        exact k_sub hK [0, 1, 2] rfl hF
    · have hF := hF.2 h2
      refine k_ic hK dX9_costOf_12 ci_0 ?_
      exact k_iret hK dX9_costOf_13 rfl rfl (done_0 rfl rfl) (qP_i hF)
set_option maxHeartbeats 4000000 in
theorem g_X9_costOf_34 {d : Nat} {K : KT} {Q : Int32 → Prop} {I : HI} {J : HJ} {R : HR} {o : Nat} {x1 : Int32} {x2 : Int32} {v0 : Bool} (hK : am_R M_X9_costOf (am_W d) none R (qP fi I J R Q) K) (hs : Stat R) (h_o : isX9 o) (hF : (∃ n1 : Nat, x1 = nI n1 ∧ n1 < 400 ∧ ((¬ (I (o + 1) n1) = 5 → ((¬ (I (o + 1) n1) = 6 → Q 0) ∧ ((I (o + 1) n1) = 6 → ((((I (o + 9) n1) &&& x2) = 0 → Q 0) ∧ (¬ ((I (o + 9) n1) &&& x2) = 0 → Q (1 + (b2i v0))))))) ∧ ((I (o + 1) n1) = 5 → Wp fi d M_X9_bitsOf [.ref o, .int (I (o + 6) n1)] I J R (fun r7 => (((r7 &&& x2) = 0 → Q ((b2i v0) + 0)) ∧ (¬ (r7 &&& x2) = 0 → Q ((b2i v0) + 1)))))))) : K 34 [(0, .ref o), (1, .int x1), (2, .int x2)] [.int (b2i v0)] I J R := by
  refine k_st hK dX9_costOf_34 rfl rfl rfl (Nat.le_of_ble_eq_true rfl) rfl ?_
  refine k_ld hK 1 dX9_costOf_35 rfl rfl rfl rfl ?_
  refine k_gR hK dX9_costOf_36 lf_X9_9 rfl (sk_X9_0 hs h_o) (sr_X9_0_1 hs h_o) ?_
  refine k_ld hK 2 dX9_costOf_39 rfl rfl rfl rfl ?_
  obtain ⟨n1, i2, j3, hF⟩ := hF
  refine k_iald hK dX9_costOf_40 (sk_X9_1 hs h_o) (sl_X9_1 h_o) (by decide) i2 j3 rfl ?_
  refine k_ic hK dX9_costOf_41 ci_5 ?_
  refine k_cne hK dX9_costOf_42 (tgt := 68) rfl (fun h4 => ?_) (fun h4 => ?_)
  · have hF := hF.1 h4
    refine k_ld hK 1 dX9_costOf_68 rfl rfl rfl rfl ?_
    refine k_gR hK dX9_costOf_69 lf_X9_9 rfl (sk_X9_0 hs h_o) (sr_X9_0_1 hs h_o) ?_
    refine k_ld hK 2 dX9_costOf_72 rfl rfl rfl rfl ?_
    refine k_iald hK dX9_costOf_73 (sk_X9_1 hs h_o) (sl_X9_1 h_o) (by decide) i2 j3 rfl ?_
    refine k_bi hK dX9_costOf_74 cb_6 ?_
    refine k_cne hK dX9_costOf_76 (tgt := 94) rfl (fun h5 => ?_) (fun h5 => ?_)
    · have hF := hF.1 h5
      refine k_ic hK dX9_costOf_94 ci_0 ?_
      exact k_iret hK dX9_costOf_95 rfl rfl (done_0 rfl rfl) (qP_i hF)
    · have hF := hF.2 h5
      refine k_ld hK 1 dX9_costOf_79 rfl rfl rfl rfl ?_
      refine k_gR hK dX9_costOf_80 lf_X9_36 rfl (sk_X9_0 hs h_o) (sr_X9_0_9 hs h_o) ?_
      refine k_ld hK 2 dX9_costOf_83 rfl rfl rfl rfl ?_
      refine k_iald hK dX9_costOf_84 (sk_X9_9 hs h_o) (sl_X9_9 h_o) (by decide) i2 j3 rfl ?_
      refine k_ld hK 3 dX9_costOf_85 rfl rfl rfl rfl ?_
      refine k_op hK dX9_costOf_86 rfl rfl ?_
      refine k_eq hK dX9_costOf_87 (tgt := 94) rfl (fun h6 => ?_) (fun h6 => ?_)
      · have hF := hF.1 h6
        refine k_ic hK dX9_costOf_94 ci_0 ?_
        exact k_iret hK dX9_costOf_95 rfl rfl (done_0 rfl rfl) (qP_i hF)
      · have hF := hF.2 h6
        refine k_ic hK dX9_costOf_90 ci_1 ?_
        refine k_ld hK 0 dX9_costOf_91 rfl rfl rfl rfl ?_
        refine k_op hK dX9_costOf_92 rfl rfl ?_
        exact k_iret hK dX9_costOf_93 rfl rfl (done_0 rfl rfl) (qP_i hF)
  · have hF := hF.2 h4
    refine k_ld hK 0 dX9_costOf_45 rfl rfl rfl rfl ?_
    refine k_ld hK 1 dX9_costOf_46 rfl rfl rfl rfl ?_
    refine k_ld hK 1 dX9_costOf_47 rfl rfl rfl rfl ?_
    refine k_gR hK dX9_costOf_48 lf_X9_27 rfl (sk_X9_0 hs h_o) (sr_X9_0_6 hs h_o) ?_
    refine k_ld hK 2 dX9_costOf_51 rfl rfl rfl rfl ?_
    refine k_iald hK dX9_costOf_52 (sk_X9_6 hs h_o) (sl_X9_6 h_o) (by decide) i2 j3 rfl ?_
    refine k_cVp hK dX9_costOf_53 (Or.inl lm_X9_67) (As := [.int (I (o + 6) n1)]) (S := [.int (b2i v0)]) rfl (sk_X9_0 hs h_o) (Nat.le_of_ble_eq_true rfl) (fit_0 rfl rfl) rfl hF (fun r7 hF => ?_)
    show K _ _ [.int r7, .int (b2i v0)] _ _ _
    refine k_ld hK 3 dX9_costOf_56 rfl rfl rfl rfl ?_
    refine k_op hK dX9_costOf_57 rfl rfl ?_
    refine k_eq hK dX9_costOf_58 (tgt := 65) rfl (fun h8 => ?_) (fun h8 => ?_)
    · have hF := hF.1 h8
      refine k_ic hK dX9_costOf_65 ci_0 ?_
      refine k_op hK dX9_costOf_66 rfl rfl ?_
      exact k_iret hK dX9_costOf_67 rfl rfl (done_0 rfl rfl) (qP_i hF)
    · have hF := hF.2 h8
      refine k_ic hK dX9_costOf_61 ci_1 ?_
      refine k_goto hK dX9_costOf_62 (tgt := 66) rfl ?_
      refine k_op hK dX9_costOf_66 rfl rfl ?_
      exact k_iret hK dX9_costOf_67 rfl rfl (done_0 rfl rfl) (qP_i hF)
set_option maxHeartbeats 4000000 in
theorem g_X10_fewest_0 {d : Nat} {K : KT} {Q : Int32 → Prop} {I : HI} {J : HJ} {R : HR} {x0 : Int32} {x1 : Int32} (hK : am_R M_X10_fewest (am_W d) none R (qP fi I J R Q) K) (hs : Stat R)  (hF : K 7 [(0, .int x0), (1, .int x1), (2, .int 0), (3, .long (1 : Int64)), (5, .int 1)] [] I J R) : K 0 [(0, .int x0), (1, .int x1)] [] I J R := by
  refine k_ic hK dX10_fewest_0 ci_0 ?_
  refine k_st hK dX10_fewest_1 rfl rfl rfl (Nat.le_of_ble_eq_true rfl) rfl ?_
  refine k_lc hK dX10_fewest_2 cl_1 ?_
  refine k_st hK dX10_fewest_3 rfl rfl rfl (Nat.le_of_ble_eq_true rfl) rfl ?_
  refine k_ic hK dX10_fewest_4 ci_1 ?_
  refine k_st hK dX10_fewest_5 rfl rfl rfl (Nat.le_of_ble_eq_true rfl) rfl ?_
  exact k_sub hK [3, 4, 2, 1, 0] rfl hF
set_option maxHeartbeats 4000000 in
theorem g_X10_fewest_7 {d : Nat} {K : KT} {Q : Int32 → Prop} {I : HI} {J : HJ} {R : HR} {x0 : Int32} {x1 : Int32} {x2 : Int32} {z3 : Int64} {x5 : Int32} (hK : am_R M_X10_fewest (am_W d) none R (qP fi I J R Q) K) (hs : Stat R)  (hF : ((x0 < x5 → Q x2) ∧ (¬ x0 < x5 → (((Int32.toInt64 x0) ≤ z3 → Q x2) ∧ (¬ (Int32.toInt64 x0) ≤ z3 → (¬ (Int32.toInt64 x5) = 0 ∧ K 7 [(0, .int x0), (1, .int x1), (2, .int (x2 + (x0 - (Int64.toInt32 z3)))), (3, .long ((z3 * (Int32.toInt64 ((x1 + 1) + x5))) / (Int32.toInt64 x5))), (5, .int (x5 + 1))] [] I J R)))))) : K 7 [(0, .int x0), (1, .int x1), (2, .int x2), (3, .long z3), (5, .int x5)] [] I J R := by
  refine k_ld hK 4 dX10_fewest_7 rfl rfl rfl rfl ?_
  refine k_ld hK 0 dX10_fewest_9 rfl rfl rfl rfl ?_
  refine k_cgt hK dX10_fewest_10 (tgt := 47) rfl (fun h1 => ?_) (fun h1 => ?_)
  · have hF := hF.1 h1
    refine k_ld hK 2 dX10_fewest_47 rfl rfl rfl rfl ?_
    exact k_iret hK dX10_fewest_48 rfl rfl (done_0 rfl rfl) (qP_i hF)
  · have hF := hF.2 h1
    refine k_ld hK 3 dX10_fewest_13 rfl rfl rfl rfl ?_
    refine k_ld hK 0 dX10_fewest_14 rfl rfl rfl rfl ?_
    refine k_op hK dX10_fewest_15 rfl rfl ?_
    refine k_lge hK dX10_fewest_16 dX10_fewest_17 (tgt := 47) rfl (fun h2 => ?_) (fun h2 => ?_)
    · have hF := hF.1 h2
      refine k_ld hK 2 dX10_fewest_47 rfl rfl rfl rfl ?_
      exact k_iret hK dX10_fewest_48 rfl rfl (done_0 rfl rfl) (qP_i hF)
    · have hF := hF.2 h2
      refine k_ld hK 2 dX10_fewest_20 rfl rfl rfl rfl ?_
      refine k_ld hK 0 dX10_fewest_21 rfl rfl rfl rfl ?_
      refine k_ld hK 3 dX10_fewest_22 rfl rfl rfl rfl ?_
      refine k_op hK dX10_fewest_23 rfl rfl ?_
      refine k_op hK dX10_fewest_24 rfl rfl ?_
      refine k_op hK dX10_fewest_25 rfl rfl ?_
      refine k_st hK dX10_fewest_26 rfl rfl rfl (Nat.le_of_ble_eq_true rfl) rfl ?_
      refine k_ld hK 3 dX10_fewest_27 rfl rfl rfl rfl ?_
      refine k_ld hK 2 dX10_fewest_28 rfl rfl rfl rfl ?_
      refine k_ic hK dX10_fewest_29 ci_1 ?_
      refine k_op hK dX10_fewest_30 rfl rfl ?_
      refine k_ld hK 4 dX10_fewest_31 rfl rfl rfl rfl ?_
      refine k_op hK dX10_fewest_33 rfl rfl ?_
      refine k_op hK dX10_fewest_34 rfl rfl ?_
      refine k_op hK dX10_fewest_35 rfl rfl ?_
      refine k_ld hK 4 dX10_fewest_36 rfl rfl rfl rfl ?_
      refine k_op hK dX10_fewest_38 rfl rfl ?_
      obtain ⟨c3, hF⟩ := hF
      refine k_ldiv hK dX10_fewest_39 c3 ?_
      refine k_st hK dX10_fewest_40 rfl rfl rfl (Nat.le_of_ble_eq_true rfl) rfl ?_
      refine k_iinc hK 4 dX10_fewest_41 (v := (x5 + 1)) rfl (Nat.le_of_ble_eq_true rfl) (congrArg (fun q => x5 + q) ci_1) rfl ?_
      refine k_goto hK dX10_fewest_44 (tgt := 7) rfl ?_
      exact k_sub hK [3, 4, 2, 1, 0] rfl hF
set_option maxHeartbeats 4000000 in
theorem g_X10_firstCut_0 {d : Nat} {K : KT} {Q : Int32 → Prop} {I : HI} {J : HJ} {R : HR} {x0 : Int32} {x1 : Int32} (hK : am_R M_X10_firstCut (am_W d) none R (qP fi I J R Q) K) (hs : Stat R)  (hF : Wp fi d M_X10_fewest [.int x0, .int x1] I J R (fun r1 => K 8 [(0, .int x0), (1, .int x1), (2, .int r1), (3, .int 1)] [] I J R)) : K 0 [(0, .int x0), (1, .int x1)] [] I J R := by
  refine k_ld hK 0 dX10_firstCut_0 rfl rfl rfl rfl ?_
  refine k_ld hK 1 dX10_firstCut_1 rfl rfl rfl rfl ?_
  refine k_cSp hK dX10_firstCut_2 lm_X10_9 (As := [.int x0, .int x1]) (S := []) rfl (Nat.le_of_ble_eq_true rfl) (fit_0 rfl rfl) rfl hF (fun r1 hF => ?_)
  show K _ _ [.int r1] _ _ _
  refine k_st hK dX10_firstCut_5 rfl rfl rfl (Nat.le_of_ble_eq_true rfl) rfl ?_
  refine k_ic hK dX10_firstCut_6 ci_1 ?_
  refine k_st hK dX10_firstCut_7 rfl rfl rfl (Nat.le_of_ble_eq_true rfl) rfl ?_
  exact k_sub hK [2, 3, 1, 0] rfl hF
set_option maxHeartbeats 4000000 in
theorem g_X10_firstCut_8 {d : Nat} {K : KT} {Q : Int32 → Prop} {I : HI} {J : HJ} {R : HR} {x0 : Int32} {x1 : Int32} {x2 : Int32} {x3 : Int32} (hK : am_R M_X10_firstCut (am_W d) none R (qP fi I J R Q) K) (hs : Stat R)  (hF : ((x0 ≤ x3 → Q 1) ∧ (¬ x0 ≤ x3 → Wp fi d M_X10_fewest [.int (x0 - x3), .int (x1 - 1)] I J R (fun r2 => Wp fi d M_X10_fewest [.int x3, .int x1] I J R (fun r3 => ((¬ ((x3 + r2) + r3) = x2 → K 8 [(0, .int x0), (1, .int x1), (2, .int x2), (3, .int (x3 + 1))] [] I J R) ∧ (((x3 + r2) + r3) = x2 → Q x3))))))) : K 8 [(0, .int x0), (1, .int x1), (2, .int x2), (3, .int x3)] [] I J R := by
  refine k_ld hK 3 dX10_firstCut_8 rfl rfl rfl rfl ?_
  refine k_ld hK 0 dX10_firstCut_9 rfl rfl rfl rfl ?_
  refine k_cge hK dX10_firstCut_10 (tgt := 42) rfl (fun h1 => ?_) (fun h1 => ?_)
  · have hF := hF.1 h1
    refine k_ic hK dX10_firstCut_42 ci_1 ?_
    exact k_iret hK dX10_firstCut_43 rfl rfl (done_0 rfl rfl) (qP_i hF)
  · have hF := hF.2 h1
    refine k_ld hK 3 dX10_firstCut_13 rfl rfl rfl rfl ?_
    refine k_ld hK 0 dX10_firstCut_14 rfl rfl rfl rfl ?_
    refine k_ld hK 3 dX10_firstCut_15 rfl rfl rfl rfl ?_
    refine k_op hK dX10_firstCut_16 rfl rfl ?_
    refine k_ld hK 1 dX10_firstCut_17 rfl rfl rfl rfl ?_
    refine k_ic hK dX10_firstCut_18 ci_1 ?_
    refine k_op hK dX10_firstCut_19 rfl rfl ?_
    refine k_cSp hK dX10_firstCut_20 lm_X10_9 (As := [.int (x0 - x3), .int (x1 - 1)]) (S := [.int x3]) rfl (Nat.le_of_ble_eq_true rfl) (fit_0 rfl rfl) rfl hF (fun r2 hF => ?_)
    show K _ _ [.int r2, .int x3] _ _ _
    refine k_op hK dX10_firstCut_23 rfl rfl ?_
    refine k_ld hK 3 dX10_firstCut_24 rfl rfl rfl rfl ?_
    refine k_ld hK 1 dX10_firstCut_25 rfl rfl rfl rfl ?_
    refine k_cSp hK dX10_firstCut_26 lm_X10_9 (As := [.int x3, .int x1]) (S := [.int (x3 + r2)]) rfl (Nat.le_of_ble_eq_true rfl) (fit_0 rfl rfl) rfl hF (fun r3 hF => ?_)
    show K _ _ [.int r3, .int (x3 + r2)] _ _ _
    refine k_op hK dX10_firstCut_29 rfl rfl ?_
    refine k_ld hK 2 dX10_firstCut_30 rfl rfl rfl rfl ?_
    refine k_cne hK dX10_firstCut_31 (tgt := 36) rfl (fun h4 => ?_) (fun h4 => ?_)
    · have hF := hF.1 h4
      refine k_iinc hK 3 dX10_firstCut_36 (v := (x3 + 1)) rfl (Nat.le_of_ble_eq_true rfl) (congrArg (fun q => x3 + q) ci_1) rfl ?_
      refine k_goto hK dX10_firstCut_39 (tgt := 8) rfl ?_
      exact k_sub hK [1, 2, 3, 0] rfl hF
    · have hF := hF.2 h4
      refine k_ld hK 3 dX10_firstCut_34 rfl rfl rfl rfl ?_
      exact k_iret hK dX10_firstCut_35 rfl rfl (done_0 rfl rfl) (qP_i hF)
set_option maxHeartbeats 4000000 in
theorem g_X10_start_0 {d : Nat} {K : KT} {Q : Unit → HI → Prop} {I : HI} {J : HJ} {R : HR} {x1 : Int32} (hK : am_R M_X10_start (am_W d) none R (qC fv J R Q) K) (hs : Stat R)  (hF : Q () (up (up (up (up (up (up (up (up I 78 0 x1) 78 1 0) 78 2 0) 78 3 0) 78 4 0) 78 5 (-1)) 78 6 (-1)) 78 7 (-1))) : K 0 [(0, .ref 78), (1, .int x1)] [] I J R := by
  refine k_ld hK 0 dX10_start_0 rfl rfl rfl rfl ?_
  refine k_ld hK 1 dX10_start_1 rfl rfl rfl rfl ?_
  refine k_pI hK dX10_start_2 lf_X10_15 rfl rfl rfl (sc_78 hs) ?_
  refine k_ld hK 0 dX10_start_5 rfl rfl rfl rfl ?_
  refine k_ic hK dX10_start_6 ci_0 ?_
  refine k_pI hK dX10_start_7 lf_X10_19 rfl rfl rfl (sc_78 hs) ?_
  refine k_ld hK 0 dX10_start_10 rfl rfl rfl rfl ?_
  refine k_ic hK dX10_start_11 ci_0 ?_
  refine k_pI hK dX10_start_12 lf_X10_22 rfl rfl rfl (sc_78 hs) ?_
  refine k_ld hK 0 dX10_start_15 rfl rfl rfl rfl ?_
  refine k_ic hK dX10_start_16 ci_0 ?_
  refine k_pI hK dX10_start_17 lf_X10_25 rfl rfl rfl (sc_78 hs) ?_
  refine k_ld hK 0 dX10_start_20 rfl rfl rfl rfl ?_
  refine k_ic hK dX10_start_21 ci_0 ?_
  refine k_pI hK dX10_start_22 lf_X10_28 rfl rfl rfl (sc_78 hs) ?_
  refine k_ld hK 0 dX10_start_25 rfl rfl rfl rfl ?_
  refine k_ic hK dX10_start_26 ci_m1 ?_
  refine k_pI hK dX10_start_27 lf_X10_31 rfl rfl rfl (sc_78 hs) ?_
  refine k_ld hK 0 dX10_start_30 rfl rfl rfl rfl ?_
  refine k_ic hK dX10_start_31 ci_m1 ?_
  refine k_pI hK dX10_start_32 lf_X10_34 rfl rfl rfl (sc_78 hs) ?_
  refine k_ld hK 0 dX10_start_35 rfl rfl rfl rfl ?_
  refine k_ic hK dX10_start_36 ci_m1 ?_
  refine k_pI hK dX10_start_37 lf_X10_37 rfl rfl rfl (sc_78 hs) ?_
  exact k_vret hK dX10_start_40 rfl (done_0 rfl rfl) (qC_i hF)
theorem e_X10_start {d : Nat} {Q : Unit → HI → Prop} {I : HI} {J : HJ} {R : HR} {x1 : Int32} (hs : Stat R)  (hF : Q () (up (up (up (up (up (up (up (up I 78 0 x1) 78 1 0) 78 2 0) 78 3 0) 78 4 0) 78 5 (-1)) 78 6 (-1)) 78 7 (-1))) : Wc fv (d + 1) M_X10_start [.ref 78, .int x1] I J R Q := ⟨Nat.le_of_ble_eq_true rfl, fun K hK => g_X10_start_0 hK hs hF⟩
set_option maxHeartbeats 4000000 in
theorem g_X10_lay_0 {d : Nat} {K : KT} {Q : Unit → HI → Prop} {I : HI} {J : HJ} {R : HR} {x1 : Int32} {x2 : Int32} {x3 : Int32} (hK : am_R M_X10_lay (am_W d) none R (qC fv J R Q) K) (hs : Stat R)  (hF : K 6 [(0, .ref 78), (1, .int x1), (3, .int x3), (4, .int x2), (5, .int 0)] [] I J R) : K 0 [(0, .ref 78), (1, .int x1), (2, .int x2), (3, .int x3)] [] I J R := by
  refine k_ld hK 2 dX10_lay_0 rfl rfl rfl rfl ?_
  refine k_st hK dX10_lay_1 rfl rfl rfl (Nat.le_of_ble_eq_true rfl) rfl ?_
  refine k_ic hK dX10_lay_3 ci_0 ?_
  refine k_st hK dX10_lay_4 rfl rfl rfl (Nat.le_of_ble_eq_true rfl) rfl ?_
  exact k_sub hK [2, 3, 5, 1, 0] rfl hF
set_option maxHeartbeats 4000000 in
theorem g_X10_lay_6 {d : Nat} {K : KT} {Q : Unit → HI → Prop} {I : HI} {J : HJ} {R : HR} {x1 : Int32} {x3 : Int32} {x4 : Int32} {x5 : Int32} (hK : am_R M_X10_lay (am_W d) none R (qC fv J R Q) K) (hs : Stat R)  (hF : ((60 ≤ x5 → K 90 [(0, .ref 78), (1, .int x1), (5, .int (x4 - 1))] [] I J R) ∧ (¬ 60 ≤ x5 → ((x3 ≤ 0 → K 90 [(0, .ref 78), (1, .int x1), (5, .int (x4 - 1))] [] I J R) ∧ (¬ x3 ≤ 0 → (((x4 - x1) ≤ 1 → K 90 [(0, .ref 78), (1, .int x1), (5, .int (x4 - 1))] [] I J R) ∧ (¬ (x4 - x1) ≤ 1 → Wp fi d M_X10_firstCut [.int (x4 - x1), .int x3] I J R (fun r4 => Wc fv d M_X10_add [.ref 78, .int 0, .int x1, .int (x1 + r4)] I J R (fun u5 I6 => Wc fv d M_X10_add [.ref 78, .int 1, .int (x1 + r4), .int (x1 + r4)] I6 J R (fun u7 I8 => Wc fv d M_X10_lay [.ref 78, .int (x1 + r4), .int x4, .int (x3 - 1)] I8 J R (fun u9 I10 => Wc fv d M_X10_add [.ref 78, .int 3, .int (x1 + r4), .int (x1 + r4)] I10 J R (fun u11 I12 => K 6 [(0, .ref 78), (1, .int x1), (3, .int x3), (4, .int (x1 + r4)), (5, .int (x5 + 1))] [] I12 J R)))))))))))) : K 6 [(0, .ref 78), (1, .int x1), (3, .int x3), (4, .int x4), (5, .int x5)] [] I J R := by
  refine k_ld hK 4 dX10_lay_6 rfl rfl rfl rfl ?_
  refine k_bi hK dX10_lay_8 cb_60 ?_
  refine k_cge hK dX10_lay_10 (tgt := 84) rfl (fun h1 => ?_) (fun h1 => ?_)
  · have hF := hF.1 h1
    refine k_ld hK 3 dX10_lay_84 rfl rfl rfl rfl ?_
    refine k_ic hK dX10_lay_86 ci_1 ?_
    refine k_op hK dX10_lay_87 rfl rfl ?_
    refine k_st hK dX10_lay_88 rfl rfl rfl (Nat.le_of_ble_eq_true rfl) rfl ?_
    exact k_sub hK [1, 2, 0] rfl hF
  · have hF := hF.2 h1
    refine k_ld hK 2 dX10_lay_13 rfl rfl rfl rfl ?_
    refine k_le hK dX10_lay_14 (tgt := 84) rfl (fun h2 => ?_) (fun h2 => ?_)
    · have hF := hF.1 h2
      refine k_ld hK 3 dX10_lay_84 rfl rfl rfl rfl ?_
      refine k_ic hK dX10_lay_86 ci_1 ?_
      refine k_op hK dX10_lay_87 rfl rfl ?_
      refine k_st hK dX10_lay_88 rfl rfl rfl (Nat.le_of_ble_eq_true rfl) rfl ?_
      exact k_sub hK [1, 2, 0] rfl hF
    · have hF := hF.2 h2
      refine k_ld hK 3 dX10_lay_17 rfl rfl rfl rfl ?_
      refine k_ld hK 1 dX10_lay_19 rfl rfl rfl rfl ?_
      refine k_op hK dX10_lay_20 rfl rfl ?_
      refine k_ic hK dX10_lay_21 ci_1 ?_
      refine k_cle hK dX10_lay_22 (tgt := 84) rfl (fun h3 => ?_) (fun h3 => ?_)
      · have hF := hF.1 h3
        refine k_ld hK 3 dX10_lay_84 rfl rfl rfl rfl ?_
        refine k_ic hK dX10_lay_86 ci_1 ?_
        refine k_op hK dX10_lay_87 rfl rfl ?_
        refine k_st hK dX10_lay_88 rfl rfl rfl (Nat.le_of_ble_eq_true rfl) rfl ?_
        exact k_sub hK [1, 2, 0] rfl hF
      · have hF := hF.2 h3
        refine k_ld hK 1 dX10_lay_25 rfl rfl rfl rfl ?_
        refine k_ld hK 3 dX10_lay_26 rfl rfl rfl rfl ?_
        refine k_ld hK 1 dX10_lay_28 rfl rfl rfl rfl ?_
        refine k_op hK dX10_lay_29 rfl rfl ?_
        refine k_ld hK 2 dX10_lay_30 rfl rfl rfl rfl ?_
        refine k_cSp hK dX10_lay_31 lm_X10_40 (As := [.int (x4 - x1), .int x3]) (S := [.int x1]) rfl (Nat.le_of_ble_eq_true rfl) (fit_0 rfl rfl) rfl hF (fun r4 hF => ?_)
        show K _ _ [.int r4, .int x1] _ _ _
        refine k_op hK dX10_lay_34 rfl rfl ?_
        refine k_st hK dX10_lay_35 rfl rfl rfl (Nat.le_of_ble_eq_true rfl) rfl ?_
        refine k_ld hK 1 dX10_lay_37 rfl rfl rfl rfl ?_
        refine k_ic hK dX10_lay_38 ci_0 ?_
        refine k_ld hK 2 dX10_lay_39 rfl rfl rfl rfl ?_
        refine k_ld hK 0 dX10_lay_40 rfl rfl rfl rfl ?_
        refine k_cVc hK dX10_lay_42 (Or.inl lm_X10_43) (As := [.int 0, .int x1, .int (x1 + r4)]) (S := []) rfl (sc_78 hs) (Nat.le_of_ble_eq_true rfl) (fit_0 rfl rfl) rfl hF (fun u5 I6 hF => ?_)
        show K _ _ [] _ _ _
        refine k_ld hK 1 dX10_lay_45 rfl rfl rfl rfl ?_
        refine k_ic hK dX10_lay_46 ci_1 ?_
        refine k_ld hK 0 dX10_lay_47 rfl rfl rfl rfl ?_
        refine k_ld hK 0 dX10_lay_49 rfl rfl rfl rfl ?_
        refine k_cVc hK dX10_lay_51 (Or.inl lm_X10_43) (As := [.int 1, .int (x1 + r4), .int (x1 + r4)]) (S := []) rfl (sc_78 hs) (Nat.le_of_ble_eq_true rfl) (fit_0 rfl rfl) rfl hF (fun u7 I8 hF => ?_)
        show K _ _ [] _ _ _
        refine k_ld hK 1 dX10_lay_54 rfl rfl rfl rfl ?_
        refine k_ld hK 0 dX10_lay_55 rfl rfl rfl rfl ?_
        refine k_ld hK 4 dX10_lay_57 rfl rfl rfl rfl ?_
        refine k_ld hK 3 dX10_lay_59 rfl rfl rfl rfl ?_
        refine k_ic hK dX10_lay_60 ci_1 ?_
        refine k_op hK dX10_lay_61 rfl rfl ?_
        refine k_cVc hK dX10_lay_62 (Or.inl lm_X10_47) (As := [.int (x1 + r4), .int x4, .int (x3 - 1)]) (S := []) rfl (sc_78 hs) (Nat.le_of_ble_eq_true rfl) (fit_0 rfl rfl) rfl hF (fun u9 I10 hF => ?_)
        show K _ _ [] _ _ _
        refine k_ld hK 1 dX10_lay_65 rfl rfl rfl rfl ?_
        refine k_ic hK dX10_lay_66 ci_3 ?_
        refine k_ld hK 0 dX10_lay_67 rfl rfl rfl rfl ?_
        refine k_ld hK 0 dX10_lay_69 rfl rfl rfl rfl ?_
        refine k_cVc hK dX10_lay_71 (Or.inl lm_X10_43) (As := [.int 3, .int (x1 + r4), .int (x1 + r4)]) (S := []) rfl (sc_78 hs) (Nat.le_of_ble_eq_true rfl) (fit_0 rfl rfl) rfl hF (fun u11 I12 hF => ?_)
        show K _ _ [] _ _ _
        refine k_ld hK 0 dX10_lay_74 rfl rfl rfl rfl ?_
        refine k_st hK dX10_lay_76 rfl rfl rfl (Nat.le_of_ble_eq_true rfl) rfl ?_
        refine k_iinc hK 5 dX10_lay_78 (v := (x5 + 1)) rfl (Nat.le_of_ble_eq_true rfl) (congrArg (fun q => x5 + q) ci_1) rfl ?_
        refine k_goto hK dX10_lay_81 (tgt := 6) rfl ?_
        exact k_sub hK [3, 4, 5, 1, 0] rfl hF
set_option maxHeartbeats 4000000 in
theorem g_X10_lay_90 {d : Nat} {K : KT} {Q : Unit → HI → Prop} {I : HI} {J : HJ} {R : HR} {x1 : Int32} {x5 : Int32} (hK : am_R M_X10_lay (am_W d) none R (qC fv J R Q) K) (hs : Stat R)  (hF : ((x5 < x1 → Q () I) ∧ (¬ x5 < x1 → ((x5 ≤ x1 → Wc fv d M_X10_add [.ref 78, .int 2, .int x5, .int x5] I J R (fun u3 I4 => K 90 [(0, .ref 78), (1, .int x1), (5, .int (x5 + (-1)))] [] I4 J R)) ∧ (¬ x5 ≤ x1 → Wc fv d M_X10_add [.ref 78, .int 0, .int x1, .int x5] I J R (fun u5 I6 => Wc fv d M_X10_add [.ref 78, .int 2, .int x5, .int x5] I6 J R (fun u7 I8 => K 90 [(0, .ref 78), (1, .int x1), (5, .int (x5 + (-1)))] [] I8 J R))))))) : K 90 [(0, .ref 78), (1, .int x1), (5, .int x5)] [] I J R := by
  refine k_ld hK 2 dX10_lay_90 rfl rfl rfl rfl ?_
  refine k_ld hK 1 dX10_lay_92 rfl rfl rfl rfl ?_
  refine k_clt hK dX10_lay_93 (tgt := 125) rfl (fun h1 => ?_) (fun h1 => ?_)
  · have hF := hF.1 h1
    exact k_vret hK dX10_lay_125 rfl (done_0 rfl rfl) (qC_i hF)
  · have hF := hF.2 h1
    refine k_ld hK 2 dX10_lay_96 rfl rfl rfl rfl ?_
    refine k_ld hK 1 dX10_lay_98 rfl rfl rfl rfl ?_
    refine k_cle hK dX10_lay_99 (tgt := 110) rfl (fun h2 => ?_) (fun h2 => ?_)
    · have hF := hF.1 h2
      refine k_ld hK 0 dX10_lay_110 rfl rfl rfl rfl ?_
      refine k_ic hK dX10_lay_111 ci_2 ?_
      refine k_ld hK 2 dX10_lay_112 rfl rfl rfl rfl ?_
      refine k_ld hK 2 dX10_lay_114 rfl rfl rfl rfl ?_
      refine k_cVc hK dX10_lay_116 (Or.inl lm_X10_43) (As := [.int 2, .int x5, .int x5]) (S := []) rfl (sc_78 hs) (Nat.le_of_ble_eq_true rfl) (fit_0 rfl rfl) rfl hF (fun u3 I4 hF => ?_)
      show K _ _ [] _ _ _
      refine k_iinc hK 2 dX10_lay_119 (v := (x5 + (-1))) rfl (Nat.le_of_ble_eq_true rfl) (congrArg (fun q => x5 + q) ci_m1) rfl ?_
      refine k_goto hK dX10_lay_122 (tgt := 90) rfl ?_
      exact k_sub hK [1, 2, 0] rfl hF
    · have hF := hF.2 h2
      refine k_ld hK 0 dX10_lay_102 rfl rfl rfl rfl ?_
      refine k_ic hK dX10_lay_103 ci_0 ?_
      refine k_ld hK 1 dX10_lay_104 rfl rfl rfl rfl ?_
      refine k_ld hK 2 dX10_lay_105 rfl rfl rfl rfl ?_
      refine k_cVc hK dX10_lay_107 (Or.inl lm_X10_43) (As := [.int 0, .int x1, .int x5]) (S := []) rfl (sc_78 hs) (Nat.le_of_ble_eq_true rfl) (fit_0 rfl rfl) rfl hF (fun u5 I6 hF => ?_)
      show K _ _ [] _ _ _
      refine k_ld hK 0 dX10_lay_110 rfl rfl rfl rfl ?_
      refine k_ic hK dX10_lay_111 ci_2 ?_
      refine k_ld hK 2 dX10_lay_112 rfl rfl rfl rfl ?_
      refine k_ld hK 2 dX10_lay_114 rfl rfl rfl rfl ?_
      refine k_cVc hK dX10_lay_116 (Or.inl lm_X10_43) (As := [.int 2, .int x5, .int x5]) (S := []) rfl (sc_78 hs) (Nat.le_of_ble_eq_true rfl) (fit_0 rfl rfl) rfl hF (fun u7 I8 hF => ?_)
      show K _ _ [] _ _ _
      refine k_iinc hK 2 dX10_lay_119 (v := (x5 + (-1))) rfl (Nat.le_of_ble_eq_true rfl) (congrArg (fun q => x5 + q) ci_m1) rfl ?_
      refine k_goto hK dX10_lay_122 (tgt := 90) rfl ?_
      exact k_sub hK [1, 2, 0] rfl hF
set_option maxHeartbeats 4000000 in
theorem g_X10_add_0 {d : Nat} {K : KT} {Q : Unit → HI → Prop} {I : HI} {J : HJ} {R : HR} {x1 : Int32} {x2 : Int32} {x3 : Int32} (hK : am_R M_X10_add (am_W d) none R (qC fv J R Q) K) (hs : Stat R)  (hF : ((¬ (I 78 1) = (I 78 0) → K 26 [(0, .ref 78), (1, .int x1), (2, .int x2), (3, .int x3)] [] I J R) ∧ ((I 78 1) = (I 78 0) → K 26 [(0, .ref 78), (1, .int x1), (2, .int x2), (3, .int x3)] [] (up (up (up I 78 5 x1) 78 6 x2) 78 7 x3) J R))) : K 0 [(0, .ref 78), (1, .int x1), (2, .int x2), (3, .int x3)] [] I J R := by
  refine k_ld hK 0 dX10_add_0 rfl rfl rfl rfl ?_
  refine k_gI hK dX10_add_1 lf_X10_19 rfl (sc_78 hs) rfl ?_
  refine k_ld hK 0 dX10_add_4 rfl rfl rfl rfl ?_
  refine k_gI hK dX10_add_5 lf_X10_15 rfl (sc_78 hs) rfl ?_
  refine k_cne hK dX10_add_8 (tgt := 26) rfl (fun h1 => ?_) (fun h1 => ?_)
  · have hF := hF.1 h1
    exact k_sub hK [0, 1, 2, 3] rfl hF
  · have hF := hF.2 h1
    refine k_ld hK 0 dX10_add_11 rfl rfl rfl rfl ?_
    refine k_ld hK 1 dX10_add_12 rfl rfl rfl rfl ?_
    refine k_pI hK dX10_add_13 lf_X10_31 rfl rfl rfl (sc_78 hs) ?_
    refine k_ld hK 0 dX10_add_16 rfl rfl rfl rfl ?_
    refine k_ld hK 2 dX10_add_17 rfl rfl rfl rfl ?_
    refine k_pI hK dX10_add_18 lf_X10_34 rfl rfl rfl (sc_78 hs) ?_
    refine k_ld hK 0 dX10_add_21 rfl rfl rfl rfl ?_
    refine k_ld hK 3 dX10_add_22 rfl rfl rfl rfl ?_
    refine k_pI hK dX10_add_23 lf_X10_37 rfl rfl rfl (sc_78 hs) ?_
    exact k_sub hK [0, 1, 2, 3] rfl hF
set_option maxHeartbeats 4000000 in
theorem g_X10_add_26 {d : Nat} {K : KT} {Q : Unit → HI → Prop} {I : HI} {J : HJ} {R : HR} {x1 : Int32} {x2 : Int32} {x3 : Int32} (hK : am_R M_X10_add (am_W d) none R (qC fv J R Q) K) (hs : Stat R)  (hF : ((¬ x1 = 1 → ((¬ x1 = 3 → Q () (up (up (up (up I 78 1 ((I 78 1) + 1)) 78 2 ((I 78 2) + (x3 - x2))) 78 3 ((I 78 3) + 0)) 78 4 (if (I 78 4) < ((I 78 3) + 0) then ((I 78 3) + 0) else (I 78 4)))) ∧ (x1 = 3 → Q () (up (up (up (up I 78 1 ((I 78 1) + 1)) 78 2 ((I 78 2) + (x3 - x2))) 78 3 ((I 78 3) + (-1))) 78 4 (if (I 78 4) < ((I 78 3) + (-1)) then ((I 78 3) + (-1)) else (I 78 4)))))) ∧ (x1 = 1 → Q () (up (up (up (up I 78 1 ((I 78 1) + 1)) 78 2 ((I 78 2) + (x3 - x2))) 78 3 ((I 78 3) + 1)) 78 4 (if (I 78 4) < ((I 78 3) + 1) then ((I 78 3) + 1) else (I 78 4)))))) : K 26 [(0, .ref 78), (1, .int x1), (2, .int x2), (3, .int x3)] [] I J R := by
  refine k_ld hK 0 dX10_add_26 rfl rfl rfl rfl ?_
  refine k_op hK dX10_add_27 rfl rfl ?_
  refine k_gI hK dX10_add_28 lf_X10_19 rfl (sc_78 hs) rfl ?_
  refine k_ic hK dX10_add_31 ci_1 ?_
  refine k_op hK dX10_add_32 rfl rfl ?_
  refine k_pI hK dX10_add_33 lf_X10_19 rfl rfl rfl (sc_78 hs) ?_
  refine k_ld hK 0 dX10_add_36 rfl rfl rfl rfl ?_
  refine k_op hK dX10_add_37 rfl rfl ?_
  refine k_gI hK dX10_add_38 lf_X10_22 rfl (sc_78 hs) ((up_nk (by decide)).trans rfl) ?_
  refine k_ld hK 3 dX10_add_41 rfl rfl rfl rfl ?_
  refine k_ld hK 2 dX10_add_42 rfl rfl rfl rfl ?_
  refine k_op hK dX10_add_43 rfl rfl ?_
  refine k_op hK dX10_add_44 rfl rfl ?_
  refine k_pI hK dX10_add_45 lf_X10_22 rfl rfl rfl (sc_78 hs) ?_
  refine k_ld hK 0 dX10_add_48 rfl rfl rfl rfl ?_
  refine k_op hK dX10_add_49 rfl rfl ?_
  refine k_gI hK dX10_add_50 lf_X10_25 rfl (sc_78 hs) ((up_nk (by decide)).trans ((up_nk (by decide)).trans rfl)) ?_
  refine k_ld hK 1 dX10_add_53 rfl rfl rfl rfl ?_
  refine k_ic hK dX10_add_54 ci_1 ?_
  refine k_cne hK dX10_add_55 (tgt := 62) rfl (fun h1 => ?_) (fun h1 => ?_)
  · have hF := hF.1 h1
    refine k_ld hK 1 dX10_add_62 rfl rfl rfl rfl ?_
    refine k_ic hK dX10_add_63 ci_3 ?_
    refine k_cne hK dX10_add_64 (tgt := 71) rfl (fun h2 => ?_) (fun h2 => ?_)
    · have hF := hF.1 h2
      refine k_ic hK dX10_add_71 ci_0 ?_
      refine k_op hK dX10_add_72 rfl rfl ?_
      refine k_pI hK dX10_add_73 lf_X10_25 rfl rfl rfl (sc_78 hs) ?_
      refine k_ld hK 0 dX10_add_76 rfl rfl rfl rfl ?_
      refine k_ld hK 0 dX10_add_77 rfl rfl rfl rfl ?_
      refine k_gI hK dX10_add_78 lf_X10_28 rfl (sc_78 hs) ((up_nk (by decide)).trans ((up_nk (by decide)).trans ((up_nk (by decide)).trans rfl))) ?_
      refine k_ld hK 0 dX10_add_81 rfl rfl rfl rfl ?_
      refine k_gI hK dX10_add_82 lf_X10_25 rfl (sc_78 hs) up_s ?_
      refine k_max hK dX10_add_85 lx_X10_50 lmath_max_1 lmath_0 lmath_max_2 (Nat.le_of_ble_eq_true rfl) (Nat.le_add_right _ _) (Nat.le_add_right _ _) ?_
      refine k_pI hK dX10_add_88 lf_X10_28 rfl rfl rfl (sc_78 hs) ?_
      exact k_vret hK dX10_add_91 rfl (done_0 rfl rfl) (qC_i hF)
    · have hF := hF.2 h2
      refine k_ic hK dX10_add_67 ci_m1 ?_
      refine k_goto hK dX10_add_68 (tgt := 72) rfl ?_
      refine k_op hK dX10_add_72 rfl rfl ?_
      refine k_pI hK dX10_add_73 lf_X10_25 rfl rfl rfl (sc_78 hs) ?_
      refine k_ld hK 0 dX10_add_76 rfl rfl rfl rfl ?_
      refine k_ld hK 0 dX10_add_77 rfl rfl rfl rfl ?_
      refine k_gI hK dX10_add_78 lf_X10_28 rfl (sc_78 hs) ((up_nk (by decide)).trans ((up_nk (by decide)).trans ((up_nk (by decide)).trans rfl))) ?_
      refine k_ld hK 0 dX10_add_81 rfl rfl rfl rfl ?_
      refine k_gI hK dX10_add_82 lf_X10_25 rfl (sc_78 hs) up_s ?_
      refine k_max hK dX10_add_85 lx_X10_50 lmath_max_1 lmath_0 lmath_max_2 (Nat.le_of_ble_eq_true rfl) (Nat.le_add_right _ _) (Nat.le_add_right _ _) ?_
      refine k_pI hK dX10_add_88 lf_X10_28 rfl rfl rfl (sc_78 hs) ?_
      exact k_vret hK dX10_add_91 rfl (done_0 rfl rfl) (qC_i hF)
  · have hF := hF.2 h1
    refine k_ic hK dX10_add_58 ci_1 ?_
    refine k_goto hK dX10_add_59 (tgt := 72) rfl ?_
    refine k_op hK dX10_add_72 rfl rfl ?_
    refine k_pI hK dX10_add_73 lf_X10_25 rfl rfl rfl (sc_78 hs) ?_
    refine k_ld hK 0 dX10_add_76 rfl rfl rfl rfl ?_
    refine k_ld hK 0 dX10_add_77 rfl rfl rfl rfl ?_
    refine k_gI hK dX10_add_78 lf_X10_28 rfl (sc_78 hs) ((up_nk (by decide)).trans ((up_nk (by decide)).trans ((up_nk (by decide)).trans rfl))) ?_
    refine k_ld hK 0 dX10_add_81 rfl rfl rfl rfl ?_
    refine k_gI hK dX10_add_82 lf_X10_25 rfl (sc_78 hs) up_s ?_
    refine k_max hK dX10_add_85 lx_X10_50 lmath_max_1 lmath_0 lmath_max_2 (Nat.le_of_ble_eq_true rfl) (Nat.le_add_right _ _) (Nat.le_add_right _ _) ?_
    refine k_pI hK dX10_add_88 lf_X10_28 rfl rfl rfl (sc_78 hs) ?_
    exact k_vret hK dX10_add_91 rfl (done_0 rfl rfl) (qC_i hF)
set_option maxHeartbeats 4000000 in
theorem g_J7_fill_53178_0 {d : Nat} {K : KT} {Q : Unit → HI → Prop} {I : HI} {J : HJ} {R : HR} {a0 : Nat} {N : Nat} {x1 : Int32} (hK : am_R M_J7_fill_53178 (am_W d) none R (qC fv J R Q) K) (hs : Stat R) (h_a0 : am_is R a0 13) (l_a0 : (am_T a0).2 = N) (hN : N ≤ 10000) (hF : K 5 [(0, .ref a0), (1, .int x1), (2, .int 0), (3, .int (nI N))] [] I J R) : K 0 [(0, .ref a0), (1, .int x1)] [] I J R := by
  refine k_ic hK dJ7_fill_53178_0 ci_0 ?_
  refine k_st hK dJ7_fill_53178_1 rfl rfl rfl (Nat.le_of_ble_eq_true rfl) rfl ?_
  refine k_ld hK 1 dJ7_fill_53178_2 rfl rfl rfl rfl ?_
  refine k_alen hK dJ7_fill_53178_3 (Or.inr h_a0) l_a0 (v := nI N) rfl ?_
  refine k_st hK dJ7_fill_53178_4 rfl rfl rfl (Nat.le_of_ble_eq_true rfl) rfl ?_
  exact k_sub hK [2, 3, 1, 0] rfl hF
set_option maxHeartbeats 4000000 in
theorem g_J7_fill_53178_5 {d : Nat} {K : KT} {Q : Unit → HI → Prop} {I : HI} {J : HJ} {R : HR} {a0 : Nat} {N : Nat} {x1 : Int32} {x2 : Int32} {x3 : Int32} (hK : am_R M_J7_fill_53178 (am_W d) none R (qC fv J R Q) K) (hs : Stat R) (h_a0 : am_is R a0 13) (l_a0 : (am_T a0).2 = N) (hN : N ≤ 10000) (hF : ((x3 ≤ x2 → Q () I) ∧ (¬ x3 ≤ x2 → (∃ n2 : Nat, x2 = nI n2 ∧ n2 < N ∧ K 5 [(0, .ref a0), (1, .int x1), (2, .int (x2 + 1)), (3, .int x3)] [] (up I a0 n2 x1) J R)))) : K 5 [(0, .ref a0), (1, .int x1), (2, .int x2), (3, .int x3)] [] I J R := by
  refine k_ld hK 2 dJ7_fill_53178_5 rfl rfl rfl rfl ?_
  refine k_ld hK 3 dJ7_fill_53178_6 rfl rfl rfl rfl ?_
  refine k_cge hK dJ7_fill_53178_7 (tgt := 20) rfl (fun h1 => ?_) (fun h1 => ?_)
  · have hF := hF.1 h1
    exact k_vret hK dJ7_fill_53178_20 rfl (done_0 rfl rfl) (qC_i hF)
  · have hF := hF.2 h1
    refine k_ld hK 0 dJ7_fill_53178_10 rfl rfl rfl rfl ?_
    refine k_ld hK 2 dJ7_fill_53178_11 rfl rfl rfl rfl ?_
    refine k_ld hK 1 dJ7_fill_53178_12 rfl rfl rfl rfl ?_
    obtain ⟨n2, i3, j4, hF⟩ := hF
    refine k_iast hK dJ7_fill_53178_13 h_a0 l_a0 hN i3 j4 ?_
    refine k_iinc hK 2 dJ7_fill_53178_14 (v := (x2 + 1)) rfl (Nat.le_of_ble_eq_true rfl) (congrArg (fun q => x2 + q) ci_1) rfl ?_
    refine k_goto hK dJ7_fill_53178_17 (tgt := 5) rfl ?_
    exact k_sub hK [1, 2, 0, 3] rfl hF
