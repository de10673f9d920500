/-! PRINTED BY wip/whole/gen_init2.py: the reference's own constructor calls freshText, begins (runs, clears) while 121 cells stand -/
def Sta1 (R : HR) : Prop := R 1000 0 = some 121 ∧ stab.all (fun q => decide (R q.1 q.2.1 = some q.2.2)) = true
theorem Sta1.n {R : HR} (h : Sta1 R) : am_n R = 121 := by simp [am_n, h.1]
theorem Sta1.get {R : HR} (h : Sta1 R) {a k v : Nat} (hm : stab.contains (a, k, v) = true) : R a k = some v := by
  have h1 := List.all_eq_true.mp h.2 (a, k, v) (by simpa using hm)
  simpa using h1
theorem Sta1.is {R : HR} (h : Sta1 R) {a k : Nat} (hm : (decide (a < 121) && decide ((am_T a).1 = k)) = true) : am_is R a k := by
  simp only [Bool.and_eq_true, decide_eq_true_eq] at hm
  exact ⟨by rw [h.n]; exact hm.1, hm.2⟩
theorem sd_80 {R : HR} (hs : Sta1 R) : am_is R 80 11 := hs.is (by decide +kernel)
theorem sd_84 {R : HR} (hs : Sta1 R) : am_is R 84 13 := hs.is (by decide +kernel)
theorem sd_85 {R : HR} (hs : Sta1 R) : am_is R 85 13 := hs.is (by decide +kernel)
theorem sd_86 {R : HR} (hs : Sta1 R) : am_is R 86 13 := hs.is (by decide +kernel)
theorem sd_87 {R : HR} (hs : Sta1 R) : am_is R 87 13 := hs.is (by decide +kernel)
theorem sd_88 {R : HR} (hs : Sta1 R) : am_is R 88 13 := hs.is (by decide +kernel)
theorem sd_91 {R : HR} (hs : Sta1 R) : am_is R 91 14 := hs.is (by decide +kernel)
theorem sd_101 {R : HR} (hs : Sta1 R) : am_is R 101 14 := hs.is (by decide +kernel)
theorem sd_102 {R : HR} (hs : Sta1 R) : am_is R 102 13 := hs.is (by decide +kernel)
theorem sd_103 {R : HR} (hs : Sta1 R) : am_is R 103 14 := hs.is (by decide +kernel)
theorem sd_104 {R : HR} (hs : Sta1 R) : am_is R 104 13 := hs.is (by decide +kernel)
theorem se_80_17 {R : HR} (hs : Sta1 R) : R 80 17 = some 84 := hs.get (by decide +kernel)
theorem se_80_18 {R : HR} (hs : Sta1 R) : R 80 18 = some 85 := hs.get (by decide +kernel)
theorem se_80_21 {R : HR} (hs : Sta1 R) : R 80 21 = some 86 := hs.get (by decide +kernel)
theorem se_80_22 {R : HR} (hs : Sta1 R) : R 80 22 = some 87 := hs.get (by decide +kernel)
theorem se_80_23 {R : HR} (hs : Sta1 R) : R 80 23 = some 88 := hs.get (by decide +kernel)
theorem se_80_36 {R : HR} (hs : Sta1 R) : R 80 36 = some 91 := hs.get (by decide +kernel)
theorem se_80_48 {R : HR} (hs : Sta1 R) : R 80 48 = some 101 := hs.get (by decide +kernel)
theorem se_80_49 {R : HR} (hs : Sta1 R) : R 80 49 = some 102 := hs.get (by decide +kernel)
theorem se_80_50 {R : HR} (hs : Sta1 R) : R 80 50 = some 103 := hs.get (by decide +kernel)
theorem se_80_51 {R : HR} (hs : Sta1 R) : R 80 51 = some 104 := hs.get (by decide +kernel)
set_option maxHeartbeats 4000000 in
theorem ng_X12_freshText_0 {d : Nat} {K : KT} {Q : Unit → HI → Prop} {I : HI} {J : HJ} {R : HR}  (hK : am_R M_X12_freshText (am_W d) none R (qC fv J R Q) K) (hs : Sta1 R)  (hF : Q () (up (up (up (up (up (up (up (up I 80 3 0) 80 14 0) 80 15 0) 80 19 0) 80 20 0) 80 24 0) 80 27 0) 80 28 0)) : K 0 [(0, .ref 80)] [] I J R := by
  refine k_ld hK 0 dX12_freshText_0 rfl rfl rfl rfl ?_
  refine k_ic hK dX12_freshText_1 ci_0 ?_
  refine k_pI hK dX12_freshText_2 lf_X12_305 rfl rfl rfl (sd_80 hs) ?_
  refine k_ld hK 0 dX12_freshText_5 rfl rfl rfl rfl ?_
  refine k_ic hK dX12_freshText_6 ci_0 ?_
  refine k_pI hK dX12_freshText_7 lf_X12_205 rfl rfl rfl (sd_80 hs) ?_
  refine k_ld hK 0 dX12_freshText_10 rfl rfl rfl rfl ?_
  refine k_ic hK dX12_freshText_11 ci_0 ?_
  refine k_pI hK dX12_freshText_12 lf_X12_229 rfl rfl rfl (sd_80 hs) ?_
  refine k_ld hK 0 dX12_freshText_15 rfl rfl rfl rfl ?_
  refine k_ic hK dX12_freshText_16 ci_0 ?_
  refine k_pI hK dX12_freshText_17 lf_X12_208 rfl rfl rfl (sd_80 hs) ?_
  refine k_ld hK 0 dX12_freshText_20 rfl rfl rfl rfl ?_
  refine k_ic hK dX12_freshText_21 ci_0 ?_
  refine k_pI hK dX12_freshText_22 lf_X12_239 rfl rfl rfl (sd_80 hs) ?_
  refine k_ld hK 0 dX12_freshText_25 rfl rfl rfl rfl ?_
  refine k_ic hK dX12_freshText_26 ci_0 ?_
  refine k_pI hK dX12_freshText_27 lf_X12_202 rfl rfl rfl (sd_80 hs) ?_
  refine k_ld hK 0 dX12_freshText_30 rfl rfl rfl rfl ?_
  refine k_ic hK dX12_freshText_31 ci_0 ?_
  refine k_pI hK dX12_freshText_32 lf_X12_276 rfl rfl rfl (sd_80 hs) ?_
  refine k_ld hK 0 dX12_freshText_35 rfl rfl rfl rfl ?_
  refine k_ic hK dX12_freshText_36 ci_0 ?_
  refine k_pI hK dX12_freshText_37 lf_X12_225 rfl rfl (by decide) (sd_80 hs) ?_
  exact k_vret hK dX12_freshText_40 rfl (done_0 rfl rfl) (qC_i hF)
theorem ne_X12_freshText {d : Nat} {Q : Unit → HI → Prop} {I : HI} {J : HJ} {R : HR}  (hs : Sta1 R)  (hF : Q () (up (up (up (up (up (up (up (up I 80 3 0) 80 14 0) 80 15 0) 80 19 0) 80 20 0) 80 24 0) 80 27 0) 80 28 0)) : Wc fv (d + 1) M_X12_freshText [.ref 80] I J R Q := ⟨Nat.le_of_ble_eq_true rfl, fun K hK => ng_X12_freshText_0 hK hs hF⟩
set_option maxHeartbeats 4000000 in
theorem ng_X12_begins_0 {d : Nat} {K : KT} {Q : Unit → HI → HJ → Prop} {I : HI} {J : HJ} {R : HR}  (hK : am_R M_X12_begins (am_W d) none R (qD fv R Q) K) (hs : Sta1 R)  (hF : K 50 [(0, .ref 80), (1, .int 0)] [] (up (up (up (up (up (up I 80 30 (I 80 3)) 80 31 (I 80 15)) 80 32 (I 80 14)) 80 33 (I 80 19)) 80 34 (I 80 20)) 80 35 (I 80 24)) J R) : K 0 [(0, .ref 80)] [] I J R := by
  refine k_ld hK 0 dX12_begins_0 rfl rfl rfl rfl ?_
  refine k_ld hK 0 dX12_begins_1 rfl rfl rfl rfl ?_
  refine k_gI hK dX12_begins_2 lf_X12_305 rfl (sd_80 hs) rfl ?_
  refine k_pI hK dX12_begins_5 lf_X12_311 rfl rfl rfl (sd_80 hs) ?_
  refine k_ld hK 0 dX12_begins_8 rfl rfl rfl rfl ?_
  refine k_ld hK 0 dX12_begins_9 rfl rfl rfl rfl ?_
  refine k_gI hK dX12_begins_10 lf_X12_229 rfl (sd_80 hs) ((up_nk (by decide)).trans rfl) ?_
  refine k_pI hK dX12_begins_13 lf_X12_314 rfl rfl rfl (sd_80 hs) ?_
  refine k_ld hK 0 dX12_begins_16 rfl rfl rfl rfl ?_
  refine k_ld hK 0 dX12_begins_17 rfl rfl rfl rfl ?_
  refine k_gI hK dX12_begins_18 lf_X12_205 rfl (sd_80 hs) ((up_nk (by decide)).trans ((up_nk (by decide)).trans rfl)) ?_
  refine k_pI hK dX12_begins_21 lf_X12_317 rfl rfl rfl (sd_80 hs) ?_
  refine k_ld hK 0 dX12_begins_24 rfl rfl rfl rfl ?_
  refine k_ld hK 0 dX12_begins_25 rfl rfl rfl rfl ?_
  refine k_gI hK dX12_begins_26 lf_X12_208 rfl (sd_80 hs) ((up_nk (by decide)).trans ((up_nk (by decide)).trans ((up_nk (by decide)).trans rfl))) ?_
  refine k_pI hK dX12_begins_29 lf_X12_320 rfl rfl rfl (sd_80 hs) ?_
  refine k_ld hK 0 dX12_begins_32 rfl rfl rfl rfl ?_
  refine k_ld hK 0 dX12_begins_33 rfl rfl rfl rfl ?_
  refine k_gI hK dX12_begins_34 lf_X12_239 rfl (sd_80 hs) ((up_nk (by decide)).trans ((up_nk (by decide)).trans ((up_nk (by decide)).trans ((up_nk (by decide)).trans rfl)))) ?_
  refine k_pI hK dX12_begins_37 lf_X12_323 rfl rfl rfl (sd_80 hs) ?_
  refine k_ld hK 0 dX12_begins_40 rfl rfl rfl rfl ?_
  refine k_ld hK 0 dX12_begins_41 rfl rfl rfl rfl ?_
  refine k_gI hK dX12_begins_42 lf_X12_202 rfl (sd_80 hs) ((up_nk (by decide)).trans ((up_nk (by decide)).trans ((up_nk (by decide)).trans ((up_nk (by decide)).trans ((up_nk (by decide)).trans rfl))))) ?_
  refine k_pI hK dX12_begins_45 lf_X12_326 rfl rfl rfl (sd_80 hs) ?_
  refine k_ic hK dX12_begins_48 ci_0 ?_
  refine k_st hK dX12_begins_49 rfl rfl rfl (Nat.le_of_ble_eq_true rfl) rfl ?_
  exact k_sub hK [1, 0] rfl hF
set_option maxHeartbeats 4000000 in
theorem ng_X12_begins_50 {d : Nat} {K : KT} {Q : Unit → HI → HJ → Prop} {I : HI} {J : HJ} {R : HR} {x1 : Int32} (hK : am_R M_X12_begins (am_W d) none R (qD fv R Q) K) (hs : Sta1 R)  (hF : (((I 80 24) ≤ x1 → K 114 [(0, .ref 80), (1, .int 0)] [] I J R) ∧ (¬ (I 80 24) ≤ x1 → (∃ n2 : Nat, (1000 + x1) = nI n2 ∧ n2 < 2000 ∧ (∃ n5 : Nat, x1 = nI n5 ∧ n5 < 2000 ∧ K 50 [(0, .ref 80), (1, .int (x1 + 1))] [] (up (up (up I 86 n5 (I 86 n2)) 87 n5 (I 87 n2)) 88 n5 (I 88 n2)) J R))))) : K 50 [(0, .ref 80), (1, .int x1)] [] I J R := by
  refine k_ld hK 1 dX12_begins_50 rfl rfl rfl rfl ?_
  refine k_ld hK 0 dX12_begins_51 rfl rfl rfl rfl ?_
  refine k_gI hK dX12_begins_52 lf_X12_202 rfl (sd_80 hs) rfl ?_
  refine k_cge hK dX12_begins_55 (tgt := 112) rfl (fun h1 => ?_) (fun h1 => ?_)
  · have hF := hF.1 h1
    refine k_ic hK dX12_begins_112 ci_0 ?_
    refine k_st hK dX12_begins_113 rfl rfl rfl (Nat.le_of_ble_eq_true rfl) rfl ?_
    exact k_sub hK [1, 0] rfl hF
  · have hF := hF.2 h1
    refine k_ld hK 0 dX12_begins_58 rfl rfl rfl rfl ?_
    refine k_gR hK dX12_begins_59 lf_X12_29 rfl (sd_80 hs) (se_80_21 hs) ?_
    refine k_ld hK 1 dX12_begins_62 rfl rfl rfl rfl ?_
    refine k_ld hK 0 dX12_begins_63 rfl rfl rfl rfl ?_
    refine k_gR hK dX12_begins_64 lf_X12_29 rfl (sd_80 hs) (se_80_21 hs) ?_
    refine k_si hK dX12_begins_67 cs_1000 ?_
    refine k_ld hK 1 dX12_begins_70 rfl rfl rfl rfl ?_
    refine k_op hK dX12_begins_71 rfl rfl ?_
    obtain ⟨n2, i3, j4, hF⟩ := hF
    refine k_iald hK dX12_begins_72 (sd_86 hs) sn_86 (by decide) i3 j4 rfl ?_
    obtain ⟨n5, i6, j7, hF⟩ := hF
    refine k_iast hK dX12_begins_73 (sd_86 hs) sn_86 (by decide) i6 j7 ?_
    refine k_ld hK 0 dX12_begins_74 rfl rfl rfl rfl ?_
    refine k_gR hK dX12_begins_75 lf_X12_32 rfl (sd_80 hs) (se_80_22 hs) ?_
    refine k_ld hK 1 dX12_begins_78 rfl rfl rfl rfl ?_
    refine k_ld hK 0 dX12_begins_79 rfl rfl rfl rfl ?_
    refine k_gR hK dX12_begins_80 lf_X12_32 rfl (sd_80 hs) (se_80_22 hs) ?_
    refine k_si hK dX12_begins_83 cs_1000 ?_
    refine k_ld hK 1 dX12_begins_86 rfl rfl rfl rfl ?_
    refine k_op hK dX12_begins_87 rfl rfl ?_
    refine k_iald hK dX12_begins_88 (sd_87 hs) sn_87 (by decide) i3 j4 ((up_na (by decide)).trans rfl) ?_
    refine k_iast hK dX12_begins_89 (sd_87 hs) sn_87 (by decide) i6 j7 ?_
    refine k_ld hK 0 dX12_begins_90 rfl rfl rfl rfl ?_
    refine k_gR hK dX12_begins_91 lf_X12_35 rfl (sd_80 hs) (se_80_23 hs) ?_
    refine k_ld hK 1 dX12_begins_94 rfl rfl rfl rfl ?_
    refine k_ld hK 0 dX12_begins_95 rfl rfl rfl rfl ?_
    refine k_gR hK dX12_begins_96 lf_X12_35 rfl (sd_80 hs) (se_80_23 hs) ?_
    refine k_si hK dX12_begins_99 cs_1000 ?_
    refine k_ld hK 1 dX12_begins_102 rfl rfl rfl rfl ?_
    refine k_op hK dX12_begins_103 rfl rfl ?_
    refine k_iald hK dX12_begins_104 (sd_88 hs) sn_88 (by decide) i3 j4 ((up_na (by decide)).trans ((up_na (by decide)).trans rfl)) ?_
    refine k_iast hK dX12_begins_105 (sd_88 hs) sn_88 (by decide) i6 j7 ?_
    refine k_iinc hK 1 dX12_begins_106 (v := (x1 + 1)) rfl (Nat.le_of_ble_eq_true rfl) (congrArg (fun q => x1 + q) ci_1) rfl ?_
    refine k_goto hK dX12_begins_109 (tgt := 50) rfl ?_
    exact k_sub hK [1, 0] rfl hF
set_option maxHeartbeats 4000000 in
theorem ng_X12_begins_114 {d : Nat} {K : KT} {Q : Unit → HI → HJ → Prop} {I : HI} {J : HJ} {R : HR} {x1 : Int32} (hK : am_R M_X12_begins (am_W d) none R (qD fv R Q) K) (hs : Sta1 R)  (hF : (((I 80 19) ≤ x1 → K 160 [(0, .ref 80), (1, .int 0)] [] I J R) ∧ (¬ (I 80 19) ≤ x1 → (∃ n2 : Nat, (6 + x1) = nI n2 ∧ n2 < 12 ∧ (∃ n5 : Nat, x1 = nI n5 ∧ n5 < 12 ∧ K 114 [(0, .ref 80), (1, .int (x1 + 1))] [] (up (up I 84 n5 (I 84 n2)) 85 n5 (I 85 n2)) J R))))) : K 114 [(0, .ref 80), (1, .int x1)] [] I J R := by
  refine k_ld hK 1 dX12_begins_114 rfl rfl rfl rfl ?_
  refine k_ld hK 0 dX12_begins_115 rfl rfl rfl rfl ?_
  refine k_gI hK dX12_begins_116 lf_X12_208 rfl (sd_80 hs) rfl ?_
  refine k_cge hK dX12_begins_119 (tgt := 158) rfl (fun h1 => ?_) (fun h1 => ?_)
  · have hF := hF.1 h1
    refine k_ic hK dX12_begins_158 ci_0 ?_
    refine k_st hK dX12_begins_159 rfl rfl rfl (Nat.le_of_ble_eq_true rfl) rfl ?_
    exact k_sub hK [1, 0] rfl hF
  · have hF := hF.2 h1
    refine k_ld hK 0 dX12_begins_122 rfl rfl rfl rfl ?_
    refine k_gR hK dX12_begins_123 lf_X12_23 rfl (sd_80 hs) (se_80_17 hs) ?_
    refine k_ld hK 1 dX12_begins_126 rfl rfl rfl rfl ?_
    refine k_ld hK 0 dX12_begins_127 rfl rfl rfl rfl ?_
    refine k_gR hK dX12_begins_128 lf_X12_23 rfl (sd_80 hs) (se_80_17 hs) ?_
    refine k_bi hK dX12_begins_131 cb_6 ?_
    refine k_ld hK 1 dX12_begins_133 rfl rfl rfl rfl ?_
    refine k_op hK dX12_begins_134 rfl rfl ?_
    obtain ⟨n2, i3, j4, hF⟩ := hF
    refine k_iald hK dX12_begins_135 (sd_84 hs) sn_84 (by decide) i3 j4 rfl ?_
    obtain ⟨n5, i6, j7, hF⟩ := hF
    refine k_iast hK dX12_begins_136 (sd_84 hs) sn_84 (by decide) i6 j7 ?_
    refine k_ld hK 0 dX12_begins_137 rfl rfl rfl rfl ?_
    refine k_gR hK dX12_begins_138 lf_X12_26 rfl (sd_80 hs) (se_80_18 hs) ?_
    refine k_ld hK 1 dX12_begins_141 rfl rfl rfl rfl ?_
    refine k_ld hK 0 dX12_begins_142 rfl rfl rfl rfl ?_
    refine k_gR hK dX12_begins_143 lf_X12_26 rfl (sd_80 hs) (se_80_18 hs) ?_
    refine k_bi hK dX12_begins_146 cb_6 ?_
    refine k_ld hK 1 dX12_begins_148 rfl rfl rfl rfl ?_
    refine k_op hK dX12_begins_149 rfl rfl ?_
    refine k_iald hK dX12_begins_150 (sd_85 hs) sn_85 (by decide) i3 j4 ((up_na (by decide)).trans rfl) ?_
    refine k_iast hK dX12_begins_151 (sd_85 hs) sn_85 (by decide) i6 j7 ?_
    refine k_iinc hK 1 dX12_begins_152 (v := (x1 + 1)) rfl (Nat.le_of_ble_eq_true rfl) (congrArg (fun q => x1 + q) ci_1) rfl ?_
    refine k_goto hK dX12_begins_155 (tgt := 114) rfl ?_
    exact k_sub hK [1, 0] rfl hF
set_option maxHeartbeats 4000000 in
theorem ng_X12_begins_160 {d : Nat} {K : KT} {Q : Unit → HI → HJ → Prop} {I : HI} {J : HJ} {R : HR} {x1 : Int32} (hK : am_R M_X12_begins (am_W d) none R (qD fv R Q) K) (hs : Sta1 R)  (hF : ((4 ≤ x1 → Wd fv d M_X12_runs [.ref 80] I J R (fun u2 I3 J4 => Q () I3 J4)) ∧ (¬ 4 ≤ x1 → (∃ n5 : Nat, x1 = nI n5 ∧ n5 < 4 ∧ K 160 [(0, .ref 80), (1, .int (x1 + 1))] [] I (up J 91 n5 (0 : Int64)) R)))) : K 160 [(0, .ref 80), (1, .int x1)] [] I J R := by
  refine k_ld hK 1 dX12_begins_160 rfl rfl rfl rfl ?_
  refine k_ic hK dX12_begins_161 ci_4 ?_
  refine k_cge hK dX12_begins_162 (tgt := 178) rfl (fun h1 => ?_) (fun h1 => ?_)
  · have hF := hF.1 h1
    refine k_ld hK 0 dX12_begins_178 rfl rfl rfl rfl ?_
    refine k_cVd hK dX12_begins_179 (Or.inl lm_X12_329) (As := []) (S := []) rfl (sd_80 hs) (Nat.le_of_ble_eq_true rfl) (fit_0 rfl rfl) rfl hF (fun u2 I3 J4 hF => ?_)
    show K _ _ [] _ _ _
    exact k_vret hK dX12_begins_182 rfl (done_0 rfl rfl) (qD_i hF)
  · have hF := hF.2 h1
    refine k_ld hK 0 dX12_begins_165 rfl rfl rfl rfl ?_
    refine k_gR hK dX12_begins_166 lf_X12_44 rfl (sd_80 hs) (se_80_36 hs) ?_
    refine k_ld hK 1 dX12_begins_169 rfl rfl rfl rfl ?_
    refine k_lc hK dX12_begins_170 cl_0 ?_
    obtain ⟨n5, i6, j7, hF⟩ := hF
    refine k_last hK dX12_begins_171 (sd_91 hs) sn_91 (by decide) i6 j7 ?_
    refine k_iinc hK 1 dX12_begins_172 (v := (x1 + 1)) rfl (Nat.le_of_ble_eq_true rfl) (congrArg (fun q => x1 + q) ci_1) rfl ?_
    refine k_goto hK dX12_begins_175 (tgt := 160) rfl ?_
    exact k_sub hK [1, 0] rfl hF
set_option maxHeartbeats 4000000 in
theorem ng_X12_clears_0 {d : Nat} {K : KT} {Q : Unit → HI → HJ → Prop} {I : HI} {J : HJ} {R : HR}  (hK : am_R M_X12_clears (am_W d) none R (qD fv R Q) K) (hs : Sta1 R)  (hF : K 43 [(0, .ref 80), (1, .int 0)] [] (up (up (up (up (up (up (up (up I 80 44 0) 80 47 0) 80 54 0) 80 56 0) 80 57 0) 80 59 0) 80 60 (-2)) 80 61 0) J R) : K 0 [(0, .ref 80)] [] I J R := by
  refine k_ld hK 0 dX12_clears_0 rfl rfl rfl rfl ?_
  refine k_ic hK dX12_clears_1 ci_0 ?_
  refine k_pI hK dX12_clears_2 lf_X12_353 rfl rfl rfl (sd_80 hs) ?_
  refine k_ld hK 0 dX12_clears_5 rfl rfl rfl rfl ?_
  refine k_ic hK dX12_clears_6 ci_0 ?_
  refine k_pI hK dX12_clears_7 lf_X12_350 rfl rfl rfl (sd_80 hs) ?_
  refine k_ld hK 0 dX12_clears_10 rfl rfl rfl rfl ?_
  refine k_ic hK dX12_clears_11 ci_0 ?_
  refine k_pI hK dX12_clears_12 lf_X12_356 rfl rfl rfl (sd_80 hs) ?_
  refine k_ld hK 0 dX12_clears_15 rfl rfl rfl rfl ?_
  refine k_ic hK dX12_clears_16 ci_0 ?_
  refine k_pI hK dX12_clears_17 lf_X12_359 rfl rfl rfl (sd_80 hs) ?_
  refine k_ld hK 0 dX12_clears_20 rfl rfl rfl rfl ?_
  refine k_ic hK dX12_clears_21 ci_0 ?_
  refine k_pI hK dX12_clears_22 lf_X12_362 rfl rfl rfl (sd_80 hs) ?_
  refine k_ld hK 0 dX12_clears_25 rfl rfl rfl rfl ?_
  refine k_ic hK dX12_clears_26 ci_0 ?_
  refine k_pI hK dX12_clears_27 lf_X12_365 rfl rfl rfl (sd_80 hs) ?_
  refine k_ld hK 0 dX12_clears_30 rfl rfl rfl rfl ?_
  refine k_bi hK dX12_clears_31 cb_m2 ?_
  refine k_pI hK dX12_clears_33 lf_X12_368 rfl rfl rfl (sd_80 hs) ?_
  refine k_ld hK 0 dX12_clears_36 rfl rfl rfl rfl ?_
  refine k_ic hK dX12_clears_37 ci_0 ?_
  refine k_pI hK dX12_clears_38 lf_X12_371 rfl rfl rfl (sd_80 hs) ?_
  refine k_ic hK dX12_clears_41 ci_0 ?_
  refine k_st hK dX12_clears_42 rfl rfl rfl (Nat.le_of_ble_eq_true rfl) rfl ?_
  exact k_sub hK [1, 0] rfl hF
set_option maxHeartbeats 4000000 in
theorem ng_X12_clears_43 {d : Nat} {K : KT} {Q : Unit → HI → HJ → Prop} {I : HI} {J : HJ} {R : HR} {x1 : Int32} (hK : am_R M_X12_clears (am_W d) none R (qD fv R Q) K) (hs : Sta1 R)  (hF : ((8 ≤ x1 → K 105 [(0, .ref 80), (1, .int 0)] [] I J R) ∧ (¬ 8 ≤ x1 → (((I 80 31) ≤ x1 → (∃ n3 : Nat, x1 = nI n3 ∧ n3 < 8 ∧ (((I 80 31) ≤ x1 → K 43 [(0, .ref 80), (1, .int (x1 + 1))] [] (up I 102 n3 (-2)) (up J 101 n3 (0 : Int64)) R) ∧ (¬ (I 80 31) ≤ x1 → K 43 [(0, .ref 80), (1, .int (x1 + 1))] [] (up I 102 n3 (1000 + x1)) (up J 101 n3 (0 : Int64)) R)))) ∧ (¬ (I 80 31) ≤ x1 → (∃ n7 : Nat, x1 = nI n7 ∧ n7 < 4 ∧ (((I 80 31) ≤ x1 → K 43 [(0, .ref 80), (1, .int (x1 + 1))] [] (up I 102 n7 (-2)) (up J 101 n7 (J 91 n7)) R) ∧ (¬ (I 80 31) ≤ x1 → K 43 [(0, .ref 80), (1, .int (x1 + 1))] [] (up I 102 n7 (1000 + x1)) (up J 101 n7 (J 91 n7)) R)))))))) : K 43 [(0, .ref 80), (1, .int x1)] [] I J R := by
  refine k_ld hK 1 dX12_clears_43 rfl rfl rfl rfl ?_
  refine k_bi hK dX12_clears_44 cb_8 ?_
  refine k_cge hK dX12_clears_46 (tgt := 103) rfl (fun h1 => ?_) (fun h1 => ?_)
  · have hF := hF.1 h1
    refine k_ic hK dX12_clears_103 ci_0 ?_
    refine k_st hK dX12_clears_104 rfl rfl rfl (Nat.le_of_ble_eq_true rfl) rfl ?_
    exact k_sub hK [1, 0] rfl hF
  · have hF := hF.2 h1
    refine k_ld hK 0 dX12_clears_49 rfl rfl rfl rfl ?_
    refine k_gR hK dX12_clears_50 lf_X12_75 rfl (sd_80 hs) (se_80_48 hs) ?_
    refine k_ld hK 1 dX12_clears_53 rfl rfl rfl rfl ?_
    refine k_ld hK 1 dX12_clears_54 rfl rfl rfl rfl ?_
    refine k_ld hK 0 dX12_clears_55 rfl rfl rfl rfl ?_
    refine k_gI hK dX12_clears_56 lf_X12_314 rfl (sd_80 hs) rfl ?_
    refine k_cge hK dX12_clears_59 (tgt := 71) rfl (fun h2 => ?_) (fun h2 => ?_)
    · have hF := hF.1 h2
      refine k_lc hK dX12_clears_71 cl_0 ?_
      obtain ⟨n3, i4, j5, hF⟩ := hF
      refine k_last hK dX12_clears_72 (sd_101 hs) sn_101 (by decide) i4 j5 ?_
      refine k_ld hK 0 dX12_clears_73 rfl rfl rfl rfl ?_
      refine k_gR hK dX12_clears_74 lf_X12_78 rfl (sd_80 hs) (se_80_49 hs) ?_
      refine k_ld hK 1 dX12_clears_77 rfl rfl rfl rfl ?_
      refine k_ld hK 1 dX12_clears_78 rfl rfl rfl rfl ?_
      refine k_ld hK 0 dX12_clears_79 rfl rfl rfl rfl ?_
      refine k_gI hK dX12_clears_80 lf_X12_314 rfl (sd_80 hs) rfl ?_
      refine k_cge hK dX12_clears_83 (tgt := 94) rfl (fun h6 => ?_) (fun h6 => ?_)
      · have hF := hF.1 h6
        refine k_bi hK dX12_clears_94 cb_m2 ?_
        refine k_iast hK dX12_clears_96 (sd_102 hs) sn_102 (by decide) i4 j5 ?_
        refine k_iinc hK 1 dX12_clears_97 (v := (x1 + 1)) rfl (Nat.le_of_ble_eq_true rfl) (congrArg (fun q => x1 + q) ci_1) rfl ?_
        refine k_goto hK dX12_clears_100 (tgt := 43) rfl ?_
        exact k_sub hK [1, 0] rfl hF
      · have hF := hF.2 h6
        refine k_si hK dX12_clears_86 cs_1000 ?_
        refine k_ld hK 1 dX12_clears_89 rfl rfl rfl rfl ?_
        refine k_op hK dX12_clears_90 rfl rfl ?_
        refine k_goto hK dX12_clears_91 (tgt := 96) rfl ?_
        refine k_iast hK dX12_clears_96 (sd_102 hs) sn_102 (by decide) i4 j5 ?_
        refine k_iinc hK 1 dX12_clears_97 (v := (x1 + 1)) rfl (Nat.le_of_ble_eq_true rfl) (congrArg (fun q => x1 + q) ci_1) rfl ?_
        refine k_goto hK dX12_clears_100 (tgt := 43) rfl ?_
        exact k_sub hK [1, 0] rfl hF
    · have hF := hF.2 h2
      refine k_ld hK 0 dX12_clears_62 rfl rfl rfl rfl ?_
      refine k_gR hK dX12_clears_63 lf_X12_44 rfl (sd_80 hs) (se_80_36 hs) ?_
      refine k_ld hK 1 dX12_clears_66 rfl rfl rfl rfl ?_
      obtain ⟨n7, i8, j9, hF⟩ := hF
      refine k_lald hK dX12_clears_67 (sd_91 hs) sn_91 (by decide) i8 j9 rfl ?_
      refine k_goto hK dX12_clears_68 (tgt := 72) rfl ?_
      refine k_last hK dX12_clears_72 (sd_101 hs) sn_101 (by decide) i8 (Nat.lt_of_lt_of_le j9 (by decide)) ?_
      refine k_ld hK 0 dX12_clears_73 rfl rfl rfl rfl ?_
      refine k_gR hK dX12_clears_74 lf_X12_78 rfl (sd_80 hs) (se_80_49 hs) ?_
      refine k_ld hK 1 dX12_clears_77 rfl rfl rfl rfl ?_
      refine k_ld hK 1 dX12_clears_78 rfl rfl rfl rfl ?_
      refine k_ld hK 0 dX12_clears_79 rfl rfl rfl rfl ?_
      refine k_gI hK dX12_clears_80 lf_X12_314 rfl (sd_80 hs) rfl ?_
      refine k_cge hK dX12_clears_83 (tgt := 94) rfl (fun h10 => ?_) (fun h10 => ?_)
      · have hF := hF.1 h10
        refine k_bi hK dX12_clears_94 cb_m2 ?_
        refine k_iast hK dX12_clears_96 (sd_102 hs) sn_102 (by decide) i8 (Nat.lt_of_lt_of_le j9 (by decide)) ?_
        refine k_iinc hK 1 dX12_clears_97 (v := (x1 + 1)) rfl (Nat.le_of_ble_eq_true rfl) (congrArg (fun q => x1 + q) ci_1) rfl ?_
        refine k_goto hK dX12_clears_100 (tgt := 43) rfl ?_
        exact k_sub hK [1, 0] rfl hF
      · have hF := hF.2 h10
        refine k_si hK dX12_clears_86 cs_1000 ?_
        refine k_ld hK 1 dX12_clears_89 rfl rfl rfl rfl ?_
        refine k_op hK dX12_clears_90 rfl rfl ?_
        refine k_goto hK dX12_clears_91 (tgt := 96) rfl ?_
        refine k_iast hK dX12_clears_96 (sd_102 hs) sn_102 (by decide) i8 (Nat.lt_of_lt_of_le j9 (by decide)) ?_
        refine k_iinc hK 1 dX12_clears_97 (v := (x1 + 1)) rfl (Nat.le_of_ble_eq_true rfl) (congrArg (fun q => x1 + q) ci_1) rfl ?_
        refine k_goto hK dX12_clears_100 (tgt := 43) rfl ?_
        exact k_sub hK [1, 0] rfl hF
set_option maxHeartbeats 4000000 in
theorem ng_X12_clears_105 {d : Nat} {K : KT} {Q : Unit → HI → HJ → Prop} {I : HI} {J : HJ} {R : HR} {x1 : Int32} (hK : am_R M_X12_clears (am_W d) none R (qD fv R Q) K) (hs : Sta1 R)  (hF : ((48 ≤ x1 → Q () I J) ∧ (¬ 48 ≤ x1 → (∃ n2 : Nat, x1 = nI n2 ∧ n2 < 48 ∧ K 105 [(0, .ref 80), (1, .int (x1 + 1))] [] (up I 104 n2 (-2)) (up J 103 n2 (0 : Int64)) R)))) : K 105 [(0, .ref 80), (1, .int x1)] [] I J R := by
  refine k_ld hK 1 dX12_clears_105 rfl rfl rfl rfl ?_
  refine k_bi hK dX12_clears_106 cb_48 ?_
  refine k_cge hK dX12_clears_108 (tgt := 132) rfl (fun h1 => ?_) (fun h1 => ?_)
  · have hF := hF.1 h1
    exact k_vret hK dX12_clears_132 rfl (done_0 rfl rfl) (qD_i hF)
  · have hF := hF.2 h1
    refine k_ld hK 0 dX12_clears_111 rfl rfl rfl rfl ?_
    refine k_gR hK dX12_clears_112 lf_X12_81 rfl (sd_80 hs) (se_80_50 hs) ?_
    refine k_ld hK 1 dX12_clears_115 rfl rfl rfl rfl ?_
    refine k_lc hK dX12_clears_116 cl_0 ?_
    obtain ⟨n2, i3, j4, hF⟩ := hF
    refine k_last hK dX12_clears_117 (sd_103 hs) sn_103 (by decide) i3 j4 ?_
    refine k_ld hK 0 dX12_clears_118 rfl rfl rfl rfl ?_
    refine k_gR hK dX12_clears_119 lf_X12_84 rfl (sd_80 hs) (se_80_51 hs) ?_
    refine k_ld hK 1 dX12_clears_122 rfl rfl rfl rfl ?_
    refine k_bi hK dX12_clears_123 cb_m2 ?_
    refine k_iast hK dX12_clears_125 (sd_104 hs) sn_104 (by decide) i3 j4 ?_
    refine k_iinc hK 1 dX12_clears_126 (v := (x1 + 1)) rfl (Nat.le_of_ble_eq_true rfl) (congrArg (fun q => x1 + q) ci_1) rfl ?_
    refine k_goto hK dX12_clears_129 (tgt := 105) rfl ?_
    exact k_sub hK [1, 0] rfl hF
set_option maxHeartbeats 4000000 in
theorem ng_X12_runs_0 {d : Nat} {K : KT} {Q : Unit → HI → HJ → Prop} {I : HI} {J : HJ} {R : HR}  (hK : am_R M_X12_runs (am_W d) none R (qD fv R Q) K) (hs : Sta1 R)  (hF : Wd fv d M_X12_clears [.ref 80] I J R (fun u1 I2 J3 => K 6 [(0, .ref 80), (1, .int 0)] [] I2 J3 R)) : K 0 [(0, .ref 80)] [] I J R := by
  refine k_ld hK 0 dX12_runs_0 rfl rfl rfl rfl ?_
  refine k_cVd hK dX12_runs_1 (Or.inl lm_X12_374) (As := []) (S := []) rfl (sd_80 hs) (Nat.le_of_ble_eq_true rfl) (fit_0 rfl rfl) rfl hF (fun u1 I2 J3 hF => ?_)
  show K _ _ [] _ _ _
  refine k_ic hK dX12_runs_4 ci_0 ?_
  refine k_st hK dX12_runs_5 rfl rfl rfl (Nat.le_of_ble_eq_true rfl) rfl ?_
  exact k_sub hK [1, 0] rfl hF
set_option maxHeartbeats 4000000 in
theorem ng_X12_runs_6 {d : Nat} {K : KT} {Q : Unit → HI → HJ → Prop} {I : HI} {J : HJ} {R : HR} {x1 : Int32} (hK : am_R M_X12_runs (am_W d) none R (qD fv R Q) K) (hs : Sta1 R)  (hF : (((I 80 35) ≤ x1 → Q () I J) ∧ (¬ (I 80 35) ≤ x1 → ((¬ (I 80 59) = 0 → Q () I J) ∧ ((I 80 59) = 0 → ((¬ (I 80 61) = 3000 → Wd fi d M_X12_goes [.ref 80, .int x1] I J R (fun r4 I5 J6 => (((I5 80 59) = 0 → K 6 [(0, .ref 80), (1, .int r4)] [] (up I5 80 61 ((I5 80 61) + 1)) J6 R) ∧ (¬ (I5 80 59) = 0 → Q () I5 J6)))) ∧ ((I 80 61) = 3000 → Wc fv d M_X12_stops [.ref 80, .int 3, .int x1] I J R (fun u8 I9 => Q () I9 J)))))))) : K 6 [(0, .ref 80), (1, .int x1)] [] I J R := by
  refine k_ld hK 1 dX12_runs_6 rfl rfl rfl rfl ?_
  refine k_ld hK 0 dX12_runs_7 rfl rfl rfl rfl ?_
  refine k_gI hK dX12_runs_8 lf_X12_326 rfl (sd_80 hs) rfl ?_
  refine k_cge hK dX12_runs_11 (tgt := 67) rfl (fun h1 => ?_) (fun h1 => ?_)
  · have hF := hF.1 h1
    exact k_vret hK dX12_runs_67 rfl (done_0 rfl rfl) (qD_i hF)
  · have hF := hF.2 h1
    refine k_ld hK 0 dX12_runs_14 rfl rfl rfl rfl ?_
    refine k_gI hK dX12_runs_15 lf_X12_365 rfl (sd_80 hs) rfl ?_
    refine k_ne hK dX12_runs_18 (tgt := 67) rfl (fun h2 => ?_) (fun h2 => ?_)
    · have hF := hF.1 h2
      exact k_vret hK dX12_runs_67 rfl (done_0 rfl rfl) (qD_i hF)
    · have hF := hF.2 h2
      refine k_ld hK 0 dX12_runs_21 rfl rfl rfl rfl ?_
      refine k_gI hK dX12_runs_22 lf_X12_371 rfl (sd_80 hs) rfl ?_
      refine k_si hK dX12_runs_25 cs_3000 ?_
      refine k_cne hK dX12_runs_28 (tgt := 38) rfl (fun h3 => ?_) (fun h3 => ?_)
      · have hF := hF.1 h3
        refine k_ld hK 0 dX12_runs_38 rfl rfl rfl rfl ?_
        refine k_ld hK 1 dX12_runs_39 rfl rfl rfl rfl ?_
        refine k_cVd hK dX12_runs_40 (Or.inl lm_X12_380) (As := [.int x1]) (S := []) rfl (sd_80 hs) (Nat.le_of_ble_eq_true rfl) (fit_0 rfl rfl) rfl hF (fun r4 I5 J6 hF => ?_)
        show K _ _ [.int r4] _ _ _
        refine k_st hK dX12_runs_43 rfl rfl rfl (Nat.le_of_ble_eq_true rfl) rfl ?_
        refine k_ld hK 1 dX12_runs_44 rfl rfl rfl rfl ?_
        refine k_gI hK dX12_runs_45 lf_X12_365 rfl (sd_80 hs) rfl ?_
        refine k_eq hK dX12_runs_48 (tgt := 52) rfl (fun h7 => ?_) (fun h7 => ?_)
        · have hF := hF.1 h7
          refine k_ld hK 1 dX12_runs_52 rfl rfl rfl rfl ?_
          refine k_op hK dX12_runs_53 rfl rfl ?_
          refine k_gI hK dX12_runs_54 lf_X12_371 rfl (sd_80 hs) rfl ?_
          refine k_ic hK dX12_runs_57 ci_1 ?_
          refine k_op hK dX12_runs_58 rfl rfl ?_
          refine k_pI hK dX12_runs_59 lf_X12_371 rfl rfl rfl (sd_80 hs) ?_
          refine k_ld hK 0 dX12_runs_62 rfl rfl rfl rfl ?_
          refine k_st hK dX12_runs_63 rfl rfl rfl (Nat.le_of_ble_eq_true rfl) rfl ?_
          refine k_goto hK dX12_runs_64 (tgt := 6) rfl ?_
          exact k_sub hK [2, 0] rfl hF
        · have hF := hF.2 h7
          exact k_vret hK dX12_runs_51 rfl (done_0 rfl rfl) (qD_i hF)
      · have hF := hF.2 h3
        refine k_ld hK 0 dX12_runs_31 rfl rfl rfl rfl ?_
        refine k_ic hK dX12_runs_32 ci_3 ?_
        refine k_ld hK 1 dX12_runs_33 rfl rfl rfl rfl ?_
        refine k_cVc hK dX12_runs_34 (Or.inl lm_X12_377) (As := [.int 3, .int x1]) (S := []) rfl (sd_80 hs) (Nat.le_of_ble_eq_true rfl) (fit_0 rfl rfl) rfl hF (fun u8 I9 hF => ?_)
        show K _ _ [] _ _ _
        exact k_vret hK dX12_runs_37 rfl (done_0 rfl rfl) (qD_i hF)
theorem n_clears {d : Nat} {I : HI} {J : HJ} {R : HR} {G : SP} {inp : Nat → Nat} {Q : Unit → HI → HJ → Prop} (hs : Sta1 R) (h4 : G 3 2 ≤ 4) (hP : I 80 31 = nI (G 3 2)) (hin : ∀ j, j < G 3 2 → J 91 j = lN (inp j)) (h : ∀ I' J', qM I' J' (startT G inp) [] → stM I' (startT G inp) → frR I I' J J' → Q () I' J') : Wd fv (d + 1) M_X12_clears [.ref 80] I J R Q := by
  refine ⟨Nat.le_of_ble_eq_true rfl, fun K hK => ?_⟩
  have fin : ∀ (I1 : HI) (J1 : HJ), frR I I1 J J1 → (I1 80 44 = 0 ∧ I1 80 47 = 0 ∧ I1 80 54 = 0 ∧ I1 80 56 = 0 ∧ I1 80 57 = 0 ∧ I1 80 59 = 0 ∧ I1 80 60 = -2 ∧ I1 80 61 = 0) → rL J1 101 (startT G inp 3) 8 → rS I1 102 (startT G inp 4) 8 → rL J1 103 (startT G inp 5) 48 → rS I1 104 (startT G inp 6) 48 → Q () I1 J1 := by
    intro I1 J1 hf ⟨a1, a2, a3, a4, a5, a6, a7, a8⟩ b1 b2 b3 b4
    have z : ∀ k, startT G inp 0 k = 0 := fun k => by simp [startT]
    refine h I1 J1 ⟨by simp only [z]; exact ⟨a1, a2, a3, a4, a5, a8⟩, ?_, ⟨b1, b2⟩, ⟨b3, b4⟩, ?_, ?_, ?_, fun l hl => by cases hl⟩ ⟨by rw [z]; exact a6, by rw [z, if_pos rfl]; exact a7⟩ hf
    · rw [z]; exact ⟨fun j hj => absurd hj (by omega), fun j hj => absurd hj (by omega)⟩
    · rw [z]; exact ⟨fun j hj => absurd hj (by omega), fun j hj => absurd hj (by omega)⟩
    · rw [z]; exact ⟨fun j hj => absurd hj (by omega), fun j hj => absurd hj (by omega), fun j hj => absurd hj (by omega), fun j hj => absurd hj (by omega), fun j hj => absurd hj (by omega), fun j hj => absurd hj (by omega), fun j hj => absurd hj (by omega)⟩
    · rw [z]; exact fun j hj => absurd hj (by omega)
  have e3 : ∀ j, startT G inp 3 j = if j < G 3 2 then inp j else 0 := fun j => by simp [startT]
  have e4 : ∀ j, startT G inp 4 j = if j < G 3 2 then 1000 + j else 5000 := fun j => by simp [startT]
  have e5 : ∀ j, startT G inp 5 j = 0 := fun j => by simp [startT]
  have e6 : ∀ j, startT G inp 6 j = 5000 := fun j => by simp [startT]
  have k105 : ∀ (m i : Nat) (I1 : HI) (J1 : HJ), i + m = 48 → frR I I1 J J1 → (I1 80 44 = 0 ∧ I1 80 47 = 0 ∧ I1 80 54 = 0 ∧ I1 80 56 = 0 ∧ I1 80 57 = 0 ∧ I1 80 59 = 0 ∧ I1 80 60 = -2 ∧ I1 80 61 = 0) → rL J1 101 (startT G inp 3) 8 → rS I1 102 (startT G inp 4) 8 → rL J1 103 (startT G inp 5) i → rS I1 104 (startT G inp 6) i → K 105 [(0, .ref 80), (1, .int (nI i))] [] I1 J1 R := by
    intro m
    induction m with
    | zero =>
      intro i I1 J1 hi hf ha b1 b2 b3 b4
      have : i = 48 := by omega
      subst this
      exact ng_X12_clears_105 hK hs ⟨fun _ => fin I1 J1 hf ha b1 b2 b3 b4, fun hc => absurd (by decide) hc⟩
    | succ m ih =>
      intro i I1 J1 hi hf ha b1 b2 b3 b4
      refine ng_X12_clears_105 hK hs ⟨fun hc => absurd hc (nI_ge (b := 48) (by omega) (by omega)), fun _ => ⟨i, rfl, by omega, ?_⟩⟩
      rw [nI_1]
      refine ih (i + 1) _ _ (by omega) (frR_J (by decide) (by decide) (frR_I (by decide) (by decide) hf)) (by simp only [up_na (show ¬ 80 = 104 by decide)]; exact ha) ((rL_ne (by decide)).mpr b1) ((rS_ne (by decide)).mpr b2) ?_ ?_
      · have := rL_push (v := 0) b3
        intro j hj
        have h1 := this j hj
        rw [e5]
        show up J1 103 i (lN 0) 103 j = lN 0
        by_cases hji : j = i
        · simpa [hji] using h1
        · simpa [hji, e5] using h1
      · have := rS_push (v := 5000) b4
        intro j hj
        have h1 := this j hj
        rw [e6]
        show up I1 104 i (sI 5000) 104 j = sI 5000
        by_cases hji : j = i
        · simpa [hji] using h1
        · simpa [hji, e6] using h1
  have k43 : ∀ (m i : Nat) (I1 : HI) (J1 : HJ), i + m = 8 → frR I I1 J J1 → (I1 80 44 = 0 ∧ I1 80 47 = 0 ∧ I1 80 54 = 0 ∧ I1 80 56 = 0 ∧ I1 80 57 = 0 ∧ I1 80 59 = 0 ∧ I1 80 60 = -2 ∧ I1 80 61 = 0) → rL J1 101 (startT G inp 3) i → rS I1 102 (startT G inp 4) i → K 43 [(0, .ref 80), (1, .int (nI i))] [] I1 J1 R := by
    intro m
    induction m with
    | zero =>
      intro i I1 J1 hi hf ha b1 b2
      have : i = 8 := by omega
      subst this
      exact ng_X12_clears_43 hK hs ⟨fun _ => k105 48 0 I1 J1 (by omega) hf ha b1 b2 (fun j hj => absurd hj (by omega)) (fun j hj => absurd hj (by omega)), fun hc => absurd (by decide) hc⟩
    | succ m ih =>
      intro i I1 J1 hi hf ha b1 b2
      refine ng_X12_clears_43 hK hs ⟨fun hc => absurd hc (nI_ge (b := 8) (by omega) (by omega)), fun _ => ?_⟩
      have h31 : I1 80 31 = nI (G 3 2) := (hf.2.1 31 (by decide)).trans hP
      rw [h31, nI_1]
      have nx : ∀ (v s : Nat), v = startT G inp 3 i → s = startT G inp 4 i → K 43 [(0, .ref 80), (1, .int (nI (i + 1)))] [] (up I1 102 i (sI s)) (up J1 101 i (lN v)) R := by
        intro v s hv hsv
        refine ih (i + 1) _ _ (by omega) (frR_J (by decide) (by decide) (frR_I (by decide) (by decide) hf)) (by simp only [up_na (show ¬ 80 = 102 by decide)]; exact ha) ?_ ?_
        · have := rL_push (v := v) b1
          intro j hj
          have h1 := this j hj
          by_cases hji : j = i
          · subst hji; rw [← hv]; simpa using h1
          · simpa [hji] using h1
        · have := rS_push (v := s) b2
          intro j hj
          have h1 := this j hj
          by_cases hji : j = i
          · subst hji; rw [← hsv]; simpa using h1
          · simpa [hji] using h1
      refine ⟨fun hc => ?_, fun hc => ?_⟩
      · have hge : ¬ i < G 3 2 := fun q => nI_ge q (by omega) hc
        refine ⟨i, rfl, by omega, fun _ => ?_, fun hc2 => absurd hc hc2⟩
        exact nx 0 5000 (by rw [e3, if_neg hge]) (by rw [e4, if_neg hge])
      · have hlt : i < G 3 2 := by
          rcases Nat.lt_or_ge i (G 3 2) with q | q
          · exact q
          · exact absurd (nI_le q (by omega)) hc
        refine ⟨i, rfl, by omega, fun hc2 => absurd hc2 hc, fun _ => ?_⟩
        rw [hf.2.2 91 (by decide), hin i hlt, show (1000 : Int32) + nI i = nI (1000 + i) from nI_add 1000 i, ← sI_n (show 1000 + i ≠ 5000 by omega)]
        exact nx (inp i) (1000 + i) (by rw [e3, if_pos hlt]) (by rw [e4, if_pos hlt])
  refine ng_X12_clears_0 hK hs ?_
  refine k43 8 0 _ _ (by omega) ?_ ?_ (fun j hj => absurd hj (by omega)) (fun j hj => absurd hj (by omega))
  · exact frR_f (by decide) (by decide) (frR_f (by decide) (by decide) (frR_f (by decide) (by decide) (frR_f (by decide) (by decide) (frR_f (by decide) (by decide) (frR_f (by decide) (by decide) (frR_f (by decide) (by decide) (frR_f (by decide) (by decide) frR_rf)))))))
  · simp [up_ap]
