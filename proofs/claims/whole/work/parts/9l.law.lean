/-! the law's loop (printed by wip/whole/gen_law2.py) -/
/-- what a call of the law's own code() does, exceptions and all (9m shows it) -/
def codeRule (K : KT) : Prop := ∀ (L : LV) (I : HI) (J : HJ) (R : HR) (G : SP) (D : Nat → Nat) (N : Nat → List Nat) (T : SP) (x1 x2 : Int32), wfG G D N → cQ I R G N T → am_g R ≤ 600 →
  ((x1 < 0 ∨ ¬ x1 < nI (G 3 0)) → K 373 L [.int 1] I J (gUp R)) →
  (∀ k, x1 = nI k → k < G 3 0 → (x2 < 0 ∨ ¬ x2 ≤ 2) → K 373 L [.int 2] I J (gUp R)) →
  (∀ k, x1 = nI k → k < G 3 0 → ∀ c, x2 = nI c → c ≤ 2 → K 373 L [.int 0] I (up J 121 0 (nI (G c k)).toInt64) (gUp R)) →
  K 370 L [.ref 121, .int x2, .int x1, .ref 0] I J R
section LW
variable {L i : Nat} {xs : Nat → Int32} {Q : PQ} {K : KT} {I : HI} {J : HJ} {R : HR}
set_option maxHeartbeats 1000000 in
theorem lc_373 {kk V : Int32} {T0 : HI → Prop} (hK : am_R M_L_law (am_W 64) (some (L, xs)) RZ Q K) (hL : L ≤ 3584) (hi : i + 7 ≤ L) (hs : Stat R) (hg : am_g R ≤ 601)
    (hm : am_W 64 M_X12_code [.ref 80, .int (xs (i + 1)), .int (xs (i + 2))] I J R (fun r I' J' R' => r = some (.int V) ∧ J' = J ∧ R' = R ∧ I' 80 0 = kk ∧ T0 I')) (hv : kk = 0 → J 121 0 = V.toInt64)
    (hn : ∀ I', T0 I' → K 1473 [(4, .int (nI i)), (3, .ref 121), (2, .ref 80), (1, .ref 0), (0, .ref 999)] [] I' J R) : K 373 [(4, .int (nI i)), (3, .ref 121), (2, .ref 80), (1, .ref 0), (0, .ref 999)] [.int kk] I J R := by
  have fit : ∀ {N : MI}, N.2.2.2.2.2.1 = 0 → N.2.2.2.2.2.2 = 0 → am_fit M_L_law N RZ R := by
    intro N h1 h2
    have e1 : M_L_law.2.2.2.2.2.1 = 601024 := rfl
    have e2 : M_L_law.2.2.2.2.2.2 = 7293034 := rfl
    have e3 := SL_122
    simp only [am_fit, h1, h2, am_cc, am_sc, hs.n, e1, e2, e3]
    omega
  refine k_st hK dL_law_373 rfl rfl rfl (Nat.le_of_ble_eq_true rfl) rfl ?_
  refine k_ld hK 3 dL_law_375 rfl rfl rfl rfl ?_
  refine k_ld hK 5 dL_law_376 rfl rfl rfl rfl ?_
  refine k_ld hK 1 dL_law_377 rfl rfl rfl rfl ?_
  refine k_ic hK dL_law_379 (v := nI 1) rfl ?_
  refine k_op hK dL_law_380 rfl rfl ?_
  refine k_sld hK dL_law_381 rfl (by omega) (nI_add i 1) (by omega) ?_
  refine k_ld hK 5 dL_law_382 rfl rfl rfl rfl ?_
  refine k_ld hK 1 dL_law_383 rfl rfl rfl rfl ?_
  refine k_ic hK dL_law_385 (v := nI 2) rfl ?_
  refine k_op hK dL_law_386 rfl rfl ?_
  refine k_sld hK dL_law_387 rfl (by omega) (nI_add i 2) (by omega) ?_
  refine k_cV hK dL_law_388 (Or.inl lm_L_45) (As := [.int (xs (i + 1)), .int (xs (i + 2))]) (S := []) rfl (sc_80 hs) (by decide) (fit rfl rfl) rfl hm ?_
  rintro r I1 J1 R1 ⟨rfl, rfl, rfl, e0, ht⟩
  show K _ _ [.int V] I1 J1 R1
  refine k_st hK dL_law_391 rfl rfl rfl (Nat.le_of_ble_eq_true rfl) rfl ?_
  refine k_ld hK 4 dL_law_393 rfl rfl rfl rfl ?_
  refine k_cVp hK dL_law_394 (Or.inl lm_L_46) (As := []) (S := []) rfl (sc_80 hs) (by decide) (fit rfl rfl) rfl (e_X12_thrown (d := 63) (Q := fun x => x = I1 80 0) hs rfl) (fun x hx => ?_)
  show K _ _ [.int x] I1 J1 R1
  rw [hx, e0]
  refine k_ld hK 1 dL_law_397 rfl rfl rfl rfl ?_
  refine k_ceq hK dL_law_399 (tgt := 404) rfl (fun _ => ?_) (fun z => absurd rfl z)
  refine k_ld hK 1 dL_law_404 rfl rfl rfl rfl ?_
  have fin : K 421 [(6, .int V), (5, .int kk), (4, .int (nI i)), (3, .ref 121), (2, .ref 80), (1, .ref 0), (0, .ref 999)] [] I1 J1 R1 := k_goto hK dL_law_421 (tgt := 1473) rfl (k_sub hK [2, 3, 4, 5, 6] rfl (hn I1 ht))
  refine k_ne hK dL_law_406 (tgt := 421) rfl (fun _ => fin) (fun z => ?_)
  refine k_ld hK 3 dL_law_409 rfl rfl rfl rfl ?_
  refine k_ic hK dL_law_410 (v := nI 0) rfl ?_
  refine k_lald hK dL_law_411 (sc_121 hs) (N := 1) (by decide +kernel) (by decide) rfl (by decide) (hv z) ?_
  refine k_ld hK 0 dL_law_412 rfl rfl rfl rfl ?_
  refine k_op hK dL_law_414 rfl rfl ?_
  exact k_leq hK dL_law_415 dL_law_416 (tgt := 421) rfl (fun _ => fin) (fun w => absurd rfl w)
set_option maxHeartbeats 1000000 in
theorem lc_356 (hK : am_R M_L_law (am_W 64) (some (L, xs)) RZ Q K) (hcode : codeRule K) (hL : L ≤ 3584) (hi : i + 7 ≤ L) (h : TOP I J R) (hg : am_g R ≤ 600) (hn : ∀ I2 J2 R2, TOP I2 J2 R2 → am_g R2 = am_g R + 1 → K 1473 [(4, .int (nI i)), (3, .ref 121), (2, .ref 80), (1, .ref 0), (0, .ref 999)] [] I2 J2 R2) : K 356 [(4, .int (nI i)), (3, .ref 121), (2, .ref 80), (1, .ref 0), (0, .ref 999)] [] I J R := by
  obtain ⟨G, D, N, inp, m, B, fk, fp, hA, hc, hm⟩ := h
  have hs := hc.1.1
  have hsg := Stat_g hs
  have hgg : am_g (gUp R) ≤ 601 := by rw [gUp_g]; omega
  have hmg := MT_g hm
  have hcg := CTS_g hc
  refine k_ld hK 3 dL_law_356 rfl rfl rfl rfl ?_
  refine k_ld hK 4 dL_law_357 rfl rfl rfl rfl ?_
  refine k_ld hK 0 dL_law_358 rfl rfl rfl rfl ?_
  refine k_ic hK dL_law_360 (v := nI 1) rfl ?_
  refine k_op hK dL_law_361 rfl rfl ?_
  refine k_sld hK dL_law_362 rfl (by omega) (nI_add i 1) (by omega) ?_
  refine k_ld hK 4 dL_law_363 rfl rfl rfl rfl ?_
  refine k_ld hK 0 dL_law_364 rfl rfl rfl rfl ?_
  refine k_ic hK dL_law_366 (v := nI 2) rfl ?_
  refine k_op hK dL_law_367 rfl rfl ?_
  refine k_sld hK dL_law_368 rfl (by omega) (nI_add i 2) (by omega) ?_
  refine k_ld hK 1 dL_law_369 rfl rfl rfl rfl ?_
  refine hcode _ I J R G D N _ _ _ hA.1 hc.1 hg (fun hx => ?_) (fun k e1 e2 hx => ?_) (fun k e1 e2 c e3 e4 => ?_)
  · refine lc_373 (V := 0) (T0 := fun I' => I' = up (up I 80 0 0) 80 0 1) hK hL hi hsg hgg (am_W_mono 64 ?_ (m_code1 (d := 63) (Q := fun x I' => x = 0 ∧ I' = up (up I 80 0 0) 80 0 1) hmg.1 hx ⟨rfl, rfl⟩)) (fun z => absurd z (by decide)) (fun I' e => ?_)
    · rintro r I' J' R' ⟨x, rfl, rfl, rfl, rfl, rfl⟩
      exact ⟨rfl, rfl, rfl, up_s, rfl⟩
    · subst e
      exact hn _ _ _ ⟨G, D, N, inp, m, B, fk, fp, hA, CTS_I hcg (fun a h1 _ => by rw [up_ne _ _ _ _ (by omega), up_ne _ _ _ _ (by omega)]) (frK_rf hsg), MT_Z hA hmg (fun a h1 => by rw [up_ne _ _ _ _ h1, up_ne _ _ _ _ h1]) (fun k h1 => by rw [up_nk h1, up_nk h1])⟩ gUp_g
  · refine lc_373 (V := 0) (T0 := fun I' => I' = up (up I 80 0 0) 80 0 2) hK hL hi hsg hgg (am_W_mono 64 ?_ (m_code2 (d := 63) (Q := fun x I' => x = 0 ∧ I' = up (up I 80 0 0) 80 0 2) hA.1 hmg.1 e1 e2 hx ⟨rfl, rfl⟩)) (fun z => absurd z (by decide)) (fun I' e => ?_)
    · rintro r I' J' R' ⟨x, rfl, rfl, rfl, rfl, rfl⟩
      exact ⟨rfl, rfl, rfl, up_s, rfl⟩
    · subst e
      exact hn _ _ _ ⟨G, D, N, inp, m, B, fk, fp, hA, CTS_I hcg (fun a h1 _ => by rw [up_ne _ _ _ _ (by omega), up_ne _ _ _ _ (by omega)]) (frK_rf hsg), MT_Z hA hmg (fun a h1 => by rw [up_ne _ _ _ _ h1, up_ne _ _ _ _ h1]) (fun k h1 => by rw [up_nk h1, up_nk h1])⟩ gUp_g
  · have hmj : MT I (up J 121 0 (nI (G c k)).toInt64) (gUp R) G inp m B fk fp := MT_J hA hmg (fun a h1 => up_ne _ _ _ _ (by omega))
    refine lc_373 (V := nI (G c k)) (T0 := fun I' => I' = up I 80 0 0) hK hL hi hsg hgg (am_W_mono 64 ?_ (m_code0 (d := 63) (Q := fun x I' => x = nI (G c k) ∧ I' = up I 80 0 0) hA.1 hmj.1 e1 e2 e3 e4 ⟨rfl, rfl⟩)) (fun z => up_s) (fun I' e => ?_)
    · rintro r I' J' R' ⟨x, rfl, rfl, rfl, rfl, rfl⟩
      exact ⟨rfl, rfl, rfl, up_s, rfl⟩
    · subst e
      exact hn _ _ _ ⟨G, D, N, inp, m, B, fk, fp, hA, CTS_I hcg (fun a h1 _ => up_ne _ _ _ _ (by omega)) (frK_rf hsg), MT_A hmj frA_z⟩ gUp_g
set_option maxHeartbeats 4000000 in
theorem law_sw (hK : am_R M_L_law (am_W 64) (some (L, xs)) RZ Q K) (hcode : codeRule K) (hL : L ≤ 3584) (hi : i + 7 ≤ L) (h : TOP I J R) (hg : am_g R ≤ 599) (hn : ∀ I2 J2 R2, TOP I2 J2 R2 → am_g R2 ≤ am_g R + 1 → K 1473 [(4, .int (nI i)), (3, .ref 121), (2, .ref 80), (1, .ref 0), (0, .ref 999)] [] I2 J2 R2) : ∀ x : Int32, K 40 [(4, .int (nI i)), (3, .ref 121), (2, .ref 80), (1, .ref 0), (0, .ref 999)] [.int x] I J R := by
  intro x
  have hs := h.stat
  have hg' : am_g R ≤ 600 := by omega
  have hn' : ∀ I2 J2 R2, TOP I2 J2 R2 → am_g R2 = am_g R → K 1473 [(4, .int (nI i)), (3, .ref 121), (2, .ref 80), (1, .ref 0), (0, .ref 999)] [] I2 J2 R2 := fun I2 J2 R2 a b => hn I2 J2 R2 a (by omega)
  refine k_tab hK dL_law_40 (cs := [(0, 184), (1, 257), (2, 282), (3, 307), (4, 356), (5, 424), (6, 461), (7, 498), (8, 535), (9, 572), (10, 597), (11, 622), (12, 659), (13, 696), (14, 733), (15, 782), (16, 869), (17, 894), (18, 907), (19, 956), (20, 1005), (21, 1042), (22, 1067), (23, 1116), (24, 1153), (25, 1190), (26, 1227), (27, 1264), (28, 1301), (29, 1362), (30, 1411), (31, 1448)]) (td := 1473) (by decide +kernel) (by decide +kernel) ?_
  refine swc (fun _ => lc_184 hK hL hi hs hg' (ask_feed h) hn') (fun _ => ?_)
  refine swc (fun _ => lc_257 hK hL hi hs hg' (ask_text h) hn') (fun _ => ?_)
  refine swc (fun _ => lc_282 hK hL hi hs hg' (ask_fault h) hn') (fun _ => ?_)
  refine swc (fun _ => lc_307 hK hL hi hs hg' (ask_set h) hn') (fun _ => ?_)
  refine swc (fun _ => lc_356 hK hcode hL hi h hg' (fun I2 J2 R2 a b => hn I2 J2 R2 a (by omega))) (fun _ => ?_)
  refine swc (fun _ => lc_424 hK hL hi hs hg' (ask_row h) hn') (fun _ => ?_)
  refine swc (fun _ => lc_461 hK hL hi hs hg' (ask_variable h) hn') (fun _ => ?_)
  refine swc (fun _ => lc_498 hK hL hi hs hg' (ask_cell h) hn') (fun _ => ?_)
  refine swc (fun _ => lc_535 hK hL hi hs hg' (ask_out h) hn') (fun _ => ?_)
  refine swc (fun _ => lc_572 hK hL hi hs hg' (ask_run h) hn') (fun _ => ?_)
  refine swc (fun _ => lc_597 hK hL hi hs hg' (ask_path h) hn') (fun _ => ?_)
  refine swc (fun _ => lc_622 hK hL hi hs hg' (ask_entry h) hn') (fun _ => ?_)
  refine swc (fun _ => lc_659 hK hL hi hs hg' (ask_slope h) hn') (fun _ => ?_)
  refine swc (fun _ => lc_696 hK hL hi hs hg' (ask_bar h) hn') (fun _ => ?_)
  refine swc (fun _ => lc_733 hK hL hi hs hg' (ask_second h) hn') (fun _ => ?_)
  refine swc (fun _ => lc_782 hK hL hi hs hg' (ask_turned h) hn') (fun _ => ?_)
  refine swc (fun _ => lc_869 hK hL hi hs hg' (ask_determinant h) hn') (fun _ => ?_)
  refine swc (fun _ => lc_894 hK hL hi hs hg' (ask_rank h) hn') (fun _ => ?_)
  refine swc (fun _ => lc_907 hK hL hi hs hg' (ask_newton h) hn') (fun _ => ?_)
  refine swc (fun _ => lc_956 hK hL hi hs hg' (ask_change h) hn') (fun _ => ?_)
  refine swc (fun _ => lc_1005 hK hL hi hs hg' (ask_degree h) hn') (fun _ => ?_)
  refine swc (fun _ => lc_1042 hK hL hi hs hg' (ask_bends h) hn') (fun _ => ?_)
  refine swc (fun _ => lc_1067 hK hL hi hs hg' (ask_hangs h) hn') (fun _ => ?_)
  refine swc (fun _ => lc_1116 hK hL hi hs hg' (ask_back h) hn') (fun _ => ?_)
  refine swc (fun _ => lc_1153 hK hL hi hs hg' (ask_cost h) hn') (fun _ => ?_)
  refine swc (fun _ => lc_1190 hK hL hi hs hg' (ask_few h) hn') (fun _ => ?_)
  refine swc (fun _ => lc_1227 hK hL hi hs hg' (ask_split h) hn') (fun _ => ?_)
  refine swc (fun _ => lc_1264 hK hL hi hs hg' (ask_states h) hn') (fun _ => ?_)
  refine swc (fun _ => lc_1301 hK hL hi hs hg' (ask_action h) hn') (fun _ => ?_)
  refine swc (fun _ => lc_1362 hK hL hi hs hg' (ask_actions h) hn') (fun _ => ?_)
  refine swc (fun _ => lc_1411 hK hL hi hs hg' (ask_fraction h) hn') (fun _ => ?_)
  refine swc (fun _ => lc_1448 hK hL hi hs hg' (ask_count h) hn') (fun _ => ?_)
  exact swn (hn' I J R h rfl)
theorem law_loop (hK : am_R M_L_law (am_W 64) (some (L, xs)) RZ Q K) (hcode : codeRule K) (hL : L ≤ 3584) (hend : ∀ (L' : LV) (I : HI) (J : HJ) (R : HR), Stat R → am_g R ≤ 600 → K 1480 L' [.int 1] I J R) : ∀ (n i : Nat) (I : HI) (J : HJ) (R : HR), L ≤ i + n → i ≤ 3591 → TOP I J R → 7 * am_g R ≤ i → K 23 [(4, .int (nI i)), (3, .ref 121), (2, .ref 80), (1, .ref 0), (0, .ref 999)] [] I J R := by
  intro n
  induction n using Nat.strongRecOn with
  | ind n ih =>
    intro i I J R hn h3 h hg
    refine k_ld hK 0 dL_law_23 rfl rfl rfl rfl ?_
    refine k_ld hK 4 dL_law_25 rfl rfl rfl rfl ?_
    refine k_slen hK dL_law_26 rfl ?_
    refine k_bi hK dL_law_27 (v := 7) (by decide) ?_
    refine k_op hK dL_law_29 rfl rfl ?_
    have hlt : (nI L - 7 < nI i) ↔ L < i + 7 := by
      have e1 : (nI L - 7 : Int32).toInt = (L : Int) - 7 := by
        rw [Int32.toInt_sub, nI_toInt (by omega), show (7 : Int32).toInt = 7 from rfl]
        exact Int.bmod_eq_of_le (by omega) (by omega)
      rw [Int32.lt_iff_toInt_lt, e1, nI_toInt (by omega)]
      omega
    refine k_cgt hK dL_law_30 (tgt := 1479) rfl (fun _ => ?_) (fun z => ?_)
    · refine k_ic hK dL_law_1479 (v := 1) (by decide) ?_
      exact hend _ I J R h.stat (by omega)
    · have hi : i + 7 ≤ L := Nat.le_of_not_lt (fun w => z (hlt.mpr w))
      refine k_ld hK 4 dL_law_33 rfl rfl rfl rfl ?_
      refine k_ld hK 0 dL_law_34 rfl rfl rfl rfl ?_
      refine k_sld hK dL_law_36 rfl (by omega) rfl (by omega : i < L) ?_
      refine k_bi hK dL_law_37 (v := 31) (by decide) ?_
      refine k_op hK dL_law_39 rfl rfl ?_
      refine law_sw hK hcode hL hi h (by omega) (fun I2 J2 R2 h2 g2 => ?_) _
      refine k_iinc hK 0 dL_law_1473 (v := nI (i + 7)) rfl (Nat.le_of_ble_eq_true rfl) (nI_add i 7) rfl ?_
      refine k_goto hK dL_law_1476 (tgt := 23) rfl ?_
      exact ih (n - 7) (by omega) (i + 7) I2 J2 R2 (by omega) (by omega) h2 (by omega)
theorem law_all (hK : am_R M_L_law (am_W 64) (some (L, xs)) RZ Q K) (hcode : codeRule K) (hL : L ≤ 3584) (hend : ∀ (L' : LV) (I : HI) (J : HJ) (R : HR), Stat R → am_g R ≤ 600 → K 1480 L' [.int 1] I J R) : K 0 [(0, .ref 999)] [] IZ JZ RZ :=
  law_begin (fun _ _ _ _ _ _ h => h) hK (fun I J R h hg => law_loop hK hcode hL hend L 0 I J R (by omega) (by omega) h (by omega))
end LW
