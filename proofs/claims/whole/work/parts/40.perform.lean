section M6
variable {d : Nat} {I : HI} {J : HJ} {R : HR} {o p : Nat} {G T : SP} {D : Nat → Nat} {N : Nat → List Nat}
theorem t_fetch {c : Nat} {Q : Unit → HI → Prop} (hs : Stat R) (ho : isX1 o) (hn : 1 ≤ T 0 2) (hn2 : T 0 2 ≤ 48) (hc : c < G 3 5) (hc2 : G 3 5 ≤ 48) (hS : slR I (o + 7) (T 1) (T 2) (T 0 2)) (hC : slR I (o + 4) (T 5) (T 6) (G 3 5)) (h : Q () (up (up (up (up I (o + 7) 2 (nI (T 0 2 - 1))) (o + 7 + 1) (T 0 2 - 1) (nI (T 5 c))) (o + 7 + 2) (T 0 2 - 1) (sI (T 6 c))) (o + 7) 2 (nI (T 0 2 - 1 + 1)))) : Wc fv (d + 2) M_X1_fetch [.ref o, .int (nI c)] I J R Q := by
  refine e_X1_fetch hs ho ?_
  refine t_sdrop (k := 1) hs (sub_X1_7 ho) hS.1 hn2 hn ?_
  have hC2 : slR (up I (o + 7) 2 (nI (T 0 2 - 1))) (o + 4) (T 5) (T 6) (G 3 5) := (slR_ne (by omega) (by omega) (by omega)).mpr hC
  refine t_valueAt hs (sub_X1_4 ho) hC2.1 hc2 hc ?_
  refine t_sourceAt hs (sub_X1_4 ho) hC2.1 hc2 hc ?_
  rw [hC2.2.1 c hc, hC2.2.2 c hc]
  have hS2 := slR_drop (m := T 0 2 - 1) (by omega) hS
  exact t_sadd hs (sub_X1_7 ho) hS2.1 (by omega) h
set_option maxHeartbeats 4000000 in
theorem t_perform {Q : Unit → HI → Prop} (h0 : mC R o p I G D N T) (hat : T 0 0 < G 3 0) (hst : stopR G T = 0) (h : ∀ I', mR I' o G N (up (actT G T) 0 0 (nextT G T)) → frM o I I' → Q () I') : Wc fv (d + 4) M_X1_perform [.ref o, .int (nI (G 0 (T 0 0))), .int (nI (G 1 (T 0 0)))] I J R Q := by
  obtain ⟨hs, ho, hp, hR, hw, hi, hP, ⟨⟨m1, m2, m3⟩, v1, v2, v3, v4, tp, ts, lp⟩⟩ := id h0
  obtain ⟨w1, w2, w3, w4, w5, w6, w7, w8, w9, w10, w11, w12⟩ := id hw
  obtain ⟨⟨i1, i2, i3, i4, i5, i6, i7, i8⟩, r1, r3, r5, r7, hE, hPa, hL⟩ := id hi
  obtain ⟨s1, s2, s3, s4, s5, s6⟩ := stopR_0 hst
  have hdep := (w2 (T 0 0) i1).1
  have hdep2 := (w2 (T 0 0 + 1) (by omega)).2
  refine ⟨Nat.le_of_ble_eq_true rfl, fun K hK => ?_⟩
  have k323 : ∀ (Iz : HI) (nx : Nat), nx = nextT G T → mB Iz o G (actT G T) (N nx) → frM o I Iz → K 323 [(0, .ref o), (4, .int (nI nx))] [] Iz J R := by
    intro Iz nx hnx hm hf
    refine g_X1_perform_323 hK hs ho ?_
    refine h _ ?_ (frM_tr hf (frM_up (by omega) (by omega)))
    rw [← hnx]
    exact mR_of hm
  have hop := wf_op (w1 _ hat)
  have cc : ∀ k : Nat, k < 100 → ((nI (G 0 (T 0 0)) = nI k) ↔ G 0 (T 0 0) = k) := fun k hk => nI_eq (by omega) (by omega)
  refine g_X1_perform_0 hK hs ho ?_
  rw [m1, nI_1, v3.1]
  rcases w1 (T 0 0) hat with ⟨q0, q1, q2, q3⟩ | ⟨q0, q1, q2, q3⟩ | ⟨q0, q1, q2, q3, q4⟩ | ⟨q0, q1, q2, q3, q4⟩ | ⟨q0, q1, q2, q3, q4⟩ | ⟨q0, q1, q2, q3, q4⟩ | ⟨q0, q1, q2, q3⟩ | ⟨q0, q1, q2, q3, q4, q5, q6⟩ | ⟨q0, q1, q2, l, q3, q4, q5, q6, q7, q8⟩ | ⟨q0, q1, q2, q3, q4, q5, q6⟩ | ⟨q0, q1, q2, q3, q4, q5, q6⟩
  · have hnx : T 0 0 + 1 = nextT G T := by simp [nextT, q0]
    have z1 : actT G T 1 = fun j => if j = T 0 2 then G 1 (T 0 0) else T 1 j := by simp [actT, q0, pushT, upc_ne, upc_eq]
    have z2 : actT G T 2 = fun j => if j = T 0 2 then 5000 else T 2 j := by simp [actT, q0, pushT, upc_ne, upc_eq]
    have z3 : actT G T 3 = T 3 := by simp [actT, q0, pushT, upc_ne, upc_eq]
    have z4 : actT G T 4 = T 4 := by simp [actT, q0, pushT, upc_ne, upc_eq]
    have z5 : actT G T 5 = T 5 := by simp [actT, q0, pushT, upc_ne, upc_eq]
    have z6 : actT G T 6 = T 6 := by simp [actT, q0, pushT, upc_ne, upc_eq]
    have z7 : actT G T 7 = T 7 := by simp [actT, q0, pushT, upc_ne, upc_eq]
    have z8 : actT G T 8 = T 8 := by simp [actT, q0, pushT, upc_ne, upc_eq]
    have z9 : actT G T 9 = T 9 := by simp [actT, q0, pushT, upc_ne, upc_eq]
    have z10 : actT G T 10 = T 10 := by simp [actT, q0, pushT, upc_ne, upc_eq]
    have z11 : actT G T 11 = T 11 := by simp [actT, q0, pushT, upc_ne, upc_eq]
    have z12 : actT G T 12 = T 12 := by simp [actT, q0, pushT, upc_ne, upc_eq]
    have z13 : actT G T 13 = T 13 := by simp [actT, q0, pushT, upc_ne, upc_eq]
    have z14 : actT G T 14 = T 14 := by simp [actT, q0, pushT, upc_ne, upc_eq]
    have z15 : actT G T 15 = T 15 := by simp [actT, q0, pushT, upc_ne, upc_eq]
    have z16 : actT G T 16 = T 16 := by simp [actT, q0, pushT, upc_ne, upc_eq]
    have z17 : actT G T 17 = T 17 := by simp [actT, q0, pushT, upc_ne, upc_eq]
    have z18 : actT G T 18 = T 18 := by simp [actT, q0, pushT, upc_ne, upc_eq]
    have y1 : actT G T 0 1 = T 0 1 := by simp [actT, q0, pushT, up_ap]
    have y2 : actT G T 0 2 = T 0 2 + 1 := by simp [actT, q0, pushT, up_ap]
    have y3 : actT G T 0 3 = T 0 3 := by simp [actT, q0, pushT, up_ap]
    have y4 : actT G T 0 4 = T 0 4 := by simp [actT, q0, pushT, up_ap]
    have y5 : actT G T 0 5 = T 0 5 := by simp [actT, q0, pushT, up_ap]
    have y6 : actT G T 0 6 = T 0 6 := by simp [actT, q0, pushT, up_ap]
    have y7 : actT G T 0 7 = T 0 7 := by simp [actT, q0, pushT, up_ap]
    have mz : ∀ (Iz : HI) (L : List Nat), ((Iz o 10 = nI (T 0 1) ∧ Iz o 11 = nI (T 0 7)) ∧ slR Iz (o + 1) (T 3) (T 4) (G 3 3) ∧ slR Iz (o + 4) (T 5) (T 6) (G 3 5) ∧ slR Iz (o + 7) (fun j => if j = T 0 2 then G 1 (T 0 0) else T 1 j) (fun j => if j = T 0 2 then 5000 else T 2 j) (T 0 2 + 1) ∧ slR Iz (o + 10) (T 7) (T 8) (T 0 3) ∧ tpR Iz (o + 13) T (T 0 4) ∧ tsR Iz (o + 24) (T 16) (T 0 5) (T 0 6) ∧ lpR Iz o (T 17) L) → mB Iz o G (actT G T) L := by
      intro Iz L hh
      simp only [mB, tpR, z1, z2, z3, z4, z5, z6, z7, z8, z9, z10, z11, z12, z13, z14, z15, z16, z17, z18, y1, y2, y3, y4, y5, y6, y7]
      simp only [tpR] at hh
      exact hh
    refine ⟨fun _ => ?_, fun hc => absurd ((cc 0 (by decide)).mpr q0) hc⟩
    refine t_sadd hs (sub_X1_7 ho) v3.1 (by omega) (k323 _ _ hnx (mz _ _ ?_) (frM_tr (frM_tr (frM_tr (frM_rf) (frM_up (by omega) (by omega))) (frM_up (by omega) (by omega))) (frM_up (by omega) (by omega))))
    rw [q3]
    exact ⟨⟨(up_na (by omega)).trans ((up_na (by omega)).trans ((up_na (by omega)).trans (m2))), (up_na (by omega)).trans ((up_na (by omega)).trans ((up_na (by omega)).trans (m3)))⟩, (slR_ne (by omega) (by omega) (by omega)).mpr ((slR_ne (by omega) (by omega) (by omega)).mpr ((slR_ne (by omega) (by omega) (by omega)).mpr (v1))), (slR_ne (by omega) (by omega) (by omega)).mpr ((slR_ne (by omega) (by omega) (by omega)).mpr ((slR_ne (by omega) (by omega) (by omega)).mpr (v2))), slR_push (s := 5000) v3, (slR_ne (by omega) (by omega) (by omega)).mpr ((slR_ne (by omega) (by omega) (by omega)).mpr ((slR_ne (by omega) (by omega) (by omega)).mpr (v4))), (tpR_ne (by omega)).mpr ((tpR_ne (by omega)).mpr ((tpR_ne (by omega)).mpr (tp))), (tsR_ne (by omega)).mpr ((tsR_ne (by omega)).mpr ((tsR_ne (by omega)).mpr (ts))), (lpR_ne (by omega) (by omega)).mpr ((lpR_ne (by omega) (by omega)).mpr ((lpR_ne (by omega) (by omega)).mpr (lp)))⟩
  · have hnx : T 0 0 + 1 = nextT G T := by simp [nextT, q0]
    have z1 : actT G T 1 = fun j => if j = T 0 2 then T 3 (G 1 (T 0 0)) else T 1 j := by simp [actT, q0, pushT, upc_ne, upc_eq]
    have z2 : actT G T 2 = fun j => if j = T 0 2 then T 4 (G 1 (T 0 0)) else T 2 j := by simp [actT, q0, pushT, upc_ne, upc_eq]
    have z3 : actT G T 3 = T 3 := by simp [actT, q0, pushT, upc_ne, upc_eq]
    have z4 : actT G T 4 = T 4 := by simp [actT, q0, pushT, upc_ne, upc_eq]
    have z5 : actT G T 5 = T 5 := by simp [actT, q0, pushT, upc_ne, upc_eq]
    have z6 : actT G T 6 = T 6 := by simp [actT, q0, pushT, upc_ne, upc_eq]
    have z7 : actT G T 7 = T 7 := by simp [actT, q0, pushT, upc_ne, upc_eq]
    have z8 : actT G T 8 = T 8 := by simp [actT, q0, pushT, upc_ne, upc_eq]
    have z9 : actT G T 9 = T 9 := by simp [actT, q0, pushT, upc_ne, upc_eq]
    have z10 : actT G T 10 = T 10 := by simp [actT, q0, pushT, upc_ne, upc_eq]
    have z11 : actT G T 11 = T 11 := by simp [actT, q0, pushT, upc_ne, upc_eq]
    have z12 : actT G T 12 = T 12 := by simp [actT, q0, pushT, upc_ne, upc_eq]
    have z13 : actT G T 13 = T 13 := by simp [actT, q0, pushT, upc_ne, upc_eq]
    have z14 : actT G T 14 = T 14 := by simp [actT, q0, pushT, upc_ne, upc_eq]
    have z15 : actT G T 15 = T 15 := by simp [actT, q0, pushT, upc_ne, upc_eq]
    have z16 : actT G T 16 = T 16 := by simp [actT, q0, pushT, upc_ne, upc_eq]
    have z17 : actT G T 17 = T 17 := by simp [actT, q0, pushT, upc_ne, upc_eq]
    have z18 : actT G T 18 = T 18 := by simp [actT, q0, pushT, upc_ne, upc_eq]
    have y1 : actT G T 0 1 = T 0 1 := by simp [actT, q0, pushT, up_ap]
    have y2 : actT G T 0 2 = T 0 2 + 1 := by simp [actT, q0, pushT, up_ap]
    have y3 : actT G T 0 3 = T 0 3 := by simp [actT, q0, pushT, up_ap]
    have y4 : actT G T 0 4 = T 0 4 := by simp [actT, q0, pushT, up_ap]
    have y5 : actT G T 0 5 = T 0 5 := by simp [actT, q0, pushT, up_ap]
    have y6 : actT G T 0 6 = T 0 6 := by simp [actT, q0, pushT, up_ap]
    have y7 : actT G T 0 7 = T 0 7 := by simp [actT, q0, pushT, up_ap]
    have mz : ∀ (Iz : HI) (L : List Nat), ((Iz o 10 = nI (T 0 1) ∧ Iz o 11 = nI (T 0 7)) ∧ slR Iz (o + 1) (T 3) (T 4) (G 3 3) ∧ slR Iz (o + 4) (T 5) (T 6) (G 3 5) ∧ slR Iz (o + 7) (fun j => if j = T 0 2 then T 3 (G 1 (T 0 0)) else T 1 j) (fun j => if j = T 0 2 then T 4 (G 1 (T 0 0)) else T 2 j) (T 0 2 + 1) ∧ slR Iz (o + 10) (T 7) (T 8) (T 0 3) ∧ tpR Iz (o + 13) T (T 0 4) ∧ tsR Iz (o + 24) (T 16) (T 0 5) (T 0 6) ∧ lpR Iz o (T 17) L) → mB Iz o G (actT G T) L := by
      intro Iz L hh
      simp only [mB, tpR, z1, z2, z3, z4, z5, z6, z7, z8, z9, z10, z11, z12, z13, z14, z15, z16, z17, z18, y1, y2, y3, y4, y5, y6, y7]
      simp only [tpR] at hh
      exact hh
    refine ⟨fun hc => absurd ((cc 0 (by decide)).mp hc) (by omega), fun _ => ⟨fun _ => ?_, fun hc => absurd ((cc 1 (by decide)).mpr q0) hc⟩⟩
    refine t_valueAt hs (sub_X1_1 ho) v1.1 (by omega) q2 ?_
    refine t_sourceAt hs (sub_X1_1 ho) v1.1 (by omega) q2 ?_
    rw [v1.2.1 _ q2, v1.2.2 _ q2]
    refine t_sadd hs (sub_X1_7 ho) v3.1 (by omega) (k323 _ _ hnx (mz _ _ ?_) (frM_tr (frM_tr (frM_tr (frM_rf) (frM_up (by omega) (by omega))) (frM_up (by omega) (by omega))) (frM_up (by omega) (by omega))))
    rw [q3]
    exact ⟨⟨(up_na (by omega)).trans ((up_na (by omega)).trans ((up_na (by omega)).trans (m2))), (up_na (by omega)).trans ((up_na (by omega)).trans ((up_na (by omega)).trans (m3)))⟩, (slR_ne (by omega) (by omega) (by omega)).mpr ((slR_ne (by omega) (by omega) (by omega)).mpr ((slR_ne (by omega) (by omega) (by omega)).mpr (v1))), (slR_ne (by omega) (by omega) (by omega)).mpr ((slR_ne (by omega) (by omega) (by omega)).mpr ((slR_ne (by omega) (by omega) (by omega)).mpr (v2))), slR_push v3, (slR_ne (by omega) (by omega) (by omega)).mpr ((slR_ne (by omega) (by omega) (by omega)).mpr ((slR_ne (by omega) (by omega) (by omega)).mpr (v4))), (tpR_ne (by omega)).mpr ((tpR_ne (by omega)).mpr ((tpR_ne (by omega)).mpr (tp))), (tsR_ne (by omega)).mpr ((tsR_ne (by omega)).mpr ((tsR_ne (by omega)).mpr (ts))), (lpR_ne (by omega) (by omega)).mpr ((lpR_ne (by omega) (by omega)).mpr ((lpR_ne (by omega) (by omega)).mpr (lp)))⟩
  · have hnx : T 0 0 + 1 = nextT G T := by simp [nextT, q0]
    have z1 : actT G T 1 = fun j => if j = T 0 2 - 1 then T 5 (G 4 (G 1 (T 0 0)) + T 1 (T 0 2 - 1)) else T 1 j := by simp [actT, q0, upc_ne, upc_eq]
    have z2 : actT G T 2 = fun j => if j = T 0 2 - 1 then T 6 (G 4 (G 1 (T 0 0)) + T 1 (T 0 2 - 1)) else T 2 j := by simp [actT, q0, upc_ne, upc_eq]
    have z3 : actT G T 3 = T 3 := by simp [actT, q0, upc_ne, upc_eq]
    have z4 : actT G T 4 = T 4 := by simp [actT, q0, upc_ne, upc_eq]
    have z5 : actT G T 5 = T 5 := by simp [actT, q0, upc_ne, upc_eq]
    have z6 : actT G T 6 = T 6 := by simp [actT, q0, upc_ne, upc_eq]
    have z7 : actT G T 7 = T 7 := by simp [actT, q0, upc_ne, upc_eq]
    have z8 : actT G T 8 = T 8 := by simp [actT, q0, upc_ne, upc_eq]
    have z9 : actT G T 9 = T 9 := by simp [actT, q0, upc_ne, upc_eq]
    have z10 : actT G T 10 = T 10 := by simp [actT, q0, upc_ne, upc_eq]
    have z11 : actT G T 11 = T 11 := by simp [actT, q0, upc_ne, upc_eq]
    have z12 : actT G T 12 = T 12 := by simp [actT, q0, upc_ne, upc_eq]
    have z13 : actT G T 13 = T 13 := by simp [actT, q0, upc_ne, upc_eq]
    have z14 : actT G T 14 = T 14 := by simp [actT, q0, upc_ne, upc_eq]
    have z15 : actT G T 15 = T 15 := by simp [actT, q0, upc_ne, upc_eq]
    have z16 : actT G T 16 = T 16 := by simp [actT, q0, upc_ne, upc_eq]
    have z17 : actT G T 17 = T 17 := by simp [actT, q0, upc_ne, upc_eq]
    have z18 : actT G T 18 = T 18 := by simp [actT, q0, upc_ne, upc_eq]
    have y1 : actT G T 0 1 = T 0 1 := by simp [actT, q0, up_ap]
    have y2 : actT G T 0 2 = T 0 2 := by simp [actT, q0, up_ap]
    have y3 : actT G T 0 3 = T 0 3 := by simp [actT, q0, up_ap]
    have y4 : actT G T 0 4 = T 0 4 := by simp [actT, q0, up_ap]
    have y5 : actT G T 0 5 = T 0 5 := by simp [actT, q0, up_ap]
    have y6 : actT G T 0 6 = T 0 6 := by simp [actT, q0, up_ap]
    have y7 : actT G T 0 7 = T 0 7 := by simp [actT, q0, up_ap]
    have mz : ∀ (Iz : HI) (L : List Nat), ((Iz o 10 = nI (T 0 1) ∧ Iz o 11 = nI (T 0 7)) ∧ slR Iz (o + 1) (T 3) (T 4) (G 3 3) ∧ slR Iz (o + 4) (T 5) (T 6) (G 3 5) ∧ slR Iz (o + 7) (fun j => if j = T 0 2 - 1 then T 5 (G 4 (G 1 (T 0 0)) + T 1 (T 0 2 - 1)) else T 1 j) (fun j => if j = T 0 2 - 1 then T 6 (G 4 (G 1 (T 0 0)) + T 1 (T 0 2 - 1)) else T 2 j) (T 0 2) ∧ slR Iz (o + 10) (T 7) (T 8) (T 0 3) ∧ tpR Iz (o + 13) T (T 0 4) ∧ tsR Iz (o + 24) (T 16) (T 0 5) (T 0 6) ∧ lpR Iz o (T 17) L) → mB Iz o G (actT G T) L := by
      intro Iz L hh
      simp only [mB, tpR, z1, z2, z3, z4, z5, z6, z7, z8, z9, z10, z11, z12, z13, z14, z15, z16, z17, z18, y1, y2, y3, y4, y5, y6, y7]
      simp only [tpR] at hh
      exact hh
    refine ⟨fun hc => absurd ((cc 0 (by decide)).mp hc) (by omega), fun _ => ⟨fun hc => absurd ((cc 1 (by decide)).mp hc) (by omega), fun _ => ⟨fun _ => ?_, fun hc => absurd ((cc 2 (by decide)).mpr q0) hc⟩⟩⟩
    have h3 := s3 q0
    have hr := w11 _ q3
    rw [sub1 (by omega)]
    refine t_cellAt h0 hat q3 (by omega) ?_
    rw [if_pos h3]
    refine t_fetch hs ho (by omega) (by omega) (by omega) w10 v3 v2 (k323 _ _ hnx (mz _ _ ?_) (frM_tr (frM_tr (frM_tr (frM_tr (frM_rf) (frM_up (by omega) (by omega))) (frM_up (by omega) (by omega))) (frM_up (by omega) (by omega))) (frM_up (by omega) (by omega))))
    rw [q4]
    have hd := slR_push (v := T 5 (G 4 (G 1 (T 0 0)) + T 1 (T 0 2 - 1))) (s := T 6 (G 4 (G 1 (T 0 0)) + T 1 (T 0 2 - 1))) (slR_drop (m := T 0 2 - 1) (by omega) v3)
    rw [show T 0 2 - 1 + 1 = T 0 2 by omega] at hd ⊢
    exact ⟨⟨(up_na (by omega)).trans ((up_na (by omega)).trans ((up_na (by omega)).trans ((up_na (by omega)).trans (m2)))), (up_na (by omega)).trans ((up_na (by omega)).trans ((up_na (by omega)).trans ((up_na (by omega)).trans (m3))))⟩, (slR_ne (by omega) (by omega) (by omega)).mpr ((slR_ne (by omega) (by omega) (by omega)).mpr ((slR_ne (by omega) (by omega) (by omega)).mpr ((slR_ne (by omega) (by omega) (by omega)).mpr (v1)))), (slR_ne (by omega) (by omega) (by omega)).mpr ((slR_ne (by omega) (by omega) (by omega)).mpr ((slR_ne (by omega) (by omega) (by omega)).mpr ((slR_ne (by omega) (by omega) (by omega)).mpr (v2)))), hd, (slR_ne (by omega) (by omega) (by omega)).mpr ((slR_ne (by omega) (by omega) (by omega)).mpr ((slR_ne (by omega) (by omega) (by omega)).mpr ((slR_ne (by omega) (by omega) (by omega)).mpr (v4)))), (tpR_ne (by omega)).mpr ((tpR_ne (by omega)).mpr ((tpR_ne (by omega)).mpr ((tpR_ne (by omega)).mpr (tp)))), (tsR_ne (by omega)).mpr ((tsR_ne (by omega)).mpr ((tsR_ne (by omega)).mpr ((tsR_ne (by omega)).mpr (ts)))), (lpR_ne (by omega) (by omega)).mpr ((lpR_ne (by omega) (by omega)).mpr ((lpR_ne (by omega) (by omega)).mpr ((lpR_ne (by omega) (by omega)).mpr (lp))))⟩
  · have n10 : G 0 (T 0 0) ≤ 10 := by omega
    have n0 : ¬ G 0 (T 0 0) = 0 := by omega
    have n1 : ¬ G 0 (T 0 0) = 1 := by omega
    have n2 : ¬ G 0 (T 0 0) = 2 := by omega
    have hnx : T 0 0 + 1 = nextT G T := by simp [nextT, n10]
    have ea : actT G T = enterT G T := by simp [actT, n0, n1, n2, q1]
    have k307 : K 307 [(0, .ref o), (1, .int (nI (G 0 (T 0 0)))), (4, .int (nI (T 0 0 + 1)))] [] I J R := by
      refine g_X1_perform_307 hK hs ho ?_
      rw [m1]
      refine t_enter hs ho w6 q0 q1 (by omega) (by omega) (s5 q0 q1) r1 v3 tp (fun I' g1 g2 g3 => ?_)
      refine k323 I' _ hnx ?_ (fun a ha => g3 a (by omega) (by omega))
      rw [ea, q4]
      have cg : ∀ b, (o ≤ b ∧ b < o + 7) ∨ (o + 9 < b ∧ b < o + 13) ∨ o + 22 < b → I' b = I b := fun b hb => g3 b (by omega) (by omega)
      have y2 : enterT G T 0 2 = T 0 2 - 1 := by simp [enterT, up_ap]
      have y4 : enterT G T 0 4 = T 0 4 + 1 := by simp [enterT, up_ap]
      have yy : enterT G T 0 1 = T 0 1 ∧ enterT G T 0 3 = T 0 3 ∧ enterT G T 0 5 = T 0 5 ∧ enterT G T 0 6 = T 0 6 ∧ enterT G T 0 7 = T 0 7 := by simp [enterT, up_ap]
      have zz : enterT G T 3 = T 3 ∧ enterT G T 4 = T 4 ∧ enterT G T 5 = T 5 ∧ enterT G T 6 = T 6 ∧ enterT G T 7 = T 7 ∧ enterT G T 8 = T 8 ∧ enterT G T 16 = T 16 ∧ enterT G T 17 = T 17 := by simp [enterT, upc_ne]
      obtain ⟨y1, y3, y5, y6, y7⟩ := yy
      obtain ⟨z3, z4, z5, z6, z7, z8, z16, z17⟩ := zz
      simp only [mB, y1, y2, y3, y4, y5, y6, y7, z3, z4, z5, z6, z7, z8, z16, z17]
      exact ⟨⟨by rw [cg o (by omega)]; exact m2, by rw [cg o (by omega)]; exact m3⟩, slR_cg (cg _ (by omega)) (cg _ (by omega)) (cg _ (by omega)) v1, slR_cg (cg _ (by omega)) (cg _ (by omega)) (cg _ (by omega)) v2, g1, slR_cg (cg _ (by omega)) (cg _ (by omega)) (cg _ (by omega)) v4, g2, tsR_cg (cg _ (by omega)) (cg _ (by omega)) ts, lpR_cg (by rw [cg o (by omega)]) (cg _ (by omega)) lp⟩
    have dis : ∀ k, k < 100 → nI (G 0 (T 0 0)) = nI k → 3 ≤ k ∧ k ≤ 6 := fun k hk e => by have := (cc k hk).mp e; omega
    refine ⟨fun hc => absurd (dis 0 (by decide) hc) (by decide), fun _ => ⟨fun hc => absurd (dis 1 (by decide) hc) (by decide), fun _ => ⟨fun hc => absurd (dis 2 (by decide) hc) (by decide), fun _ => ⟨fun _ => k307, fun c3 => ⟨fun _ => k307, fun c4 => ⟨fun _ => k307, fun c5 => ⟨fun _ => k307, fun c6 => False.elim ?_⟩⟩⟩⟩⟩⟩⟩
    have e3 : ¬ G 0 (T 0 0) = 3 := fun q => c3 ((cc 3 (by decide)).mpr q)
    have e4 : ¬ G 0 (T 0 0) = 4 := fun q => c4 ((cc 4 (by decide)).mpr q)
    have e5 : ¬ G 0 (T 0 0) = 5 := fun q => c5 ((cc 5 (by decide)).mpr q)
    have e6 : ¬ G 0 (T 0 0) = 6 := fun q => c6 ((cc 6 (by decide)).mpr q)
    omega
  · have hnx : T 0 0 + 1 = nextT G T := by simp [nextT, q0]
    have z1 : actT G T 1 = T 1 := by simp [actT, q0, upc_ne, upc_eq]
    have z2 : actT G T 2 = T 2 := by simp [actT, q0, upc_ne, upc_eq]
    have z3 : actT G T 3 = fun j => if j = G 1 (T 0 0) then T 1 (T 0 2 - 1) else T 3 j := by simp [actT, q0, upc_ne, upc_eq]
    have z4 : actT G T 4 = fun j => if j = G 1 (T 0 0) then T 2 (T 0 2 - 1) else T 4 j := by simp [actT, q0, upc_ne, upc_eq]
    have z5 : actT G T 5 = T 5 := by simp [actT, q0, upc_ne, upc_eq]
    have z6 : actT G T 6 = T 6 := by simp [actT, q0, upc_ne, upc_eq]
    have z7 : actT G T 7 = T 7 := by simp [actT, q0, upc_ne, upc_eq]
    have z8 : actT G T 8 = T 8 := by simp [actT, q0, upc_ne, upc_eq]
    have z9 : actT G T 9 = T 9 := by simp [actT, q0, upc_ne, upc_eq]
    have z10 : actT G T 10 = T 10 := by simp [actT, q0, upc_ne, upc_eq]
    have z11 : actT G T 11 = T 11 := by simp [actT, q0, upc_ne, upc_eq]
    have z12 : actT G T 12 = T 12 := by simp [actT, q0, upc_ne, upc_eq]
    have z13 : actT G T 13 = T 13 := by simp [actT, q0, upc_ne, upc_eq]
    have z14 : actT G T 14 = T 14 := by simp [actT, q0, upc_ne, upc_eq]
    have z15 : actT G T 15 = T 15 := by simp [actT, q0, upc_ne, upc_eq]
    have z16 : actT G T 16 = T 16 := by simp [actT, q0, upc_ne, upc_eq]
    have z17 : actT G T 17 = T 17 := by simp [actT, q0, upc_ne, upc_eq]
    have z18 : actT G T 18 = T 18 := by simp [actT, q0, upc_ne, upc_eq]
    have y1 : actT G T 0 1 = T 0 1 := by simp [actT, q0, up_ap]
    have y2 : actT G T 0 2 = T 0 2 - 1 := by simp [actT, q0, up_ap]
    have y3 : actT G T 0 3 = T 0 3 := by simp [actT, q0, up_ap]
    have y4 : actT G T 0 4 = T 0 4 := by simp [actT, q0, up_ap]
    have y5 : actT G T 0 5 = T 0 5 := by simp [actT, q0, up_ap]
    have y6 : actT G T 0 6 = T 0 6 := by simp [actT, q0, up_ap]
    have y7 : actT G T 0 7 = T 0 7 := by simp [actT, q0, up_ap]
    have mz : ∀ (Iz : HI) (L : List Nat), ((Iz o 10 = nI (T 0 1) ∧ Iz o 11 = nI (T 0 7)) ∧ slR Iz (o + 1) (fun j => if j = G 1 (T 0 0) then T 1 (T 0 2 - 1) else T 3 j) (fun j => if j = G 1 (T 0 0) then T 2 (T 0 2 - 1) else T 4 j) (G 3 3) ∧ slR Iz (o + 4) (T 5) (T 6) (G 3 5) ∧ slR Iz (o + 7) (T 1) (T 2) (T 0 2 - 1) ∧ slR Iz (o + 10) (T 7) (T 8) (T 0 3) ∧ tpR Iz (o + 13) T (T 0 4) ∧ tsR Iz (o + 24) (T 16) (T 0 5) (T 0 6) ∧ lpR Iz o (T 17) L) → mB Iz o G (actT G T) L := by
      intro Iz L hh
      simp only [mB, tpR, z1, z2, z3, z4, z5, z6, z7, z8, z9, z10, z11, z12, z13, z14, z15, z16, z17, z18, y1, y2, y3, y4, y5, y6, y7]
      simp only [tpR] at hh
      exact hh
    refine ⟨fun hc => absurd ((cc 0 (by decide)).mp hc) (by omega), fun _ => ⟨fun hc => absurd ((cc 1 (by decide)).mp hc) (by omega), fun _ => ⟨fun hc => absurd ((cc 2 (by decide)).mp hc) (by omega), fun _ => ⟨fun hc => absurd ((cc 3 (by decide)).mp hc) (by omega), fun _ => ⟨fun hc => absurd ((cc 4 (by decide)).mp hc) (by omega), fun _ => ⟨fun hc => absurd ((cc 5 (by decide)).mp hc) (by omega), fun _ => ⟨fun hc => absurd ((cc 6 (by decide)).mp hc) (by omega), fun _ => ⟨fun _ => ?_, fun hc => absurd ((cc 7 (by decide)).mpr q0) hc⟩⟩⟩⟩⟩⟩⟩⟩
    rw [sub1 (by omega)]
    refine t_valueAt hs (sub_X1_7 ho) v3.1 (by omega) (by omega) ?_
    refine t_sourceAt hs (sub_X1_7 ho) v3.1 (by omega) (by omega) ?_
    rw [v3.2.1 _ (by omega), v3.2.2 _ (by omega)]
    refine t_sput hs (sub_X1_1 ho) v1.1 (by omega) q3 ?_
    have v3' : slR (up (up I (o + 1 + 1) (G 1 (T 0 0)) (nI (T 1 (T 0 2 - 1)))) (o + 1 + 2) (G 1 (T 0 0)) (sI (T 2 (T 0 2 - 1)))) (o + 7) (T 1) (T 2) (T 0 2) := (slR_ne (by omega) (by omega) (by omega)).mpr ((slR_ne (by omega) (by omega) (by omega)).mpr (v3))
    refine t_sdrop (k := 1) hs (sub_X1_7 ho) v3'.1 (by omega) (by omega) (k323 _ _ hnx (mz _ _ ?_) (frM_tr (frM_tr (frM_tr (frM_rf) (frM_up (by omega) (by omega))) (frM_up (by omega) (by omega))) (frM_up (by omega) (by omega))))
    rw [q4]
    exact ⟨⟨(up_na (by omega)).trans ((up_na (by omega)).trans ((up_na (by omega)).trans (m2))), (up_na (by omega)).trans ((up_na (by omega)).trans ((up_na (by omega)).trans (m3)))⟩, (slR_ne (by omega) (by omega) (by omega)).mpr (slR_set v1), (slR_ne (by omega) (by omega) (by omega)).mpr ((slR_ne (by omega) (by omega) (by omega)).mpr ((slR_ne (by omega) (by omega) (by omega)).mpr (v2))), slR_drop (by omega) v3', (slR_ne (by omega) (by omega) (by omega)).mpr ((slR_ne (by omega) (by omega) (by omega)).mpr ((slR_ne (by omega) (by omega) (by omega)).mpr (v4))), (tpR_ne (by omega)).mpr ((tpR_ne (by omega)).mpr ((tpR_ne (by omega)).mpr (tp))), (tsR_ne (by omega)).mpr ((tsR_ne (by omega)).mpr ((tsR_ne (by omega)).mpr (ts))), (lpR_ne (by omega) (by omega)).mpr ((lpR_ne (by omega) (by omega)).mpr ((lpR_ne (by omega) (by omega)).mpr (lp)))⟩
  · have hnx : T 0 0 + 1 = nextT G T := by simp [nextT, q0]
    have z1 : actT G T 1 = T 1 := by simp [actT, q0, upc_ne, upc_eq]
    have z2 : actT G T 2 = T 2 := by simp [actT, q0, upc_ne, upc_eq]
    have z3 : actT G T 3 = T 3 := by simp [actT, q0, upc_ne, upc_eq]
    have z4 : actT G T 4 = T 4 := by simp [actT, q0, upc_ne, upc_eq]
    have z5 : actT G T 5 = fun j => if j = (G 4 (G 1 (T 0 0)) + T 1 (T 0 2 - 2)) then T 1 (T 0 2 - 1) else T 5 j := by simp [actT, q0, upc_ne, upc_eq]
    have z6 : actT G T 6 = fun j => if j = (G 4 (G 1 (T 0 0)) + T 1 (T 0 2 - 2)) then T 2 (T 0 2 - 1) else T 6 j := by simp [actT, q0, upc_ne, upc_eq]
    have z7 : actT G T 7 = T 7 := by simp [actT, q0, upc_ne, upc_eq]
    have z8 : actT G T 8 = T 8 := by simp [actT, q0, upc_ne, upc_eq]
    have z9 : actT G T 9 = T 9 := by simp [actT, q0, upc_ne, upc_eq]
    have z10 : actT G T 10 = T 10 := by simp [actT, q0, upc_ne, upc_eq]
    have z11 : actT G T 11 = T 11 := by simp [actT, q0, upc_ne, upc_eq]
    have z12 : actT G T 12 = T 12 := by simp [actT, q0, upc_ne, upc_eq]
    have z13 : actT G T 13 = T 13 := by simp [actT, q0, upc_ne, upc_eq]
    have z14 : actT G T 14 = T 14 := by simp [actT, q0, upc_ne, upc_eq]
    have z15 : actT G T 15 = T 15 := by simp [actT, q0, upc_ne, upc_eq]
    have z16 : actT G T 16 = T 16 := by simp [actT, q0, upc_ne, upc_eq]
    have z17 : actT G T 17 = T 17 := by simp [actT, q0, upc_ne, upc_eq]
    have z18 : actT G T 18 = T 18 := by simp [actT, q0, upc_ne, upc_eq]
    have y1 : actT G T 0 1 = T 0 1 := by simp [actT, q0, up_ap]
    have y2 : actT G T 0 2 = T 0 2 - 2 := by simp [actT, q0, up_ap]
    have y3 : actT G T 0 3 = T 0 3 := by simp [actT, q0, up_ap]
    have y4 : actT G T 0 4 = T 0 4 := by simp [actT, q0, up_ap]
    have y5 : actT G T 0 5 = T 0 5 := by simp [actT, q0, up_ap]
    have y6 : actT G T 0 6 = T 0 6 := by simp [actT, q0, up_ap]
    have y7 : actT G T 0 7 = T 0 7 := by simp [actT, q0, up_ap]
    have mz : ∀ (Iz : HI) (L : List Nat), ((Iz o 10 = nI (T 0 1) ∧ Iz o 11 = nI (T 0 7)) ∧ slR Iz (o + 1) (T 3) (T 4) (G 3 3) ∧ slR Iz (o + 4) (fun j => if j = (G 4 (G 1 (T 0 0)) + T 1 (T 0 2 - 2)) then T 1 (T 0 2 - 1) else T 5 j) (fun j => if j = (G 4 (G 1 (T 0 0)) + T 1 (T 0 2 - 2)) then T 2 (T 0 2 - 1) else T 6 j) (G 3 5) ∧ slR Iz (o + 7) (T 1) (T 2) (T 0 2 - 2) ∧ slR Iz (o + 10) (T 7) (T 8) (T 0 3) ∧ tpR Iz (o + 13) T (T 0 4) ∧ tsR Iz (o + 24) (T 16) (T 0 5) (T 0 6) ∧ lpR Iz o (T 17) L) → mB Iz o G (actT G T) L := by
      intro Iz L hh
      simp only [mB, tpR, z1, z2, z3, z4, z5, z6, z7, z8, z9, z10, z11, z12, z13, z14, z15, z16, z17, z18, y1, y2, y3, y4, y5, y6, y7]
      simp only [tpR] at hh
      exact hh
    refine ⟨fun hc => absurd ((cc 0 (by decide)).mp hc) (by omega), fun _ => ⟨fun hc => absurd ((cc 1 (by decide)).mp hc) (by omega), fun _ => ⟨fun hc => absurd ((cc 2 (by decide)).mp hc) (by omega), fun _ => ⟨fun hc => absurd ((cc 3 (by decide)).mp hc) (by omega), fun _ => ⟨fun hc => absurd ((cc 4 (by decide)).mp hc) (by omega), fun _ => ⟨fun hc => absurd ((cc 5 (by decide)).mp hc) (by omega), fun _ => ⟨fun hc => absurd ((cc 6 (by decide)).mp hc) (by omega), fun _ => ⟨fun hc => absurd ((cc 7 (by decide)).mp hc) (by omega), fun _ => ⟨fun _ => ?_, fun hc => absurd ((cc 8 (by decide)).mpr q0) hc⟩⟩⟩⟩⟩⟩⟩⟩⟩
    have h4 := s4 q0
    have hr := w11 _ q3
    rw [sub1 (by omega), sub1 (by omega), show T 0 2 - 1 - 1 = T 0 2 - 2 by omega]
    refine t_cellAt h0 hat q3 (by omega) ?_
    rw [if_pos h4]
    refine t_valueAt hs (sub_X1_7 ho) v3.1 (by omega) (by omega) ?_
    refine t_sourceAt hs (sub_X1_7 ho) v3.1 (by omega) (by omega) ?_
    rw [v3.2.1 _ (by omega), v3.2.2 _ (by omega)]
    refine t_sput hs (sub_X1_4 ho) v2.1 (by omega) (by omega) ?_
    have v3' : slR (up (up I (o + 4 + 1) (G 4 (G 1 (T 0 0)) + T 1 (T 0 2 - 2)) (nI (T 1 (T 0 2 - 1)))) (o + 4 + 2) (G 4 (G 1 (T 0 0)) + T 1 (T 0 2 - 2)) (sI (T 2 (T 0 2 - 1)))) (o + 7) (T 1) (T 2) (T 0 2) := (slR_ne (by omega) (by omega) (by omega)).mpr ((slR_ne (by omega) (by omega) (by omega)).mpr (v3))
    refine t_sdrop (k := 2) hs (sub_X1_7 ho) v3'.1 (by omega) (by omega) (k323 _ _ hnx (mz _ _ ?_) (frM_tr (frM_tr (frM_tr (frM_rf) (frM_up (by omega) (by omega))) (frM_up (by omega) (by omega))) (frM_up (by omega) (by omega))))
    rw [q4]
    exact ⟨⟨(up_na (by omega)).trans ((up_na (by omega)).trans ((up_na (by omega)).trans (m2))), (up_na (by omega)).trans ((up_na (by omega)).trans ((up_na (by omega)).trans (m3)))⟩, (slR_ne (by omega) (by omega) (by omega)).mpr ((slR_ne (by omega) (by omega) (by omega)).mpr ((slR_ne (by omega) (by omega) (by omega)).mpr (v1))), (slR_ne (by omega) (by omega) (by omega)).mpr (slR_set v2), slR_drop (by omega) v3', (slR_ne (by omega) (by omega) (by omega)).mpr ((slR_ne (by omega) (by omega) (by omega)).mpr ((slR_ne (by omega) (by omega) (by omega)).mpr (v4))), (tpR_ne (by omega)).mpr ((tpR_ne (by omega)).mpr ((tpR_ne (by omega)).mpr (tp))), (tsR_ne (by omega)).mpr ((tsR_ne (by omega)).mpr ((tsR_ne (by omega)).mpr (ts))), (lpR_ne (by omega) (by omega)).mpr ((lpR_ne (by omega) (by omega)).mpr ((lpR_ne (by omega) (by omega)).mpr (lp)))⟩
  · have hnx : T 0 0 + 1 = nextT G T := by simp [nextT, q0]
    have z1 : actT G T 1 = T 1 := by simp [actT, q0, upc_ne, upc_eq]
    have z2 : actT G T 2 = T 2 := by simp [actT, q0, upc_ne, upc_eq]
    have z3 : actT G T 3 = T 3 := by simp [actT, q0, upc_ne, upc_eq]
    have z4 : actT G T 4 = T 4 := by simp [actT, q0, upc_ne, upc_eq]
    have z5 : actT G T 5 = T 5 := by simp [actT, q0, upc_ne, upc_eq]
    have z6 : actT G T 6 = T 6 := by simp [actT, q0, upc_ne, upc_eq]
    have z7 : actT G T 7 = fun j => if j = T 0 3 then T 1 (T 0 2 - 1) else T 7 j := by simp [actT, q0, upc_ne, upc_eq]
    have z8 : actT G T 8 = fun j => if j = T 0 3 then T 2 (T 0 2 - 1) else T 8 j := by simp [actT, q0, upc_ne, upc_eq]
    have z9 : actT G T 9 = T 9 := by simp [actT, q0, upc_ne, upc_eq]
    have z10 : actT G T 10 = T 10 := by simp [actT, q0, upc_ne, upc_eq]
    have z11 : actT G T 11 = T 11 := by simp [actT, q0, upc_ne, upc_eq]
    have z12 : actT G T 12 = T 12 := by simp [actT, q0, upc_ne, upc_eq]
    have z13 : actT G T 13 = T 13 := by simp [actT, q0, upc_ne, upc_eq]
    have z14 : actT G T 14 = T 14 := by simp [actT, q0, upc_ne, upc_eq]
    have z15 : actT G T 15 = T 15 := by simp [actT, q0, upc_ne, upc_eq]
    have z16 : actT G T 16 = T 16 := by simp [actT, q0, upc_ne, upc_eq]
    have z17 : actT G T 17 = T 17 := by simp [actT, q0, upc_ne, upc_eq]
    have z18 : actT G T 18 = T 18 := by simp [actT, q0, upc_ne, upc_eq]
    have y1 : actT G T 0 1 = T 0 1 := by simp [actT, q0, up_ap]
    have y2 : actT G T 0 2 = T 0 2 - 1 := by simp [actT, q0, up_ap]
    have y3 : actT G T 0 3 = T 0 3 + 1 := by simp [actT, q0, up_ap]
    have y4 : actT G T 0 4 = T 0 4 := by simp [actT, q0, up_ap]
    have y5 : actT G T 0 5 = T 0 5 := by simp [actT, q0, up_ap]
    have y6 : actT G T 0 6 = T 0 6 := by simp [actT, q0, up_ap]
    have y7 : actT G T 0 7 = T 0 7 := by simp [actT, q0, up_ap]
    have mz : ∀ (Iz : HI) (L : List Nat), ((Iz o 10 = nI (T 0 1) ∧ Iz o 11 = nI (T 0 7)) ∧ slR Iz (o + 1) (T 3) (T 4) (G 3 3) ∧ slR Iz (o + 4) (T 5) (T 6) (G 3 5) ∧ slR Iz (o + 7) (T 1) (T 2) (T 0 2 - 1) ∧ slR Iz (o + 10) (fun j => if j = T 0 3 then T 1 (T 0 2 - 1) else T 7 j) (fun j => if j = T 0 3 then T 2 (T 0 2 - 1) else T 8 j) (T 0 3 + 1) ∧ tpR Iz (o + 13) T (T 0 4) ∧ tsR Iz (o + 24) (T 16) (T 0 5) (T 0 6) ∧ lpR Iz o (T 17) L) → mB Iz o G (actT G T) L := by
      intro Iz L hh
      simp only [mB, tpR, z1, z2, z3, z4, z5, z6, z7, z8, z9, z10, z11, z12, z13, z14, z15, z16, z17, z18, y1, y2, y3, y4, y5, y6, y7]
      simp only [tpR] at hh
      exact hh
    refine ⟨fun hc => absurd ((cc 0 (by decide)).mp hc) (by omega), fun _ => ⟨fun hc => absurd ((cc 1 (by decide)).mp hc) (by omega), fun _ => ⟨fun hc => absurd ((cc 2 (by decide)).mp hc) (by omega), fun _ => ⟨fun hc => absurd ((cc 3 (by decide)).mp hc) (by omega), fun _ => ⟨fun hc => absurd ((cc 4 (by decide)).mp hc) (by omega), fun _ => ⟨fun hc => absurd ((cc 5 (by decide)).mp hc) (by omega), fun _ => ⟨fun hc => absurd ((cc 6 (by decide)).mp hc) (by omega), fun _ => ⟨fun hc => absurd ((cc 7 (by decide)).mp hc) (by omega), fun _ => ⟨fun hc => absurd ((cc 8 (by decide)).mp hc) (by omega), fun _ => ⟨fun _ => ?_, fun hc => absurd ((cc 9 (by decide)).mpr q0) hc⟩⟩⟩⟩⟩⟩⟩⟩⟩⟩
    have h6 := s6 q0
    rw [sub1 (by omega)]
    refine t_valueAt hs (sub_X1_7 ho) v3.1 (by omega) (by omega) ?_
    refine t_sourceAt hs (sub_X1_7 ho) v3.1 (by omega) (by omega) ?_
    rw [v3.2.1 _ (by omega), v3.2.2 _ (by omega)]
    refine t_sadd hs (sub_X1_10 ho) v4.1 (by omega) ?_
    have v3' : slR (up (up (up I (o + 10 + 1) (T 0 3) (nI (T 1 (T 0 2 - 1)))) (o + 10 + 2) (T 0 3) (sI (T 2 (T 0 2 - 1)))) (o + 10) 2 (nI (T 0 3 + 1))) (o + 7) (T 1) (T 2) (T 0 2) := (slR_ne (by omega) (by omega) (by omega)).mpr ((slR_ne (by omega) (by omega) (by omega)).mpr ((slR_ne (by omega) (by omega) (by omega)).mpr (v3)))
    refine t_sdrop (k := 1) hs (sub_X1_7 ho) v3'.1 (by omega) (by omega) (k323 _ _ hnx (mz _ _ ?_) (frM_tr (frM_tr (frM_tr (frM_tr (frM_rf) (frM_up (by omega) (by omega))) (frM_up (by omega) (by omega))) (frM_up (by omega) (by omega))) (frM_up (by omega) (by omega))))
    rw [q3]
    exact ⟨⟨(up_na (by omega)).trans ((up_na (by omega)).trans ((up_na (by omega)).trans ((up_na (by omega)).trans (m2)))), (up_na (by omega)).trans ((up_na (by omega)).trans ((up_na (by omega)).trans ((up_na (by omega)).trans (m3))))⟩, (slR_ne (by omega) (by omega) (by omega)).mpr ((slR_ne (by omega) (by omega) (by omega)).mpr ((slR_ne (by omega) (by omega) (by omega)).mpr ((slR_ne (by omega) (by omega) (by omega)).mpr (v1)))), (slR_ne (by omega) (by omega) (by omega)).mpr ((slR_ne (by omega) (by omega) (by omega)).mpr ((slR_ne (by omega) (by omega) (by omega)).mpr ((slR_ne (by omega) (by omega) (by omega)).mpr (v2)))), slR_drop (by omega) v3', (slR_ne (by omega) (by omega) (by omega)).mpr (slR_push v4), (tpR_ne (by omega)).mpr ((tpR_ne (by omega)).mpr ((tpR_ne (by omega)).mpr ((tpR_ne (by omega)).mpr (tp)))), (tsR_ne (by omega)).mpr ((tsR_ne (by omega)).mpr ((tsR_ne (by omega)).mpr ((tsR_ne (by omega)).mpr (ts)))), (lpR_ne (by omega) (by omega)).mpr ((lpR_ne (by omega) (by omega)).mpr ((lpR_ne (by omega) (by omega)).mpr ((lpR_ne (by omega) (by omega)).mpr (lp))))⟩
  · have hnx : T 0 0 + 1 = nextT G T := by simp [nextT, q0]
    have z1 : actT G T 1 = T 1 := by simp [actT, q0, upc_ne, upc_eq]
    have z2 : actT G T 2 = T 2 := by simp [actT, q0, upc_ne, upc_eq]
    have z3 : actT G T 3 = fun j => if j = G 1 (T 0 0) then 0 else T 3 j := by simp [actT, q0, upc_ne, upc_eq]
    have z4 : actT G T 4 = fun j => if j = G 1 (T 0 0) then 5000 else T 4 j := by simp [actT, q0, upc_ne, upc_eq]
    have z5 : actT G T 5 = T 5 := by simp [actT, q0, upc_ne, upc_eq]
    have z6 : actT G T 6 = T 6 := by simp [actT, q0, upc_ne, upc_eq]
    have z7 : actT G T 7 = T 7 := by simp [actT, q0, upc_ne, upc_eq]
    have z8 : actT G T 8 = T 8 := by simp [actT, q0, upc_ne, upc_eq]
    have z9 : actT G T 9 = T 9 := by simp [actT, q0, upc_ne, upc_eq]
    have z10 : actT G T 10 = T 10 := by simp [actT, q0, upc_ne, upc_eq]
    have z11 : actT G T 11 = T 11 := by simp [actT, q0, upc_ne, upc_eq]
    have z12 : actT G T 12 = T 12 := by simp [actT, q0, upc_ne, upc_eq]
    have z13 : actT G T 13 = T 13 := by simp [actT, q0, upc_ne, upc_eq]
    have z14 : actT G T 14 = T 14 := by simp [actT, q0, upc_ne, upc_eq]
    have z15 : actT G T 15 = T 15 := by simp [actT, q0, upc_ne, upc_eq]
    have z16 : actT G T 16 = T 16 := by simp [actT, q0, upc_ne, upc_eq]
    have z17 : actT G T 17 = fun j => if j = T 0 0 then 0 else T 17 j := by simp [actT, q0, upc_ne, upc_eq]
    have z18 : actT G T 18 = T 18 := by simp [actT, q0, upc_ne, upc_eq]
    have y1 : actT G T 0 1 = T 0 1 := by simp [actT, q0, up_ap]
    have y2 : actT G T 0 2 = T 0 2 := by simp [actT, q0, up_ap]
    have y3 : actT G T 0 3 = T 0 3 := by simp [actT, q0, up_ap]
    have y4 : actT G T 0 4 = T 0 4 := by simp [actT, q0, up_ap]
    have y5 : actT G T 0 5 = T 0 5 := by simp [actT, q0, up_ap]
    have y6 : actT G T 0 6 = T 0 6 := by simp [actT, q0, up_ap]
    have y7 : actT G T 0 7 = T 0 7 := by simp [actT, q0, up_ap]
    have mz : ∀ (Iz : HI) (L : List Nat), ((Iz o 10 = nI (T 0 1) ∧ Iz o 11 = nI (T 0 7)) ∧ slR Iz (o + 1) (fun j => if j = G 1 (T 0 0) then 0 else T 3 j) (fun j => if j = G 1 (T 0 0) then 5000 else T 4 j) (G 3 3) ∧ slR Iz (o + 4) (T 5) (T 6) (G 3 5) ∧ slR Iz (o + 7) (T 1) (T 2) (T 0 2) ∧ slR Iz (o + 10) (T 7) (T 8) (T 0 3) ∧ tpR Iz (o + 13) T (T 0 4) ∧ tsR Iz (o + 24) (T 16) (T 0 5) (T 0 6) ∧ lpR Iz o (fun j => if j = T 0 0 then 0 else T 17 j) L) → mB Iz o G (actT G T) L := by
      intro Iz L hh
      simp only [mB, tpR, z1, z2, z3, z4, z5, z6, z7, z8, z9, z10, z11, z12, z13, z14, z15, z16, z17, z18, y1, y2, y3, y4, y5, y6, y7]
      simp only [tpR] at hh
      exact hh
    refine ⟨fun hc => absurd ((cc 0 (by decide)).mp hc) (by omega), fun _ => ⟨fun hc => absurd ((cc 1 (by decide)).mp hc) (by omega), fun _ => ⟨fun hc => absurd ((cc 2 (by decide)).mp hc) (by omega), fun _ => ⟨fun hc => absurd ((cc 3 (by decide)).mp hc) (by omega), fun _ => ⟨fun hc => absurd ((cc 4 (by decide)).mp hc) (by omega), fun _ => ⟨fun hc => absurd ((cc 5 (by decide)).mp hc) (by omega), fun _ => ⟨fun hc => absurd ((cc 6 (by decide)).mp hc) (by omega), fun _ => ⟨fun hc => absurd ((cc 7 (by decide)).mp hc) (by omega), fun _ => ⟨fun hc => absurd ((cc 8 (by decide)).mp hc) (by omega), fun _ => ⟨fun hc => absurd ((cc 9 (by decide)).mp hc) (by omega), fun _ => ⟨fun _ => ?_, fun hc => absurd ((cc 10 (by decide)).mpr q0) hc⟩⟩⟩⟩⟩⟩⟩⟩⟩⟩⟩
    have hln : (N (T 0 0)).length < 4 := by
      have := hdep2.1
      rw [q4] at this
      simp at this
      omega
    refine t_beginLoop hs ho q3 w8 hln v1 lp.1 (k323 _ _ hnx (mz _ _ ?_) (frM_tr (frM_tr (frM_tr (frM_tr (frM_rf) (frM_up (by omega) (by omega))) (frM_up (by omega) (by omega))) (frM_up (by omega) (by omega))) (frM_up (by omega) (by omega))))
    rw [q4]
    have hlp := lpR_push (a := T 0 0) (fun x hx => by have := (w2 (T 0 0) i1).2.2 x hx; omega) ((lpR_ne (I := up I (o + 1 + 1) (G 1 (T 0 0)) (nI 0)) (c := o + 1 + 2) (k := G 1 (T 0 0)) (x := sI 5000) (by omega) (by omega)).mpr ((lpR_ne (c := o + 1 + 1) (k := G 1 (T 0 0)) (x := nI 0) (by omega) (by omega)).mpr lp))
    exact ⟨⟨(up_nk (by decide)).trans ((up_na (by omega)).trans ((up_na (by omega)).trans ((up_na (by omega)).trans (m2)))), (up_nk (by decide)).trans ((up_na (by omega)).trans ((up_na (by omega)).trans ((up_na (by omega)).trans (m3))))⟩, (slR_ne (by omega) (by omega) (by omega)).mpr ((slR_ne (by omega) (by omega) (by omega)).mpr (slR_set (v := 0) (s := 5000) v1)), (slR_ne (by omega) (by omega) (by omega)).mpr ((slR_ne (by omega) (by omega) (by omega)).mpr ((slR_ne (by omega) (by omega) (by omega)).mpr ((slR_ne (by omega) (by omega) (by omega)).mpr (v2)))), (slR_ne (by omega) (by omega) (by omega)).mpr ((slR_ne (by omega) (by omega) (by omega)).mpr ((slR_ne (by omega) (by omega) (by omega)).mpr ((slR_ne (by omega) (by omega) (by omega)).mpr (v3)))), (slR_ne (by omega) (by omega) (by omega)).mpr ((slR_ne (by omega) (by omega) (by omega)).mpr ((slR_ne (by omega) (by omega) (by omega)).mpr ((slR_ne (by omega) (by omega) (by omega)).mpr (v4)))), (tpR_ne (by omega)).mpr ((tpR_ne (by omega)).mpr ((tpR_ne (by omega)).mpr ((tpR_ne (by omega)).mpr (tp)))), (tsR_ne (by omega)).mpr ((tsR_ne (by omega)).mpr ((tsR_ne (by omega)).mpr ((tsR_ne (by omega)).mpr (ts)))), hlp⟩
  · have hll := hL l (by rw [q6]; exact List.mem_cons_self)
    have hl0 : l < G 3 0 := by omega
    obtain ⟨g1, g2, -⟩ := wf_loop (w1 l hl0) q5
    have hne : ∀ x ∈ N (T 0 0 + 1), ¬ x = l := by
      intro x hx e
      rw [q7, q6] at g2
      have hl3 := (List.cons.inj g2).2
      rw [hl3] at hx
      have := (w2 l (by omega)).2.2 x hx
      omega
    have hln : (N (T 0 0 + 1)).length < 4 := by
      have := (w2 (T 0 0) i1).2.1
      rw [q6] at this
      simp at this
      omega
    rw [q6] at lp
    refine ⟨fun hc => absurd ((cc 0 (by decide)).mp hc) (by omega), fun _ => ⟨fun hc => absurd ((cc 1 (by decide)).mp hc) (by omega), fun _ => ⟨fun hc => absurd ((cc 2 (by decide)).mp hc) (by omega), fun _ => ⟨fun hc => absurd ((cc 3 (by decide)).mp hc) (by omega), fun _ => ⟨fun hc => absurd ((cc 4 (by decide)).mp hc) (by omega), fun _ => ⟨fun hc => absurd ((cc 5 (by decide)).mp hc) (by omega), fun _ => ⟨fun hc => absurd ((cc 6 (by decide)).mp hc) (by omega), fun _ => ⟨fun hc => absurd ((cc 7 (by decide)).mp hc) (by omega), fun _ => ⟨fun hc => absurd ((cc 8 (by decide)).mp hc) (by omega), fun _ => ⟨fun hc => absurd ((cc 9 (by decide)).mp hc) (by omega), fun _ => ⟨fun hc => absurd ((cc 10 (by decide)).mp hc) (by omega), fun _ => ⟨fun _ => ?_, fun hc => absurd ((cc 11 (by decide)).mpr q0) hc⟩⟩⟩⟩⟩⟩⟩⟩⟩⟩⟩⟩
    rw [q3, show nI (l + 1) - 1 = nI l by rw [sub1 (by omega)]; rfl]
    refine t_goesRound hs ho hp hR hw hP hl0 g1 (by omega) (by omega) hln v1 lp (fun hc => ?_) (fun hc => ?_)
    · have hnx : T 0 0 + 1 = nextT G T := by simp [nextT, q0, q3, hc]
      have z1 : actT G T 1 = T 1 := by simp [actT, q0, q3, hc, upc_ne, upc_eq]
      have z2 : actT G T 2 = T 2 := by simp [actT, q0, q3, hc, upc_ne, upc_eq]
      have z3 : actT G T 3 = T 3 := by simp [actT, q0, q3, hc, upc_ne, upc_eq]
      have z4 : actT G T 4 = T 4 := by simp [actT, q0, q3, hc, upc_ne, upc_eq]
      have z5 : actT G T 5 = T 5 := by simp [actT, q0, q3, hc, upc_ne, upc_eq]
      have z6 : actT G T 6 = T 6 := by simp [actT, q0, q3, hc, upc_ne, upc_eq]
      have z7 : actT G T 7 = T 7 := by simp [actT, q0, q3, hc, upc_ne, upc_eq]
      have z8 : actT G T 8 = T 8 := by simp [actT, q0, q3, hc, upc_ne, upc_eq]
      have z9 : actT G T 9 = T 9 := by simp [actT, q0, q3, hc, upc_ne, upc_eq]
      have z10 : actT G T 10 = T 10 := by simp [actT, q0, q3, hc, upc_ne, upc_eq]
      have z11 : actT G T 11 = T 11 := by simp [actT, q0, q3, hc, upc_ne, upc_eq]
      have z12 : actT G T 12 = T 12 := by simp [actT, q0, q3, hc, upc_ne, upc_eq]
      have z13 : actT G T 13 = T 13 := by simp [actT, q0, q3, hc, upc_ne, upc_eq]
      have z14 : actT G T 14 = T 14 := by simp [actT, q0, q3, hc, upc_ne, upc_eq]
      have z15 : actT G T 15 = T 15 := by simp [actT, q0, q3, hc, upc_ne, upc_eq]
      have z16 : actT G T 16 = T 16 := by simp [actT, q0, q3, hc, upc_ne, upc_eq]
      have z17 : actT G T 17 = fun j => if j = l then T 17 l + 1 else T 17 j := by simp [actT, q0, q3, hc, upc_ne, upc_eq]
      have z18 : actT G T 18 = T 18 := by simp [actT, q0, q3, hc, upc_ne, upc_eq]
      have y1 : actT G T 0 1 = T 0 1 := by simp [actT, q0, q3, hc, up_ap]
      have y2 : actT G T 0 2 = T 0 2 := by simp [actT, q0, q3, hc, up_ap]
      have y3 : actT G T 0 3 = T 0 3 := by simp [actT, q0, q3, hc, up_ap]
      have y4 : actT G T 0 4 = T 0 4 := by simp [actT, q0, q3, hc, up_ap]
      have y5 : actT G T 0 5 = T 0 5 := by simp [actT, q0, q3, hc, up_ap]
      have y6 : actT G T 0 6 = T 0 6 := by simp [actT, q0, q3, hc, up_ap]
      have y7 : actT G T 0 7 = T 0 7 := by simp [actT, q0, q3, hc, up_ap]
      have mz : ∀ (Iz : HI) (L : List Nat), ((Iz o 10 = nI (T 0 1) ∧ Iz o 11 = nI (T 0 7)) ∧ slR Iz (o + 1) (T 3) (T 4) (G 3 3) ∧ slR Iz (o + 4) (T 5) (T 6) (G 3 5) ∧ slR Iz (o + 7) (T 1) (T 2) (T 0 2) ∧ slR Iz (o + 10) (T 7) (T 8) (T 0 3) ∧ tpR Iz (o + 13) T (T 0 4) ∧ tsR Iz (o + 24) (T 16) (T 0 5) (T 0 6) ∧ lpR Iz o (fun j => if j = l then T 17 l + 1 else T 17 j) L) → mB Iz o G (actT G T) L := by
        intro Iz L hh
        simp only [mB, tpR, z1, z2, z3, z4, z5, z6, z7, z8, z9, z10, z11, z12, z13, z14, z15, z16, z17, z18, y1, y2, y3, y4, y5, y6, y7]
        simp only [tpR] at hh
        exact hh
      refine ⟨fun _ => k323 _ _ hnx (mz _ _ ?_) (frM_tr (frM_tr (frM_rf) (frM_up (by omega) (by omega))) (frM_up (by omega) (by omega))), fun hb => by cases hb⟩
      have hlp := lpR_pop (lpR_inc (fun x hx => hne x hx) lp)
      exact ⟨⟨(up_nk (by decide)).trans ((up_na (by omega)).trans (m2)), (up_nk (by decide)).trans ((up_na (by omega)).trans (m3))⟩, (slR_ne (by omega) (by omega) (by omega)).mpr ((slR_ne (by omega) (by omega) (by omega)).mpr (v1)), (slR_ne (by omega) (by omega) (by omega)).mpr ((slR_ne (by omega) (by omega) (by omega)).mpr (v2)), (slR_ne (by omega) (by omega) (by omega)).mpr ((slR_ne (by omega) (by omega) (by omega)).mpr (v3)), (slR_ne (by omega) (by omega) (by omega)).mpr ((slR_ne (by omega) (by omega) (by omega)).mpr (v4)), (tpR_ne (by omega)).mpr ((tpR_ne (by omega)).mpr (tp)), (tsR_ne (by omega)).mpr ((tsR_ne (by omega)).mpr (ts)), hlp⟩
    · have hnx : l + 1 = nextT G T := by simp [nextT, q0, q3, hc]
      have z1 : actT G T 1 = T 1 := by simp [actT, q0, q3, hc, upc_ne, upc_eq]
      have z2 : actT G T 2 = T 2 := by simp [actT, q0, q3, hc, upc_ne, upc_eq]
      have z3 : actT G T 3 = fun j => if j = G 1 l then T 17 l + 1 else T 3 j := by simp [actT, q0, q3, hc, upc_ne, upc_eq]
      have z4 : actT G T 4 = fun j => if j = G 1 l then 5000 else T 4 j := by simp [actT, q0, q3, hc, upc_ne, upc_eq]
      have z5 : actT G T 5 = T 5 := by simp [actT, q0, q3, hc, upc_ne, upc_eq]
      have z6 : actT G T 6 = T 6 := by simp [actT, q0, q3, hc, upc_ne, upc_eq]
      have z7 : actT G T 7 = T 7 := by simp [actT, q0, q3, hc, upc_ne, upc_eq]
      have z8 : actT G T 8 = T 8 := by simp [actT, q0, q3, hc, upc_ne, upc_eq]
      have z9 : actT G T 9 = T 9 := by simp [actT, q0, q3, hc, upc_ne, upc_eq]
      have z10 : actT G T 10 = T 10 := by simp [actT, q0, q3, hc, upc_ne, upc_eq]
      have z11 : actT G T 11 = T 11 := by simp [actT, q0, q3, hc, upc_ne, upc_eq]
      have z12 : actT G T 12 = T 12 := by simp [actT, q0, q3, hc, upc_ne, upc_eq]
      have z13 : actT G T 13 = T 13 := by simp [actT, q0, q3, hc, upc_ne, upc_eq]
      have z14 : actT G T 14 = T 14 := by simp [actT, q0, q3, hc, upc_ne, upc_eq]
      have z15 : actT G T 15 = T 15 := by simp [actT, q0, q3, hc, upc_ne, upc_eq]
      have z16 : actT G T 16 = T 16 := by simp [actT, q0, q3, hc, upc_ne, upc_eq]
      have z17 : actT G T 17 = fun j => if j = l then T 17 l + 1 else T 17 j := by simp [actT, q0, q3, hc, upc_ne, upc_eq]
      have z18 : actT G T 18 = T 18 := by simp [actT, q0, q3, hc, upc_ne, upc_eq]
      have y1 : actT G T 0 1 = T 0 1 := by simp [actT, q0, q3, hc, up_ap]
      have y2 : actT G T 0 2 = T 0 2 := by simp [actT, q0, q3, hc, up_ap]
      have y3 : actT G T 0 3 = T 0 3 := by simp [actT, q0, q3, hc, up_ap]
      have y4 : actT G T 0 4 = T 0 4 := by simp [actT, q0, q3, hc, up_ap]
      have y5 : actT G T 0 5 = T 0 5 := by simp [actT, q0, q3, hc, up_ap]
      have y6 : actT G T 0 6 = T 0 6 := by simp [actT, q0, q3, hc, up_ap]
      have y7 : actT G T 0 7 = T 0 7 := by simp [actT, q0, q3, hc, up_ap]
      have mz : ∀ (Iz : HI) (L : List Nat), ((Iz o 10 = nI (T 0 1) ∧ Iz o 11 = nI (T 0 7)) ∧ slR Iz (o + 1) (fun j => if j = G 1 l then T 17 l + 1 else T 3 j) (fun j => if j = G 1 l then 5000 else T 4 j) (G 3 3) ∧ slR Iz (o + 4) (T 5) (T 6) (G 3 5) ∧ slR Iz (o + 7) (T 1) (T 2) (T 0 2) ∧ slR Iz (o + 10) (T 7) (T 8) (T 0 3) ∧ tpR Iz (o + 13) T (T 0 4) ∧ tsR Iz (o + 24) (T 16) (T 0 5) (T 0 6) ∧ lpR Iz o (fun j => if j = l then T 17 l + 1 else T 17 j) L) → mB Iz o G (actT G T) L := by
        intro Iz L hh
        simp only [mB, tpR, z1, z2, z3, z4, z5, z6, z7, z8, z9, z10, z11, z12, z13, z14, z15, z16, z17, z18, y1, y2, y3, y4, y5, y6, y7]
        simp only [tpR] at hh
        exact hh
      refine ⟨fun hb => (by cases hb), fun _ => k323 _ _ hnx (mz _ _ ?_) (frM_tr (frM_tr (frM_tr (frM_rf) (frM_up (by omega) (by omega))) (frM_up (by omega) (by omega))) (frM_up (by omega) (by omega)))⟩
      rw [q7, q6]
      have hlp := lpR_inc (fun x hx => hne x hx) lp
      exact ⟨⟨(up_na (by omega)).trans ((up_na (by omega)).trans ((up_na (by omega)).trans (m2))), (up_na (by omega)).trans ((up_na (by omega)).trans ((up_na (by omega)).trans (m3)))⟩, slR_set (s := 5000) ((slR_ne (by omega) (by omega) (by omega)).mpr (v1)), (slR_ne (by omega) (by omega) (by omega)).mpr ((slR_ne (by omega) (by omega) (by omega)).mpr ((slR_ne (by omega) (by omega) (by omega)).mpr (v2))), (slR_ne (by omega) (by omega) (by omega)).mpr ((slR_ne (by omega) (by omega) (by omega)).mpr ((slR_ne (by omega) (by omega) (by omega)).mpr (v3))), (slR_ne (by omega) (by omega) (by omega)).mpr ((slR_ne (by omega) (by omega) (by omega)).mpr ((slR_ne (by omega) (by omega) (by omega)).mpr (v4))), (tpR_ne (by omega)).mpr ((tpR_ne (by omega)).mpr ((tpR_ne (by omega)).mpr (tp))), (tsR_ne (by omega)).mpr ((tsR_ne (by omega)).mpr ((tsR_ne (by omega)).mpr (ts))), (lpR_ne (by omega) (by omega)).mpr ((lpR_ne (by omega) (by omega)).mpr (hlp))⟩
  · have n10 : ¬ G 0 (T 0 0) ≤ 10 := by omega
    have n11 : ¬ G 0 (T 0 0) = 11 := by omega
    have n13 : G 0 (T 0 0) ≤ 13 := by omega
    have hh : ¬ G 0 (T 0 0) = 0 ∧ ¬ G 0 (T 0 0) = 1 ∧ ¬ G 0 (T 0 0) = 2 ∧ ¬ G 0 (T 0 0) ≤ 6 ∧ ¬ G 0 (T 0 0) = 7 ∧ ¬ G 0 (T 0 0) = 8 ∧ ¬ G 0 (T 0 0) = 9 ∧ ¬ G 0 (T 0 0) = 10 := by omega
    obtain ⟨a0, a1, a2, a6, a7, a8, a9, a10⟩ := hh
    have ea : actT G T = testT G T := by simp [actT, a0, a1, a2, a6, a7, a8, a9, a10, n11, n13]
    have hsee : Wc fb (d + 3) M_X1_isSo [.ref o, .int (nI (G 0 (T 0 0)))] I J R (fun b I48 => ((b = false → K 323 [(0, .ref o), (4, .int (nI (G 1 (T 0 0))))] [] I48 J R) ∧ (b = true → K 323 [(0, .ref o), (4, .int (nI (T 0 0 + 1)))] [] I48 J R))) := by
      refine t_isSo hs ho q0 (by omega) (by omega) i7 r1 hPa v3 ts (fun I' g1 g2 g3 => ?_)
      have cg : ∀ b, (o ≤ b ∧ b < o + 7) ∨ (o + 9 < b ∧ b < o + 24) ∨ o + 25 < b → I' b = I b := fun b hb => g3 b (by omega) (by omega)
      have yy : testT G T 0 1 = T 0 1 ∧ testT G T 0 2 = 0 ∧ testT G T 0 3 = T 0 3 ∧ testT G T 0 4 = T 0 4 ∧ testT G T 0 5 = T 0 5 + 1 ∧ testT G T 0 7 = T 0 7 := by simp [testT, up_ap]; omega
      have zz : testT G T 1 = T 1 ∧ testT G T 2 = T 2 ∧ testT G T 3 = T 3 ∧ testT G T 4 = T 4 ∧ testT G T 5 = T 5 ∧ testT G T 6 = T 6 ∧ testT G T 7 = T 7 ∧ testT G T 8 = T 8 ∧ testT G T 17 = T 17 := by simp [testT, upc_ne]
      have zt : testT G T 9 = T 9 ∧ testT G T 10 = T 10 ∧ testT G T 11 = T 11 ∧ testT G T 12 = T 12 ∧ testT G T 13 = T 13 ∧ testT G T 14 = T 14 ∧ testT G T 15 = T 15 ∧ testT G T 18 = T 18 := by simp [testT, upc_ne]
      obtain ⟨y1, y2, y3, y4, y5, y7⟩ := yy
      obtain ⟨z1, z2, z3, z4, z5, z6, z7, z8, z17⟩ := zz
      obtain ⟨t9, t10, t11, t12, t13, t14, t15, t18⟩ := zt
      have hm : mB I' o G (actT G T) (N (T 0 0)) := by
        rw [ea]
        have tp' := tpR_cg (I' := I') (fun k hk => cg (o + 13 + k) (by omega)) tp
        simp only [tpR] at tp'
        simp only [mB, tpR, y1, y2, y3, y4, y5, y7, z1, z2, z3, z4, z5, z6, z7, z8, z17, t9, t10, t11, t12, t13, t14, t15, t18]
        exact ⟨⟨by rw [cg o (by omega)]; exact m2, by rw [cg o (by omega)]; exact m3⟩, slR_cg (cg _ (by omega)) (cg _ (by omega)) (cg _ (by omega)) v1, slR_cg (cg _ (by omega)) (cg _ (by omega)) (cg _ (by omega)) v2, g1, slR_cg (cg _ (by omega)) (cg _ (by omega)) (cg _ (by omega)) v4, tp', g2, lpR_cg (by rw [cg o (by omega)]) (cg _ (by omega)) lp⟩
      have hf : frM o I I' := fun a ha => g3 a (by omega) (by omega)
      refine ⟨fun hb => k323 _ _ ?_ (by rw [q5]; exact hm) hf, fun hb => k323 _ _ ?_ (by rw [q6]; exact hm) hf⟩
      · simp [nextT, n10, n11, n13, hb]
      · simp [nextT, n10, n11, n13, hb]
    rcases q0 with q0 | q0
    · refine ⟨fun hc => absurd ((cc 0 (by decide)).mp hc) (by omega), fun _ => ⟨fun hc => absurd ((cc 1 (by decide)).mp hc) (by omega), fun _ => ⟨fun hc => absurd ((cc 2 (by decide)).mp hc) (by omega), fun _ => ⟨fun hc => absurd ((cc 3 (by decide)).mp hc) (by omega), fun _ => ⟨fun hc => absurd ((cc 4 (by decide)).mp hc) (by omega), fun _ => ⟨fun hc => absurd ((cc 5 (by decide)).mp hc) (by omega), fun _ => ⟨fun hc => absurd ((cc 6 (by decide)).mp hc) (by omega), fun _ => ⟨fun hc => absurd ((cc 7 (by decide)).mp hc) (by omega), fun _ => ⟨fun hc => absurd ((cc 8 (by decide)).mp hc) (by omega), fun _ => ⟨fun hc => absurd ((cc 9 (by decide)).mp hc) (by omega), fun _ => ⟨fun hc => absurd ((cc 10 (by decide)).mp hc) (by omega), fun _ => ⟨fun hc => absurd ((cc 11 (by decide)).mp hc) (by omega), fun _ => ⟨fun _ => hsee, fun hc => absurd ((cc 12 (by decide)).mpr q0) hc⟩⟩⟩⟩⟩⟩⟩⟩⟩⟩⟩⟩⟩
    · refine ⟨fun hc => absurd ((cc 0 (by decide)).mp hc) (by omega), fun _ => ⟨fun hc => absurd ((cc 1 (by decide)).mp hc) (by omega), fun _ => ⟨fun hc => absurd ((cc 2 (by decide)).mp hc) (by omega), fun _ => ⟨fun hc => absurd ((cc 3 (by decide)).mp hc) (by omega), fun _ => ⟨fun hc => absurd ((cc 4 (by decide)).mp hc) (by omega), fun _ => ⟨fun hc => absurd ((cc 5 (by decide)).mp hc) (by omega), fun _ => ⟨fun hc => absurd ((cc 6 (by decide)).mp hc) (by omega), fun _ => ⟨fun hc => absurd ((cc 7 (by decide)).mp hc) (by omega), fun _ => ⟨fun hc => absurd ((cc 8 (by decide)).mp hc) (by omega), fun _ => ⟨fun hc => absurd ((cc 9 (by decide)).mp hc) (by omega), fun _ => ⟨fun hc => absurd ((cc 10 (by decide)).mp hc) (by omega), fun _ => ⟨fun hc => absurd ((cc 11 (by decide)).mp hc) (by omega), fun _ => ⟨fun hc => absurd ((cc 12 (by decide)).mp hc) (by omega), fun _ => ⟨fun _ => hsee, fun hc => absurd ((cc 13 (by decide)).mpr q0) hc⟩⟩⟩⟩⟩⟩⟩⟩⟩⟩⟩⟩⟩⟩
  · have hnx : G 1 (T 0 0) = nextT G T := by simp [nextT, q0]
    have z1 : actT G T 1 = T 1 := by simp [actT, q0, upc_ne, upc_eq]
    have z2 : actT G T 2 = T 2 := by simp [actT, q0, upc_ne, upc_eq]
    have z3 : actT G T 3 = T 3 := by simp [actT, q0, upc_ne, upc_eq]
    have z4 : actT G T 4 = T 4 := by simp [actT, q0, upc_ne, upc_eq]
    have z5 : actT G T 5 = T 5 := by simp [actT, q0, upc_ne, upc_eq]
    have z6 : actT G T 6 = T 6 := by simp [actT, q0, upc_ne, upc_eq]
    have z7 : actT G T 7 = T 7 := by simp [actT, q0, upc_ne, upc_eq]
    have z8 : actT G T 8 = T 8 := by simp [actT, q0, upc_ne, upc_eq]
    have z9 : actT G T 9 = T 9 := by simp [actT, q0, upc_ne, upc_eq]
    have z10 : actT G T 10 = T 10 := by simp [actT, q0, upc_ne, upc_eq]
    have z11 : actT G T 11 = T 11 := by simp [actT, q0, upc_ne, upc_eq]
    have z12 : actT G T 12 = T 12 := by simp [actT, q0, upc_ne, upc_eq]
    have z13 : actT G T 13 = T 13 := by simp [actT, q0, upc_ne, upc_eq]
    have z14 : actT G T 14 = T 14 := by simp [actT, q0, upc_ne, upc_eq]
    have z15 : actT G T 15 = T 15 := by simp [actT, q0, upc_ne, upc_eq]
    have z16 : actT G T 16 = T 16 := by simp [actT, q0, upc_ne, upc_eq]
    have z17 : actT G T 17 = T 17 := by simp [actT, q0, upc_ne, upc_eq]
    have z18 : actT G T 18 = T 18 := by simp [actT, q0, upc_ne, upc_eq]
    have y1 : actT G T 0 1 = T 0 1 := by simp [actT, q0, up_ap]
    have y2 : actT G T 0 2 = T 0 2 := by simp [actT, q0, up_ap]
    have y3 : actT G T 0 3 = T 0 3 := by simp [actT, q0, up_ap]
    have y4 : actT G T 0 4 = T 0 4 := by simp [actT, q0, up_ap]
    have y5 : actT G T 0 5 = T 0 5 := by simp [actT, q0, up_ap]
    have y6 : actT G T 0 6 = T 0 6 := by simp [actT, q0, up_ap]
    have y7 : actT G T 0 7 = T 0 7 := by simp [actT, q0, up_ap]
    have mz : ∀ (Iz : HI) (L : List Nat), ((Iz o 10 = nI (T 0 1) ∧ Iz o 11 = nI (T 0 7)) ∧ slR Iz (o + 1) (T 3) (T 4) (G 3 3) ∧ slR Iz (o + 4) (T 5) (T 6) (G 3 5) ∧ slR Iz (o + 7) (T 1) (T 2) (T 0 2) ∧ slR Iz (o + 10) (T 7) (T 8) (T 0 3) ∧ tpR Iz (o + 13) T (T 0 4) ∧ tsR Iz (o + 24) (T 16) (T 0 5) (T 0 6) ∧ lpR Iz o (T 17) L) → mB Iz o G (actT G T) L := by
      intro Iz L hh
      simp only [mB, tpR, z1, z2, z3, z4, z5, z6, z7, z8, z9, z10, z11, z12, z13, z14, z15, z16, z17, z18, y1, y2, y3, y4, y5, y6, y7]
      simp only [tpR] at hh
      exact hh
    refine ⟨fun hc => absurd ((cc 0 (by decide)).mp hc) (by omega), fun _ => ⟨fun hc => absurd ((cc 1 (by decide)).mp hc) (by omega), fun _ => ⟨fun hc => absurd ((cc 2 (by decide)).mp hc) (by omega), fun _ => ⟨fun hc => absurd ((cc 3 (by decide)).mp hc) (by omega), fun _ => ⟨fun hc => absurd ((cc 4 (by decide)).mp hc) (by omega), fun _ => ⟨fun hc => absurd ((cc 5 (by decide)).mp hc) (by omega), fun _ => ⟨fun hc => absurd ((cc 6 (by decide)).mp hc) (by omega), fun _ => ⟨fun hc => absurd ((cc 7 (by decide)).mp hc) (by omega), fun _ => ⟨fun hc => absurd ((cc 8 (by decide)).mp hc) (by omega), fun _ => ⟨fun hc => absurd ((cc 9 (by decide)).mp hc) (by omega), fun _ => ⟨fun hc => absurd ((cc 10 (by decide)).mp hc) (by omega), fun _ => ⟨fun hc => absurd ((cc 11 (by decide)).mp hc) (by omega), fun _ => ⟨fun hc => absurd ((cc 12 (by decide)).mp hc) (by omega), fun _ => ⟨fun hc => absurd ((cc 13 (by decide)).mp hc) (by omega), fun _ => ⟨fun _ => k323 _ _ hnx (mz _ _ ?_) frM_rf, fun hc => absurd ((cc 14 (by decide)).mpr q0) hc⟩⟩⟩⟩⟩⟩⟩⟩⟩⟩⟩⟩⟩⟩⟩
    rw [q5]
    exact ⟨⟨m2, m3⟩, v1, v2, v3, v4, tp, ts, lp⟩
end M6
