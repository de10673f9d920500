section MG
variable {d : Nat} {I : HI} {J : HJ} {R : HR} {G T : SP} {D : Nat → Nat} {N : Nat → List Nat} {inp : Nat → Nat}
theorem ltL {a b : Nat} (ha : a < 2 ^ 31) (hb : b < 2 ^ 31) : (lN a < Int32.toInt64 (nI b)) ↔ a < b := by
  rw [nI_l hb]
  exact lN_lt ha hb
set_option maxHeartbeats 4000000 in
/-- one instruction of the reference -/
theorem t_goes {Q : Int32 → HI → HJ → Prop} (hs : Stat R) (hw : wfG G D N) (hi : invT G D N T) (hP : pM I G) (hM : qM I J T (N (T 0 0))) (hat : T 0 0 < G 3 0) (hdn : T 0 1 < 3000) (h1 : stopR G T = 0 → ∀ I' J', qM I' J' (actT G T) (N (nextT G T)) → I' 80 59 = I 80 59 → I' 80 60 = I 80 60 → frR I I' J J' → Q (nI (nextT G T)) I' J') (h2 : ¬ stopR G T = 0 → ∀ r, Q r (up (up I 80 59 (nI (stopR G T))) 80 60 (nI (T 0 0))) J) : Wd fi (d + 4) M_X12_goes [.ref 80, .int (nI (T 0 0))] I J R Q := by
  obtain ⟨w1, w2, w3, w4, w5, w6, w7, w8, w9, w10, w11, w12⟩ := id hw
  obtain ⟨⟨i1, i2, i3, i4, i5, i6, i7, i8⟩, r1, r3, r5, r7, hE, hPa, hL⟩ := id hi
  obtain ⟨⟨a44, a47, a54, a56, a57, a61⟩, ⟨b99, b100⟩, ⟨b101, b102⟩, ⟨b103, b104⟩, ⟨b105, b106⟩, ⟨b92, b98, b93, b94, b95, b96, b97⟩, b107, b108⟩ := id hM
  obtain ⟨p35, p30, p31, p32, p33, p34, pc, pr⟩ := id hP
  have hdep := (w2 (T 0 0) i1).1
  have hop := wf_op (w1 _ hat)
  have hcd := pc (T 0 0) hat
  have hargs := w12 (T 0 0) hat
  have cc : ∀ k : Nat, k < 100 → ((nI (G 0 (T 0 0)) = nI k) ↔ G 0 (T 0 0) = k) := fun k hk => nI_eq (by omega) (by omega)
  refine ⟨Nat.le_of_ble_eq_true rfl, fun K hK => ?_⟩
  have k242 : ∀ (I1 : HI) (J1 : HJ), Q (nI (T 0 0 + 1)) I1 J1 → K 242 [(1, .int (nI (T 0 0)))] [] I1 J1 R := by
    intro I1 J1 hq
    refine g_X12_goes_242 hK hs ?_
    rw [nI_1]
    exact hq
  have k242r : ∀ (I1 : HI) (J1 : HJ), (∀ r, Q r I1 J1) → K 242 [(1, .int (nI (T 0 0)))] [] I1 J1 R := fun I1 J1 hq => k242 I1 J1 (hq _)
  refine g_X12_goes_0 hK hs ⟨T 0 0, rfl, by omega, ?_⟩
  rw [hcd.1, hcd.2.1, a47]
  rcases w1 (T 0 0) hat with ⟨q0, q1, q2, q3⟩ | ⟨q0, q1, q2, q3⟩ | ⟨q0, q1, q2, q3, q4⟩ | ⟨q0, q1, q2, q3, q4⟩ | ⟨q0, q1, q2, q3, q4⟩ | ⟨q0, q1, q2, q3, q4⟩ | ⟨q0, q1, q2, q3⟩ | ⟨q0, q1, q2, q3, q4, q5, q6⟩ | ⟨q0, q1, q2, l, q3, q4, q5, q6, q7, q8⟩ | ⟨q0, q1, q2, q3, q4, q5, q6⟩ | ⟨q0, q1, q2, q3, q4, q5, q6⟩
  · have hnx : nextT G T = T 0 0 + 1 := by simp [nextT, q0]
    have hst : stopR G T = 0 := by simp [stopR, q0]; omega
    have z1 : actT G T 1 = fun j => if j = T 0 2 then G 1 (T 0 0) else T 1 j := by simp [actT, q0, pushT, upc_ne, upc_eq]
    have z2 : actT G T 2 = fun j => if j = T 0 2 then 5000 else T 2 j := by simp [actT, q0, pushT, upc_ne, upc_eq]
    have z3 : actT G T 3 = T 3 := by simp [actT, q0, pushT, upc_ne, upc_eq]
    have z4 : actT G T 4 = T 4 := by simp [actT, q0, pushT, upc_ne, upc_eq]
    have z5 : actT G T 5 = T 5 := by simp [actT, q0, pushT, upc_ne, upc_eq]
    have z6 : actT G T 6 = T 6 := by simp [actT, q0, pushT, upc_ne, upc_eq]
    have z7 : actT G T 7 = T 7 := by simp [actT, q0, pushT, upc_ne, upc_eq]
    have z8 : actT G T 8 = T 8 := by simp [actT, q0, pushT, upc_ne, upc_eq]
    have z9 : actT G T 9 = T 9 := by simp [actT, q0, pushT, upc_ne, upc_eq]
    have z10 : actT G T 10 = T 10 := by simp [actT, q0, pushT, upc_ne, upc_eq]
    have z11 : actT G T 11 = T 11 := by simp [actT, q0, pushT, upc_ne, upc_eq]
    have z12 : actT G T 12 = T 12 := by simp [actT, q0, pushT, upc_ne, upc_eq]
    have z13 : actT G T 13 = T 13 := by simp [actT, q0, pushT, upc_ne, upc_eq]
    have z14 : actT G T 14 = T 14 := by simp [actT, q0, pushT, upc_ne, upc_eq]
    have z15 : actT G T 15 = T 15 := by simp [actT, q0, pushT, upc_ne, upc_eq]
    have z16 : actT G T 16 = T 16 := by simp [actT, q0, pushT, upc_ne, upc_eq]
    have z17 : actT G T 17 = T 17 := by simp [actT, q0, pushT, upc_ne, upc_eq]
    have y1 : actT G T 0 1 = T 0 1 := by simp [actT, q0, pushT, up_ap]
    have y2 : actT G T 0 2 = T 0 2 + 1 := by simp [actT, q0, pushT, up_ap]
    have y3 : actT G T 0 3 = T 0 3 := by simp [actT, q0, pushT, up_ap]
    have y4 : actT G T 0 4 = T 0 4 := by simp [actT, q0, pushT, up_ap]
    have y5 : actT G T 0 5 = T 0 5 := by simp [actT, q0, pushT, up_ap]
    have y6 : actT G T 0 6 = T 0 6 := by simp [actT, q0, pushT, up_ap]
    have mz : ∀ (I1 : HI) (J1 : HJ) (L : List Nat), ((I1 80 44 = nI (T 0 4) ∧ I1 80 47 = nI (T 0 2 + 1) ∧ I1 80 54 = nI (T 0 3) ∧ I1 80 56 = nI (T 0 5) ∧ I1 80 57 = nI (T 0 6) ∧ I1 80 61 = nI (T 0 1)) ∧ (rL J1 99 (fun j => if j = T 0 2 then G 1 (T 0 0) else T 1 j) (T 0 2 + 1) ∧ rS I1 100 (fun j => if j = T 0 2 then 5000 else T 2 j) (T 0 2 + 1)) ∧ (rL J1 101 (T 3) 8 ∧ rS I1 102 (T 4) 8) ∧ (rL J1 103 (T 5) 48 ∧ rS I1 104 (T 6) 48) ∧ (rL J1 105 (T 7) (T 0 3) ∧ rS I1 106 (T 8) (T 0 3)) ∧ (rN I1 92 (T 9) (T 0 4) ∧ rN I1 98 (T 10) (T 0 4) ∧ rL J1 93 (T 11) (T 0 4) ∧ rL J1 94 (T 12) (T 0 4) ∧ rL J1 95 (T 13) (T 0 4) ∧ rS I1 96 (T 14) (T 0 4) ∧ rS I1 97 (T 15) (T 0 4)) ∧ rN I1 107 (T 16) (T 0 5) ∧ (∀ l ∈ L, I1 108 l = nI ((T 17) l))) → qM I1 J1 (actT G T) L := by
      intro I1 J1 L hh
      simp only [qM, z1, z2, z3, z4, z5, z6, z7, z8, z9, z10, z11, z12, z13, z14, z15, z16, z17, y1, y2, y3, y4, y5, y6]
      exact hh
    refine ⟨fun _ => ?_, fun hc => absurd ((cc 0 (by decide)).mpr q0) hc⟩
    rw [nI_l (by omega)]
    refine t_mpush hs (by omega) a47 (k242 _ _ ?_)
    rw [← hnx]
    refine h1 hst _ _ (mz _ _ _ ?_) (by simp [up_ap]) (by simp [up_ap]) (frR_J (by decide) (by decide) (frR_f (by decide) (by decide) (frR_I (by decide) (by decide) (frR_rf))))
    rw [hnx, q3]
    exact ⟨⟨(up_nk (by decide)).trans ((up_na (by decide)).trans (a44)), up_s, (up_nk (by decide)).trans ((up_na (by decide)).trans (a54)), (up_nk (by decide)).trans ((up_na (by decide)).trans (a56)), (up_nk (by decide)).trans ((up_na (by decide)).trans (a57)), (up_nk (by decide)).trans ((up_na (by decide)).trans (a61))⟩, ⟨rL_push b99, (rS_ne (by decide)).mpr (rS_push (v := 5000) b100)⟩, ⟨(rL_ne (by decide)).mpr (b101), (rS_ne (by decide)).mpr ((rS_ne (by decide)).mpr (b102))⟩, ⟨(rL_ne (by decide)).mpr (b103), (rS_ne (by decide)).mpr ((rS_ne (by decide)).mpr (b104))⟩, ⟨(rL_ne (by decide)).mpr (b105), (rS_ne (by decide)).mpr ((rS_ne (by decide)).mpr (b106))⟩, ⟨(rN_ne (by decide)).mpr ((rN_ne (by decide)).mpr (b92)), (rN_ne (by decide)).mpr ((rN_ne (by decide)).mpr (b98)), (rL_ne (by decide)).mpr (b93), (rL_ne (by decide)).mpr (b94), (rL_ne (by decide)).mpr (b95), (rS_ne (by decide)).mpr ((rS_ne (by decide)).mpr (b96)), (rS_ne (by decide)).mpr ((rS_ne (by decide)).mpr (b97))⟩, (rN_ne (by decide)).mpr ((rN_ne (by decide)).mpr (b107)), fun l hl => (up_na (by decide)).trans ((up_na (by decide)).trans (b108 l hl))⟩
  · have hnx : nextT G T = T 0 0 + 1 := by simp [nextT, q0]
    have hst : stopR G T = 0 := by simp [stopR, q0]; omega
    have z1 : actT G T 1 = fun j => if j = T 0 2 then T 3 (G 1 (T 0 0)) else T 1 j := by simp [actT, q0, pushT, upc_ne, upc_eq]
    have z2 : actT G T 2 = fun j => if j = T 0 2 then T 4 (G 1 (T 0 0)) else T 2 j := by simp [actT, q0, pushT, upc_ne, upc_eq]
    have z3 : actT G T 3 = T 3 := by simp [actT, q0, pushT, upc_ne, upc_eq]
    have z4 : actT G T 4 = T 4 := by simp [actT, q0, pushT, upc_ne, upc_eq]
    have z5 : actT G T 5 = T 5 := by simp [actT, q0, pushT, upc_ne, upc_eq]
    have z6 : actT G T 6 = T 6 := by simp [actT, q0, pushT, upc_ne, upc_eq]
    have z7 : actT G T 7 = T 7 := by simp [actT, q0, pushT, upc_ne, upc_eq]
    have z8 : actT G T 8 = T 8 := by simp [actT, q0, pushT, upc_ne, upc_eq]
    have z9 : actT G T 9 = T 9 := by simp [actT, q0, pushT, upc_ne, upc_eq]
    have z10 : actT G T 10 = T 10 := by simp [actT, q0, pushT, upc_ne, upc_eq]
    have z11 : actT G T 11 = T 11 := by simp [actT, q0, pushT, upc_ne, upc_eq]
    have z12 : actT G T 12 = T 12 := by simp [actT, q0, pushT, upc_ne, upc_eq]
    have z13 : actT G T 13 = T 13 := by simp [actT, q0, pushT, upc_ne, upc_eq]
    have z14 : actT G T 14 = T 14 := by simp [actT, q0, pushT, upc_ne, upc_eq]
    have z15 : actT G T 15 = T 15 := by simp [actT, q0, pushT, upc_ne, upc_eq]
    have z16 : actT G T 16 = T 16 := by simp [actT, q0, pushT, upc_ne, upc_eq]
    have z17 : actT G T 17 = T 17 := by simp [actT, q0, pushT, upc_ne, upc_eq]
    have y1 : actT G T 0 1 = T 0 1 := by simp [actT, q0, pushT, up_ap]
    have y2 : actT G T 0 2 = T 0 2 + 1 := by simp [actT, q0, pushT, up_ap]
    have y3 : actT G T 0 3 = T 0 3 := by simp [actT, q0, pushT, up_ap]
    have y4 : actT G T 0 4 = T 0 4 := by simp [actT, q0, pushT, up_ap]
    have y5 : actT G T 0 5 = T 0 5 := by simp [actT, q0, pushT, up_ap]
    have y6 : actT G T 0 6 = T 0 6 := by simp [actT, q0, pushT, up_ap]
    have mz : ∀ (I1 : HI) (J1 : HJ) (L : List Nat), ((I1 80 44 = nI (T 0 4) ∧ I1 80 47 = nI (T 0 2 + 1) ∧ I1 80 54 = nI (T 0 3) ∧ I1 80 56 = nI (T 0 5) ∧ I1 80 57 = nI (T 0 6) ∧ I1 80 61 = nI (T 0 1)) ∧ (rL J1 99 (fun j => if j = T 0 2 then T 3 (G 1 (T 0 0)) else T 1 j) (T 0 2 + 1) ∧ rS I1 100 (fun j => if j = T 0 2 then T 4 (G 1 (T 0 0)) else T 2 j) (T 0 2 + 1)) ∧ (rL J1 101 (T 3) 8 ∧ rS I1 102 (T 4) 8) ∧ (rL J1 103 (T 5) 48 ∧ rS I1 104 (T 6) 48) ∧ (rL J1 105 (T 7) (T 0 3) ∧ rS I1 106 (T 8) (T 0 3)) ∧ (rN I1 92 (T 9) (T 0 4) ∧ rN I1 98 (T 10) (T 0 4) ∧ rL J1 93 (T 11) (T 0 4) ∧ rL J1 94 (T 12) (T 0 4) ∧ rL J1 95 (T 13) (T 0 4) ∧ rS I1 96 (T 14) (T 0 4) ∧ rS I1 97 (T 15) (T 0 4)) ∧ rN I1 107 (T 16) (T 0 5) ∧ (∀ l ∈ L, I1 108 l = nI ((T 17) l))) → qM I1 J1 (actT G T) L := by
      intro I1 J1 L hh
      simp only [qM, z1, z2, z3, z4, z5, z6, z7, z8, z9, z10, z11, z12, z13, z14, z15, z16, z17, y1, y2, y3, y4, y5, y6]
      exact hh
    refine ⟨fun hc => absurd ((cc 0 (by decide)).mp hc) (by omega), fun _ => ⟨fun _ => ?_, fun hc => absurd ((cc 1 (by decide)).mpr q0) hc⟩⟩
    refine ⟨G 1 (T 0 0), rfl, by omega, ?_⟩
    rw [b101 _ (by omega), b102 _ (by omega)]
    refine t_mpush hs (by omega) a47 (k242 _ _ ?_)
    rw [← hnx]
    refine h1 hst _ _ (mz _ _ _ ?_) (by simp [up_ap]) (by simp [up_ap]) (frR_J (by decide) (by decide) (frR_f (by decide) (by decide) (frR_I (by decide) (by decide) (frR_rf))))
    rw [hnx, q3]
    exact ⟨⟨(up_nk (by decide)).trans ((up_na (by decide)).trans (a44)), up_s, (up_nk (by decide)).trans ((up_na (by decide)).trans (a54)), (up_nk (by decide)).trans ((up_na (by decide)).trans (a56)), (up_nk (by decide)).trans ((up_na (by decide)).trans (a57)), (up_nk (by decide)).trans ((up_na (by decide)).trans (a61))⟩, ⟨rL_push b99, (rS_ne (by decide)).mpr (rS_push b100)⟩, ⟨(rL_ne (by decide)).mpr (b101), (rS_ne (by decide)).mpr ((rS_ne (by decide)).mpr (b102))⟩, ⟨(rL_ne (by decide)).mpr (b103), (rS_ne (by decide)).mpr ((rS_ne (by decide)).mpr (b104))⟩, ⟨(rL_ne (by decide)).mpr (b105), (rS_ne (by decide)).mpr ((rS_ne (by decide)).mpr (b106))⟩, ⟨(rN_ne (by decide)).mpr ((rN_ne (by decide)).mpr (b92)), (rN_ne (by decide)).mpr ((rN_ne (by decide)).mpr (b98)), (rL_ne (by decide)).mpr (b93), (rL_ne (by decide)).mpr (b94), (rL_ne (by decide)).mpr (b95), (rS_ne (by decide)).mpr ((rS_ne (by decide)).mpr (b96)), (rS_ne (by decide)).mpr ((rS_ne (by decide)).mpr (b97))⟩, (rN_ne (by decide)).mpr ((rN_ne (by decide)).mpr (b107)), fun l hl => (up_na (by decide)).trans ((up_na (by decide)).trans (b108 l hl))⟩
  · have hnx : nextT G T = T 0 0 + 1 := by simp [nextT, q0]
    have z1 : actT G T 1 = fun j => if j = T 0 2 - 1 then T 5 (G 4 (G 1 (T 0 0)) + T 1 (T 0 2 - 1)) else T 1 j := by simp [actT, q0, upc_ne, upc_eq]
    have z2 : actT G T 2 = fun j => if j = T 0 2 - 1 then T 6 (G 4 (G 1 (T 0 0)) + T 1 (T 0 2 - 1)) else T 2 j := by simp [actT, q0, upc_ne, upc_eq]
    have z3 : actT G T 3 = T 3 := by simp [actT, q0, upc_ne, upc_eq]
    have z4 : actT G T 4 = T 4 := by simp [actT, q0, upc_ne, upc_eq]
    have z5 : actT G T 5 = T 5 := by simp [actT, q0, upc_ne, upc_eq]
    have z6 : actT G T 6 = T 6 := by simp [actT, q0, upc_ne, upc_eq]
    have z7 : actT G T 7 = T 7 := by simp [actT, q0, upc_ne, upc_eq]
    have z8 : actT G T 8 = T 8 := by simp [actT, q0, upc_ne, upc_eq]
    have z9 : actT G T 9 = T 9 := by simp [actT, q0, upc_ne, upc_eq]
    have z10 : actT G T 10 = T 10 := by simp [actT, q0, upc_ne, upc_eq]
    have z11 : actT G T 11 = T 11 := by simp [actT, q0, upc_ne, upc_eq]
    have z12 : actT G T 12 = T 12 := by simp [actT, q0, upc_ne, upc_eq]
    have z13 : actT G T 13 = T 13 := by simp [actT, q0, upc_ne, upc_eq]
    have z14 : actT G T 14 = T 14 := by simp [actT, q0, upc_ne, upc_eq]
    have z15 : actT G T 15 = T 15 := by simp [actT, q0, upc_ne, upc_eq]
    have z16 : actT G T 16 = T 16 := by simp [actT, q0, upc_ne, upc_eq]
    have z17 : actT G T 17 = T 17 := by simp [actT, q0, upc_ne, upc_eq]
    have y1 : actT G T 0 1 = T 0 1 := by simp [actT, q0, up_ap]
    have y2 : actT G T 0 2 = T 0 2 := by simp [actT, q0, up_ap]
    have y3 : actT G T 0 3 = T 0 3 := by simp [actT, q0, up_ap]
    have y4 : actT G T 0 4 = T 0 4 := by simp [actT, q0, up_ap]
    have y5 : actT G T 0 5 = T 0 5 := by simp [actT, q0, up_ap]
    have y6 : actT G T 0 6 = T 0 6 := by simp [actT, q0, up_ap]
    have mz : ∀ (I1 : HI) (J1 : HJ) (L : List Nat), ((I1 80 44 = nI (T 0 4) ∧ I1 80 47 = nI (T 0 2) ∧ I1 80 54 = nI (T 0 3) ∧ I1 80 56 = nI (T 0 5) ∧ I1 80 57 = nI (T 0 6) ∧ I1 80 61 = nI (T 0 1)) ∧ (rL J1 99 (fun j => if j = T 0 2 - 1 then T 5 (G 4 (G 1 (T 0 0)) + T 1 (T 0 2 - 1)) else T 1 j) (T 0 2) ∧ rS I1 100 (fun j => if j = T 0 2 - 1 then T 6 (G 4 (G 1 (T 0 0)) + T 1 (T 0 2 - 1)) else T 2 j) (T 0 2)) ∧ (rL J1 101 (T 3) 8 ∧ rS I1 102 (T 4) 8) ∧ (rL J1 103 (T 5) 48 ∧ rS I1 104 (T 6) 48) ∧ (rL J1 105 (T 7) (T 0 3) ∧ rS I1 106 (T 8) (T 0 3)) ∧ (rN I1 92 (T 9) (T 0 4) ∧ rN I1 98 (T 10) (T 0 4) ∧ rL J1 93 (T 11) (T 0 4) ∧ rL J1 94 (T 12) (T 0 4) ∧ rL J1 95 (T 13) (T 0 4) ∧ rS I1 96 (T 14) (T 0 4) ∧ rS I1 97 (T 15) (T 0 4)) ∧ rN I1 107 (T 16) (T 0 5) ∧ (∀ l ∈ L, I1 108 l = nI ((T 17) l))) → qM I1 J1 (actT G T) L := by
      intro I1 J1 L hh
      simp only [qM, z1, z2, z3, z4, z5, z6, z7, z8, z9, z10, z11, z12, z13, z14, z15, z16, z17, y1, y2, y3, y4, y5, y6]
      exact hh
    refine ⟨fun hc => absurd ((cc 0 (by decide)).mp hc) (by omega), fun _ => ⟨fun hc => absurd ((cc 1 (by decide)).mp hc) (by omega), fun _ => ⟨fun _ => ?_, fun hc => absurd ((cc 2 (by decide)).mpr q0) hc⟩⟩⟩
    have hr := w11 _ q3
    have hv := r1 (T 0 2 - 1) (by omega)
    refine e_X12_fetches hs ⟨T 0 2 - 1, ?_, by omega, G 1 (T 0 0), rfl, by omega, ?_⟩
    · rw [a47, sub1 (by omega)]
    rw [b99 _ (by omega), (pr _ q3).1, (pr _ q3).2, ltL (by omega) (by omega), lN_i, nI_add]
    refine ⟨fun hlt => ?_, fun hlt => ?_⟩
    · have hst : stopR G T = 0 := by simp [stopR, q0, hlt]; omega
      refine ⟨_, rfl, by omega, k242 _ _ ?_⟩
      rw [b104 _ (by omega), b103 _ (by omega), ← hnx]
      refine h1 hst _ _ (mz _ _ _ ?_) (by simp [up_ap]) (by simp [up_ap]) (frR_J (by decide) (by decide) (frR_I (by decide) (by decide) (frR_rf)))
      rw [hnx, q4]
      exact ⟨⟨(up_na (by decide)).trans (a44), (up_na (by decide)).trans (a47), (up_na (by decide)).trans (a54), (up_na (by decide)).trans (a56), (up_na (by decide)).trans (a57), (up_na (by decide)).trans (a61)⟩, ⟨rL_set b99, rS_set b100⟩, ⟨(rL_ne (by decide)).mpr (b101), (rS_ne (by decide)).mpr (b102)⟩, ⟨(rL_ne (by decide)).mpr (b103), (rS_ne (by decide)).mpr (b104)⟩, ⟨(rL_ne (by decide)).mpr (b105), (rS_ne (by decide)).mpr (b106)⟩, ⟨(rN_ne (by decide)).mpr (b92), (rN_ne (by decide)).mpr (b98), (rL_ne (by decide)).mpr (b93), (rL_ne (by decide)).mpr (b94), (rL_ne (by decide)).mpr (b95), (rS_ne (by decide)).mpr (b96), (rS_ne (by decide)).mpr (b97)⟩, (rN_ne (by decide)).mpr (b107), fun l hl => (up_na (by decide)).trans (b108 l hl)⟩
    · have hst : stopR G T = 2 := by simp [stopR, q0, hlt]; omega
      refine t_stops hs (k242r _ _ ?_)
      have := h2 (by omega)
      rw [hst] at this
      exact this
  · have n10 : G 0 (T 0 0) ≤ 10 := by omega
    have n0 : ¬ G 0 (T 0 0) = 0 := by omega
    have n1 : ¬ G 0 (T 0 0) = 1 := by omega
    have n2 : ¬ G 0 (T 0 0) = 2 := by omega
    have hnx : nextT G T = T 0 0 + 1 := by simp [nextT, n10]
    have ea : actT G T = enterT G T := by simp [actT, n0, n1, n2, q1]
    have hent : Wd fv (d + 3) M_X12_enters [.ref 80, .int (nI (T 0 0))] I J R (fun _ I21 J22 => K 242 [(1, .int (nI (T 0 0)))] [] I21 J22 R) := by
      refine t_enters hs hw hi hP hM hat hdn q0 q1 q2 (fun hst I' J' g1 g2 g3 g4 => k242 _ _ ?_) (fun hst => k242r _ _ (h2 hst))
      rw [← hnx]
      refine h1 hst I' J' ?_ g2 g3 g4
      rw [ea, hnx, q4]
      exact g1
    have dis : ∀ k, k < 100 → nI (G 0 (T 0 0)) = nI k → 3 ≤ k ∧ k ≤ 6 := fun k hk e => by have := (cc k hk).mp e; omega
    refine ⟨fun hc => absurd (dis 0 (by decide) hc) (by decide), fun _ => ⟨fun hc => absurd (dis 1 (by decide) hc) (by decide), fun _ => ⟨fun hc => absurd (dis 2 (by decide) hc) (by decide), fun _ => ⟨fun _ => hent, fun c3 => ⟨fun _ => hent, fun c4 => ⟨fun _ => hent, fun c5 => ⟨fun _ => hent, fun c6 => False.elim ?_⟩⟩⟩⟩⟩⟩⟩
    have e3 : ¬ G 0 (T 0 0) = 3 := fun q => c3 ((cc 3 (by decide)).mpr q)
    have e4 : ¬ G 0 (T 0 0) = 4 := fun q => c4 ((cc 4 (by decide)).mpr q)
    have e5 : ¬ G 0 (T 0 0) = 5 := fun q => c5 ((cc 5 (by decide)).mpr q)
    have e6 : ¬ G 0 (T 0 0) = 6 := fun q => c6 ((cc 6 (by decide)).mpr q)
    omega
  · have hnx : nextT G T = T 0 0 + 1 := by simp [nextT, q0]
    have hst : stopR G T = 0 := by simp [stopR, q0]; omega
    have z1 : actT G T 1 = T 1 := by simp [actT, q0, upc_ne, upc_eq]
    have z2 : actT G T 2 = T 2 := by simp [actT, q0, upc_ne, upc_eq]
    have z3 : actT G T 3 = fun j => if j = G 1 (T 0 0) then T 1 (T 0 2 - 1) else T 3 j := by simp [actT, q0, upc_ne, upc_eq]
    have z4 : actT G T 4 = fun j => if j = G 1 (T 0 0) then T 2 (T 0 2 - 1) else T 4 j := by simp [actT, q0, upc_ne, upc_eq]
    have z5 : actT G T 5 = T 5 := by simp [actT, q0, upc_ne, upc_eq]
    have z6 : actT G T 6 = T 6 := by simp [actT, q0, upc_ne, upc_eq]
    have z7 : actT G T 7 = T 7 := by simp [actT, q0, upc_ne, upc_eq]
    have z8 : actT G T 8 = T 8 := by simp [actT, q0, upc_ne, upc_eq]
    have z9 : actT G T 9 = T 9 := by simp [actT, q0, upc_ne, upc_eq]
    have z10 : actT G T 10 = T 10 := by simp [actT, q0, upc_ne, upc_eq]
    have z11 : actT G T 11 = T 11 := by simp [actT, q0, upc_ne, upc_eq]
    have z12 : actT G T 12 = T 12 := by simp [actT, q0, upc_ne, upc_eq]
    have z13 : actT G T 13 = T 13 := by simp [actT, q0, upc_ne, upc_eq]
    have z14 : actT G T 14 = T 14 := by simp [actT, q0, upc_ne, upc_eq]
    have z15 : actT G T 15 = T 15 := by simp [actT, q0, upc_ne, upc_eq]
    have z16 : actT G T 16 = T 16 := by simp [actT, q0, upc_ne, upc_eq]
    have z17 : actT G T 17 = T 17 := by simp [actT, q0, upc_ne, upc_eq]
    have y1 : actT G T 0 1 = T 0 1 := by simp [actT, q0, up_ap]
    have y2 : actT G T 0 2 = T 0 2 - 1 := by simp [actT, q0, up_ap]
    have y3 : actT G T 0 3 = T 0 3 := by simp [actT, q0, up_ap]
    have y4 : actT G T 0 4 = T 0 4 := by simp [actT, q0, up_ap]
    have y5 : actT G T 0 5 = T 0 5 := by simp [actT, q0, up_ap]
    have y6 : actT G T 0 6 = T 0 6 := by simp [actT, q0, up_ap]
    have mz : ∀ (I1 : HI) (J1 : HJ) (L : List Nat), ((I1 80 44 = nI (T 0 4) ∧ I1 80 47 = nI (T 0 2 - 1) ∧ I1 80 54 = nI (T 0 3) ∧ I1 80 56 = nI (T 0 5) ∧ I1 80 57 = nI (T 0 6) ∧ I1 80 61 = nI (T 0 1)) ∧ (rL J1 99 (T 1) (T 0 2 - 1) ∧ rS I1 100 (T 2) (T 0 2 - 1)) ∧ (rL J1 101 (fun j => if j = G 1 (T 0 0) then T 1 (T 0 2 - 1) else T 3 j) 8 ∧ rS I1 102 (fun j => if j = G 1 (T 0 0) then T 2 (T 0 2 - 1) else T 4 j) 8) ∧ (rL J1 103 (T 5) 48 ∧ rS I1 104 (T 6) 48) ∧ (rL J1 105 (T 7) (T 0 3) ∧ rS I1 106 (T 8) (T 0 3)) ∧ (rN I1 92 (T 9) (T 0 4) ∧ rN I1 98 (T 10) (T 0 4) ∧ rL J1 93 (T 11) (T 0 4) ∧ rL J1 94 (T 12) (T 0 4) ∧ rL J1 95 (T 13) (T 0 4) ∧ rS I1 96 (T 14) (T 0 4) ∧ rS I1 97 (T 15) (T 0 4)) ∧ rN I1 107 (T 16) (T 0 5) ∧ (∀ l ∈ L, I1 108 l = nI ((T 17) l))) → qM I1 J1 (actT G T) L := by
      intro I1 J1 L hh
      simp only [qM, z1, z2, z3, z4, z5, z6, z7, z8, z9, z10, z11, z12, z13, z14, z15, z16, z17, y1, y2, y3, y4, y5, y6]
      exact hh
    refine ⟨fun hc => absurd ((cc 0 (by decide)).mp hc) (by omega), fun _ => ⟨fun hc => absurd ((cc 1 (by decide)).mp hc) (by omega), fun _ => ⟨fun hc => absurd ((cc 2 (by decide)).mp hc) (by omega), fun _ => ⟨fun hc => absurd ((cc 3 (by decide)).mp hc) (by omega), fun _ => ⟨fun hc => absurd ((cc 4 (by decide)).mp hc) (by omega), fun _ => ⟨fun hc => absurd ((cc 5 (by decide)).mp hc) (by omega), fun _ => ⟨fun hc => absurd ((cc 6 (by decide)).mp hc) (by omega), fun _ => ⟨fun _ => ?_, fun hc => absurd ((cc 7 (by decide)).mpr q0) hc⟩⟩⟩⟩⟩⟩⟩⟩
    rw [sub1 (by omega)]
    refine ⟨T 0 2 - 1, rfl, by omega, G 1 (T 0 0), rfl, by omega, k242 _ _ ?_⟩
    rw [b100 _ (by omega), b99 _ (by omega), ← hnx]
    refine h1 hst _ _ (mz _ _ _ ?_) (by simp [up_ap]) (by simp [up_ap]) (frR_J (by decide) (by decide) (frR_I (by decide) (by decide) (frR_f (by decide) (by decide) (frR_rf))))
    rw [hnx, q4]
    exact ⟨⟨(up_na (by decide)).trans ((up_nk (by decide)).trans (a44)), (up_na (by decide)).trans up_s, (up_na (by decide)).trans ((up_nk (by decide)).trans (a54)), (up_na (by decide)).trans ((up_nk (by decide)).trans (a56)), (up_na (by decide)).trans ((up_nk (by decide)).trans (a57)), (up_na (by decide)).trans ((up_nk (by decide)).trans (a61))⟩, ⟨(rL_ne (by decide)).mpr (rL_le (by omega) b99), (rS_ne (by decide)).mpr ((rS_ne (by decide)).mpr (rS_le (by omega) b100))⟩, ⟨rL_set b101, rS_set ((rS_ne (by decide)).mpr b102)⟩, ⟨(rL_ne (by decide)).mpr (b103), (rS_ne (by decide)).mpr ((rS_ne (by decide)).mpr (b104))⟩, ⟨(rL_ne (by decide)).mpr (b105), (rS_ne (by decide)).mpr ((rS_ne (by decide)).mpr (b106))⟩, ⟨(rN_ne (by decide)).mpr ((rN_ne (by decide)).mpr (b92)), (rN_ne (by decide)).mpr ((rN_ne (by decide)).mpr (b98)), (rL_ne (by decide)).mpr (b93), (rL_ne (by decide)).mpr (b94), (rL_ne (by decide)).mpr (b95), (rS_ne (by decide)).mpr ((rS_ne (by decide)).mpr (b96)), (rS_ne (by decide)).mpr ((rS_ne (by decide)).mpr (b97))⟩, (rN_ne (by decide)).mpr ((rN_ne (by decide)).mpr (b107)), fun l hl => (up_na (by decide)).trans ((up_na (by decide)).trans (b108 l hl))⟩
  · have hnx : nextT G T = T 0 0 + 1 := by simp [nextT, q0]
    have z1 : actT G T 1 = T 1 := by simp [actT, q0, upc_ne, upc_eq]
    have z2 : actT G T 2 = T 2 := by simp [actT, q0, upc_ne, upc_eq]
    have z3 : actT G T 3 = T 3 := by simp [actT, q0, upc_ne, upc_eq]
    have z4 : actT G T 4 = T 4 := by simp [actT, q0, upc_ne, upc_eq]
    have z5 : actT G T 5 = fun j => if j = (G 4 (G 1 (T 0 0)) + T 1 (T 0 2 - 2)) then T 1 (T 0 2 - 1) else T 5 j := by simp [actT, q0, upc_ne, upc_eq]
    have z6 : actT G T 6 = fun j => if j = (G 4 (G 1 (T 0 0)) + T 1 (T 0 2 - 2)) then T 2 (T 0 2 - 1) else T 6 j := by simp [actT, q0, upc_ne, upc_eq]
    have z7 : actT G T 7 = T 7 := by simp [actT, q0, upc_ne, upc_eq]
    have z8 : actT G T 8 = T 8 := by simp [actT, q0, upc_ne, upc_eq]
    have z9 : actT G T 9 = T 9 := by simp [actT, q0, upc_ne, upc_eq]
    have z10 : actT G T 10 = T 10 := by simp [actT, q0, upc_ne, upc_eq]
    have z11 : actT G T 11 = T 11 := by simp [actT, q0, upc_ne, upc_eq]
    have z12 : actT G T 12 = T 12 := by simp [actT, q0, upc_ne, upc_eq]
    have z13 : actT G T 13 = T 13 := by simp [actT, q0, upc_ne, upc_eq]
    have z14 : actT G T 14 = T 14 := by simp [actT, q0, upc_ne, upc_eq]
    have z15 : actT G T 15 = T 15 := by simp [actT, q0, upc_ne, upc_eq]
    have z16 : actT G T 16 = T 16 := by simp [actT, q0, upc_ne, upc_eq]
    have z17 : actT G T 17 = T 17 := by simp [actT, q0, upc_ne, upc_eq]
    have y1 : actT G T 0 1 = T 0 1 := by simp [actT, q0, up_ap]
    have y2 : actT G T 0 2 = T 0 2 - 2 := by simp [actT, q0, up_ap]
    have y3 : actT G T 0 3 = T 0 3 := by simp [actT, q0, up_ap]
    have y4 : actT G T 0 4 = T 0 4 := by simp [actT, q0, up_ap]
    have y5 : actT G T 0 5 = T 0 5 := by simp [actT, q0, up_ap]
    have y6 : actT G T 0 6 = T 0 6 := by simp [actT, q0, up_ap]
    have mz : ∀ (I1 : HI) (J1 : HJ) (L : List Nat), ((I1 80 44 = nI (T 0 4) ∧ I1 80 47 = nI (T 0 2 - 2) ∧ I1 80 54 = nI (T 0 3) ∧ I1 80 56 = nI (T 0 5) ∧ I1 80 57 = nI (T 0 6) ∧ I1 80 61 = nI (T 0 1)) ∧ (rL J1 99 (T 1) (T 0 2 - 2) ∧ rS I1 100 (T 2) (T 0 2 - 2)) ∧ (rL J1 101 (T 3) 8 ∧ rS I1 102 (T 4) 8) ∧ (rL J1 103 (fun j => if j = (G 4 (G 1 (T 0 0)) + T 1 (T 0 2 - 2)) then T 1 (T 0 2 - 1) else T 5 j) 48 ∧ rS I1 104 (fun j => if j = (G 4 (G 1 (T 0 0)) + T 1 (T 0 2 - 2)) then T 2 (T 0 2 - 1) else T 6 j) 48) ∧ (rL J1 105 (T 7) (T 0 3) ∧ rS I1 106 (T 8) (T 0 3)) ∧ (rN I1 92 (T 9) (T 0 4) ∧ rN I1 98 (T 10) (T 0 4) ∧ rL J1 93 (T 11) (T 0 4) ∧ rL J1 94 (T 12) (T 0 4) ∧ rL J1 95 (T 13) (T 0 4) ∧ rS I1 96 (T 14) (T 0 4) ∧ rS I1 97 (T 15) (T 0 4)) ∧ rN I1 107 (T 16) (T 0 5) ∧ (∀ l ∈ L, I1 108 l = nI ((T 17) l))) → qM I1 J1 (actT G T) L := by
      intro I1 J1 L hh
      simp only [qM, z1, z2, z3, z4, z5, z6, z7, z8, z9, z10, z11, z12, z13, z14, z15, z16, z17, y1, y2, y3, y4, y5, y6]
      exact hh
    refine ⟨fun hc => absurd ((cc 0 (by decide)).mp hc) (by omega), fun _ => ⟨fun hc => absurd ((cc 1 (by decide)).mp hc) (by omega), fun _ => ⟨fun hc => absurd ((cc 2 (by decide)).mp hc) (by omega), fun _ => ⟨fun hc => absurd ((cc 3 (by decide)).mp hc) (by omega), fun _ => ⟨fun hc => absurd ((cc 4 (by decide)).mp hc) (by omega), fun _ => ⟨fun hc => absurd ((cc 5 (by decide)).mp hc) (by omega), fun _ => ⟨fun hc => absurd ((cc 6 (by decide)).mp hc) (by omega), fun _ => ⟨fun hc => absurd ((cc 7 (by decide)).mp hc) (by omega), fun _ => ⟨fun _ => ?_, fun hc => absurd ((cc 8 (by decide)).mpr q0) hc⟩⟩⟩⟩⟩⟩⟩⟩⟩
    have hr := w11 _ q3
    have hv := r1 (T 0 2 - 2) (by omega)
    refine e_X12_puts hs ⟨T 0 2 - 2, ?_, by omega, G 1 (T 0 0), rfl, by omega, ?_⟩
    · rw [a47, sub2 (by omega)]
    rw [b99 _ (by omega), (pr _ q3).1, (pr _ q3).2, ltL (by omega) (by omega), lN_i, nI_add, a47, sub1 (by omega), sub2 (by omega)]
    refine ⟨fun hlt => ?_, fun hlt => ?_⟩
    · have hst : stopR G T = 0 := by simp [stopR, q0, hlt]; omega
      refine ⟨T 0 2 - 1, rfl, by omega, _, rfl, by omega, k242 _ _ ?_⟩
      rw [b100 _ (by omega), b99 _ (by omega), ← hnx]
      refine h1 hst _ _ (mz _ _ _ ?_) (by simp [up_ap]) (by simp [up_ap]) (frR_J (by decide) (by decide) (frR_f (by decide) (by decide) (frR_I (by decide) (by decide) (frR_rf))))
      rw [hnx, q4]
      exact ⟨⟨(up_nk (by decide)).trans ((up_na (by decide)).trans (a44)), up_s, (up_nk (by decide)).trans ((up_na (by decide)).trans (a54)), (up_nk (by decide)).trans ((up_na (by decide)).trans (a56)), (up_nk (by decide)).trans ((up_na (by decide)).trans (a57)), (up_nk (by decide)).trans ((up_na (by decide)).trans (a61))⟩, ⟨(rL_ne (by decide)).mpr (rL_le (by omega) b99), (rS_ne (by decide)).mpr ((rS_ne (by decide)).mpr (rS_le (by omega) b100))⟩, ⟨(rL_ne (by decide)).mpr (b101), (rS_ne (by decide)).mpr ((rS_ne (by decide)).mpr (b102))⟩, ⟨rL_set b103, (rS_ne (by decide)).mpr (rS_set b104)⟩, ⟨(rL_ne (by decide)).mpr (b105), (rS_ne (by decide)).mpr ((rS_ne (by decide)).mpr (b106))⟩, ⟨(rN_ne (by decide)).mpr ((rN_ne (by decide)).mpr (b92)), (rN_ne (by decide)).mpr ((rN_ne (by decide)).mpr (b98)), (rL_ne (by decide)).mpr (b93), (rL_ne (by decide)).mpr (b94), (rL_ne (by decide)).mpr (b95), (rS_ne (by decide)).mpr ((rS_ne (by decide)).mpr (b96)), (rS_ne (by decide)).mpr ((rS_ne (by decide)).mpr (b97))⟩, (rN_ne (by decide)).mpr ((rN_ne (by decide)).mpr (b107)), fun l hl => (up_na (by decide)).trans ((up_na (by decide)).trans (b108 l hl))⟩
    · have hst : stopR G T = 2 := by simp [stopR, q0, hlt]; omega
      refine t_stops hs (k242r _ _ ?_)
      have := h2 (by omega)
      rw [hst] at this
      exact this
  · have hnx : nextT G T = T 0 0 + 1 := by simp [nextT, q0]
    have z1 : actT G T 1 = T 1 := by simp [actT, q0, upc_ne, upc_eq]
    have z2 : actT G T 2 = T 2 := by simp [actT, q0, upc_ne, upc_eq]
    have z3 : actT G T 3 = T 3 := by simp [actT, q0, upc_ne, upc_eq]
    have z4 : actT G T 4 = T 4 := by simp [actT, q0, upc_ne, upc_eq]
    have z5 : actT G T 5 = T 5 := by simp [actT, q0, upc_ne, upc_eq]
    have z6 : actT G T 6 = T 6 := by simp [actT, q0, upc_ne, upc_eq]
    have z7 : actT G T 7 = fun j => if j = T 0 3 then T 1 (T 0 2 - 1) else T 7 j := by simp [actT, q0, upc_ne, upc_eq]
    have z8 : actT G T 8 = fun j => if j = T 0 3 then T 2 (T 0 2 - 1) else T 8 j := by simp [actT, q0, upc_ne, upc_eq]
    have z9 : actT G T 9 = T 9 := by simp [actT, q0, upc_ne, upc_eq]
    have z10 : actT G T 10 = T 10 := by simp [actT, q0, upc_ne, upc_eq]
    have z11 : actT G T 11 = T 11 := by simp [actT, q0, upc_ne, upc_eq]
    have z12 : actT G T 12 = T 12 := by simp [actT, q0, upc_ne, upc_eq]
    have z13 : actT G T 13 = T 13 := by simp [actT, q0, upc_ne, upc_eq]
    have z14 : actT G T 14 = T 14 := by simp [actT, q0, upc_ne, upc_eq]
    have z15 : actT G T 15 = T 15 := by simp [actT, q0, upc_ne, upc_eq]
    have z16 : actT G T 16 = T 16 := by simp [actT, q0, upc_ne, upc_eq]
    have z17 : actT G T 17 = T 17 := by simp [actT, q0, upc_ne, upc_eq]
    have y1 : actT G T 0 1 = T 0 1 := by simp [actT, q0, up_ap]
    have y2 : actT G T 0 2 = T 0 2 - 1 := by simp [actT, q0, up_ap]
    have y3 : actT G T 0 3 = T 0 3 + 1 := by simp [actT, q0, up_ap]
    have y4 : actT G T 0 4 = T 0 4 := by simp [actT, q0, up_ap]
    have y5 : actT G T 0 5 = T 0 5 := by simp [actT, q0, up_ap]
    have y6 : actT G T 0 6 = T 0 6 := by simp [actT, q0, up_ap]
    have mz : ∀ (I1 : HI) (J1 : HJ) (L : List Nat), ((I1 80 44 = nI (T 0 4) ∧ I1 80 47 = nI (T 0 2 - 1) ∧ I1 80 54 = nI (T 0 3 + 1) ∧ I1 80 56 = nI (T 0 5) ∧ I1 80 57 = nI (T 0 6) ∧ I1 80 61 = nI (T 0 1)) ∧ (rL J1 99 (T 1) (T 0 2 - 1) ∧ rS I1 100 (T 2) (T 0 2 - 1)) ∧ (rL J1 101 (T 3) 8 ∧ rS I1 102 (T 4) 8) ∧ (rL J1 103 (T 5) 48 ∧ rS I1 104 (T 6) 48) ∧ (rL J1 105 (fun j => if j = T 0 3 then T 1 (T 0 2 - 1) else T 7 j) (T 0 3 + 1) ∧ rS I1 106 (fun j => if j = T 0 3 then T 2 (T 0 2 - 1) else T 8 j) (T 0 3 + 1)) ∧ (rN I1 92 (T 9) (T 0 4) ∧ rN I1 98 (T 10) (T 0 4) ∧ rL J1 93 (T 11) (T 0 4) ∧ rL J1 94 (T 12) (T 0 4) ∧ rL J1 95 (T 13) (T 0 4) ∧ rS I1 96 (T 14) (T 0 4) ∧ rS I1 97 (T 15) (T 0 4)) ∧ rN I1 107 (T 16) (T 0 5) ∧ (∀ l ∈ L, I1 108 l = nI ((T 17) l))) → qM I1 J1 (actT G T) L := by
      intro I1 J1 L hh
      simp only [qM, z1, z2, z3, z4, z5, z6, z7, z8, z9, z10, z11, z12, z13, z14, z15, z16, z17, y1, y2, y3, y4, y5, y6]
      exact hh
    refine ⟨fun hc => absurd ((cc 0 (by decide)).mp hc) (by omega), fun _ => ⟨fun hc => absurd ((cc 1 (by decide)).mp hc) (by omega), fun _ => ⟨fun hc => absurd ((cc 2 (by decide)).mp hc) (by omega), fun _ => ⟨fun hc => absurd ((cc 3 (by decide)).mp hc) (by omega), fun _ => ⟨fun hc => absurd ((cc 4 (by decide)).mp hc) (by omega), fun _ => ⟨fun hc => absurd ((cc 5 (by decide)).mp hc) (by omega), fun _ => ⟨fun hc => absurd ((cc 6 (by decide)).mp hc) (by omega), fun _ => ⟨fun hc => absurd ((cc 7 (by decide)).mp hc) (by omega), fun _ => ⟨fun hc => absurd ((cc 8 (by decide)).mp hc) (by omega), fun _ => ⟨fun _ => ?_, fun hc => absurd ((cc 9 (by decide)).mpr q0) hc⟩⟩⟩⟩⟩⟩⟩⟩⟩⟩
    refine e_X12_tellsOut hs ?_
    have c20 : (nI (T 0 3) = (20 : Int32)) ↔ T 0 3 = 20 := nI_eq (by omega) (by decide)
    rw [a54, c20, a47, sub1 (by omega), nI_1]
    refine ⟨fun hlt => ?_, fun hlt => ?_⟩
    · have hst : stopR G T = 0 := by
        simp only [stopR]
        rw [if_neg (by omega), if_neg (by omega), if_neg (by omega), if_neg (by omega), if_neg (by omega), if_neg (by omega)]
      refine ⟨T 0 2 - 1, rfl, by omega, T 0 3, rfl, by omega, k242 _ _ ?_⟩
      rw [b100 _ (by omega), b99 _ (by omega), ← hnx]
      refine h1 hst _ _ (mz _ _ _ ?_) (by simp [up_ap]) (by simp [up_ap]) (frR_J (by decide) (by decide) (frR_f (by decide) (by decide) (frR_I (by decide) (by decide) (frR_f (by decide) (by decide) (frR_rf)))))
      rw [hnx, q3]
      exact ⟨⟨(up_nk (by decide)).trans ((up_na (by decide)).trans ((up_nk (by decide)).trans (a44))), (up_nk (by decide)).trans ((up_na (by decide)).trans up_s), up_s, (up_nk (by decide)).trans ((up_na (by decide)).trans ((up_nk (by decide)).trans (a56))), (up_nk (by decide)).trans ((up_na (by decide)).trans ((up_nk (by decide)).trans (a57))), (up_nk (by decide)).trans ((up_na (by decide)).trans ((up_nk (by decide)).trans (a61)))⟩, ⟨(rL_ne (by decide)).mpr (rL_le (by omega) b99), (rS_ne (by decide)).mpr ((rS_ne (by decide)).mpr ((rS_ne (by decide)).mpr (rS_le (by omega) b100)))⟩, ⟨(rL_ne (by decide)).mpr (b101), (rS_ne (by decide)).mpr ((rS_ne (by decide)).mpr ((rS_ne (by decide)).mpr (b102)))⟩, ⟨(rL_ne (by decide)).mpr (b103), (rS_ne (by decide)).mpr ((rS_ne (by decide)).mpr ((rS_ne (by decide)).mpr (b104)))⟩, ⟨rL_push b105, (rS_ne (by decide)).mpr (rS_push ((rS_ne (by decide)).mpr b106))⟩, ⟨(rN_ne (by decide)).mpr ((rN_ne (by decide)).mpr ((rN_ne (by decide)).mpr (b92))), (rN_ne (by decide)).mpr ((rN_ne (by decide)).mpr ((rN_ne (by decide)).mpr (b98))), (rL_ne (by decide)).mpr (b93), (rL_ne (by decide)).mpr (b94), (rL_ne (by decide)).mpr (b95), (rS_ne (by decide)).mpr ((rS_ne (by decide)).mpr ((rS_ne (by decide)).mpr (b96))), (rS_ne (by decide)).mpr ((rS_ne (by decide)).mpr ((rS_ne (by decide)).mpr (b97)))⟩, (rN_ne (by decide)).mpr ((rN_ne (by decide)).mpr ((rN_ne (by decide)).mpr (b107))), fun l hl => (up_na (by decide)).trans ((up_na (by decide)).trans ((up_na (by decide)).trans (b108 l hl)))⟩
    · have hst : stopR G T = 5 := by simp [stopR, q0, hlt]; omega
      refine t_stops hs (k242r _ _ ?_)
      have := h2 (by omega)
      rw [hst] at this
      exact this
  · have hnx : nextT G T = T 0 0 + 1 := by simp [nextT, q0]
    have hst : stopR G T = 0 := by simp [stopR, q0]; omega
    have z1 : actT G T 1 = T 1 := by simp [actT, q0, upc_ne, upc_eq]
    have z2 : actT G T 2 = T 2 := by simp [actT, q0, upc_ne, upc_eq]
    have z3 : actT G T 3 = fun j => if j = G 1 (T 0 0) then 0 else T 3 j := by simp [actT, q0, upc_ne, upc_eq]
    have z4 : actT G T 4 = fun j => if j = G 1 (T 0 0) then 5000 else T 4 j := by simp [actT, q0, upc_ne, upc_eq]
    have z5 : actT G T 5 = T 5 := by simp [actT, q0, upc_ne, upc_eq]
    have z6 : actT G T 6 = T 6 := by simp [actT, q0, upc_ne, upc_eq]
    have z7 : actT G T 7 = T 7 := by simp [actT, q0, upc_ne, upc_eq]
    have z8 : actT G T 8 = T 8 := by simp [actT, q0, upc_ne, upc_eq]
    have z9 : actT G T 9 = T 9 := by simp [actT, q0, upc_ne, upc_eq]
    have z10 : actT G T 10 = T 10 := by simp [actT, q0, upc_ne, upc_eq]
    have z11 : actT G T 11 = T 11 := by simp [actT, q0, upc_ne, upc_eq]
    have z12 : actT G T 12 = T 12 := by simp [actT, q0, upc_ne, upc_eq]
    have z13 : actT G T 13 = T 13 := by simp [actT, q0, upc_ne, upc_eq]
    have z14 : actT G T 14 = T 14 := by simp [actT, q0, upc_ne, upc_eq]
    have z15 : actT G T 15 = T 15 := by simp [actT, q0, upc_ne, upc_eq]
    have z16 : actT G T 16 = T 16 := by simp [actT, q0, upc_ne, upc_eq]
    have z17 : actT G T 17 = fun j => if j = T 0 0 then 0 else T 17 j := by simp [actT, q0, upc_ne, upc_eq]
    have y1 : actT G T 0 1 = T 0 1 := by simp [actT, q0, up_ap]
    have y2 : actT G T 0 2 = T 0 2 := by simp [actT, q0, up_ap]
    have y3 : actT G T 0 3 = T 0 3 := by simp [actT, q0, up_ap]
    have y4 : actT G T 0 4 = T 0 4 := by simp [actT, q0, up_ap]
    have y5 : actT G T 0 5 = T 0 5 := by simp [actT, q0, up_ap]
    have y6 : actT G T 0 6 = T 0 6 := by simp [actT, q0, up_ap]
    have mz : ∀ (I1 : HI) (J1 : HJ) (L : List Nat), ((I1 80 44 = nI (T 0 4) ∧ I1 80 47 = nI (T 0 2) ∧ I1 80 54 = nI (T 0 3) ∧ I1 80 56 = nI (T 0 5) ∧ I1 80 57 = nI (T 0 6) ∧ I1 80 61 = nI (T 0 1)) ∧ (rL J1 99 (T 1) (T 0 2) ∧ rS I1 100 (T 2) (T 0 2)) ∧ (rL J1 101 (fun j => if j = G 1 (T 0 0) then 0 else T 3 j) 8 ∧ rS I1 102 (fun j => if j = G 1 (T 0 0) then 5000 else T 4 j) 8) ∧ (rL J1 103 (T 5) 48 ∧ rS I1 104 (T 6) 48) ∧ (rL J1 105 (T 7) (T 0 3) ∧ rS I1 106 (T 8) (T 0 3)) ∧ (rN I1 92 (T 9) (T 0 4) ∧ rN I1 98 (T 10) (T 0 4) ∧ rL J1 93 (T 11) (T 0 4) ∧ rL J1 94 (T 12) (T 0 4) ∧ rL J1 95 (T 13) (T 0 4) ∧ rS I1 96 (T 14) (T 0 4) ∧ rS I1 97 (T 15) (T 0 4)) ∧ rN I1 107 (T 16) (T 0 5) ∧ (∀ l ∈ L, I1 108 l = nI ((fun j => if j = T 0 0 then 0 else T 17 j) l))) → qM I1 J1 (actT G T) L := by
      intro I1 J1 L hh
      simp only [qM, z1, z2, z3, z4, z5, z6, z7, z8, z9, z10, z11, z12, z13, z14, z15, z16, z17, y1, y2, y3, y4, y5, y6]
      exact hh
    refine ⟨fun hc => absurd ((cc 0 (by decide)).mp hc) (by omega), fun _ => ⟨fun hc => absurd ((cc 1 (by decide)).mp hc) (by omega), fun _ => ⟨fun hc => absurd ((cc 2 (by decide)).mp hc) (by omega), fun _ => ⟨fun hc => absurd ((cc 3 (by decide)).mp hc) (by omega), fun _ => ⟨fun hc => absurd ((cc 4 (by decide)).mp hc) (by omega), fun _ => ⟨fun hc => absurd ((cc 5 (by decide)).mp hc) (by omega), fun _ => ⟨fun hc => absurd ((cc 6 (by decide)).mp hc) (by omega), fun _ => ⟨fun hc => absurd ((cc 7 (by decide)).mp hc) (by omega), fun _ => ⟨fun hc => absurd ((cc 8 (by decide)).mp hc) (by omega), fun _ => ⟨fun hc => absurd ((cc 9 (by decide)).mp hc) (by omega), fun _ => ⟨fun _ => ?_, fun hc => absurd ((cc 10 (by decide)).mpr q0) hc⟩⟩⟩⟩⟩⟩⟩⟩⟩⟩⟩
    refine ⟨by omega, G 1 (T 0 0), rfl, by omega, k242 _ _ ?_⟩
    rw [← hnx]
    refine h1 hst _ _ (mz _ _ _ ?_) (by simp [up_ap]) (by simp [up_ap]) (frR_J (by decide) (by decide) (frR_I (by decide) (by decide) (frR_I (by decide) (by decide) (frR_rf))))
    rw [hnx, q4]
    refine ⟨⟨(up_na (by decide)).trans ((up_na (by decide)).trans (a44)), (up_na (by decide)).trans ((up_na (by decide)).trans (a47)), (up_na (by decide)).trans ((up_na (by decide)).trans (a54)), (up_na (by decide)).trans ((up_na (by decide)).trans (a56)), (up_na (by decide)).trans ((up_na (by decide)).trans (a57)), (up_na (by decide)).trans ((up_na (by decide)).trans (a61))⟩, ⟨(rL_ne (by decide)).mpr (b99), (rS_ne (by decide)).mpr ((rS_ne (by decide)).mpr (b100))⟩, ⟨rL_set (v := 0) b101, rS_set (v := 5000) ((rS_ne (by decide)).mpr b102)⟩, ⟨(rL_ne (by decide)).mpr (b103), (rS_ne (by decide)).mpr ((rS_ne (by decide)).mpr (b104))⟩, ⟨(rL_ne (by decide)).mpr (b105), (rS_ne (by decide)).mpr ((rS_ne (by decide)).mpr (b106))⟩, ⟨(rN_ne (by decide)).mpr ((rN_ne (by decide)).mpr (b92)), (rN_ne (by decide)).mpr ((rN_ne (by decide)).mpr (b98)), (rL_ne (by decide)).mpr (b93), (rL_ne (by decide)).mpr (b94), (rL_ne (by decide)).mpr (b95), (rS_ne (by decide)).mpr ((rS_ne (by decide)).mpr (b96)), (rS_ne (by decide)).mpr ((rS_ne (by decide)).mpr (b97))⟩, (rN_ne (by decide)).mpr ((rN_ne (by decide)).mpr (b107)), fun l hl => ?_⟩
    rw [up_na (show ¬ 108 = 102 by decide)]
    rcases List.mem_cons.mp hl with rfl | hl
    · simp [up_ap, nI_0]
    · have := (w2 (T 0 0) i1).2.2 l hl
      rw [up_nk (by omega)]
      show I 108 l = nI (if l = T 0 0 then 0 else T 17 l)
      rw [if_neg (by omega)]
      exact b108 l hl
  · have hll := hL l (by rw [q6]; exact List.mem_cons_self)
    have hl0 : l < G 3 0 := by omega
    obtain ⟨g1, g2, -⟩ := wf_loop (w1 l hl0) q5
    have hne : ∀ x ∈ N (T 0 0 + 1), ¬ x = l := by
      intro x hx e
      rw [q7, q6] at g2
      have hl3 := (List.cons.inj g2).2
      rw [hl3] at hx
      have := (w2 l (by omega)).2.2 x hx
      omega
    have hst : stopR G T = 0 := by simp [stopR, q0]; omega
    have hcl := pc l hl0
    have hgl : I 108 l = nI (T 17 l) := b108 l (by rw [q6]; exact List.mem_cons_self)
    refine ⟨fun hc => absurd ((cc 0 (by decide)).mp hc) (by omega), fun _ => ⟨fun hc => absurd ((cc 1 (by decide)).mp hc) (by omega), fun _ => ⟨fun hc => absurd ((cc 2 (by decide)).mp hc) (by omega), fun _ => ⟨fun hc => absurd ((cc 3 (by decide)).mp hc) (by omega), fun _ => ⟨fun hc => absurd ((cc 4 (by decide)).mp hc) (by omega), fun _ => ⟨fun hc => absurd ((cc 5 (by decide)).mp hc) (by omega), fun _ => ⟨fun hc => absurd ((cc 6 (by decide)).mp hc) (by omega), fun _ => ⟨fun hc => absurd ((cc 7 (by decide)).mp hc) (by omega), fun _ => ⟨fun hc => absurd ((cc 8 (by decide)).mp hc) (by omega), fun _ => ⟨fun hc => absurd ((cc 9 (by decide)).mp hc) (by omega), fun _ => ⟨fun hc => absurd ((cc 10 (by decide)).mp hc) (by omega), fun _ => ⟨fun _ => ?_, fun hc => absurd ((cc 11 (by decide)).mpr q0) hc⟩⟩⟩⟩⟩⟩⟩⟩⟩⟩⟩⟩
    rw [q3]
    refine e_X12_nextTo hs ⟨l, by rw [sub1 (by omega)]; rfl, by omega, ?_⟩
    rw [hgl, hcl.2.2, hcl.2.1, nI_1, nI_1]
    have ceq : (nI (T 17 l + 1) = nI (G 2 l)) ↔ T 17 l + 1 = G 2 l := nI_eq (by omega) (by omega)
    rw [ceq]
    refine ⟨fun hc => ?_, fun hc => ?_⟩
    · have hnx : nextT G T = l + 1 := by simp [nextT, q0, q3, hc]
      have z1 : actT G T 1 = T 1 := by simp [actT, q0, q3, hc, upc_ne, upc_eq]
      have z2 : actT G T 2 = T 2 := by simp [actT, q0, q3, hc, upc_ne, upc_eq]
      have z3 : actT G T 3 = fun j => if j = G 1 l then T 17 l + 1 else T 3 j := by simp [actT, q0, q3, hc, upc_ne, upc_eq]
      have z4 : actT G T 4 = fun j => if j = G 1 l then 5000 else T 4 j := by simp [actT, q0, q3, hc, upc_ne, upc_eq]
      have z5 : actT G T 5 = T 5 := by simp [actT, q0, q3, hc, upc_ne, upc_eq]
      have z6 : actT G T 6 = T 6 := by simp [actT, q0, q3, hc, upc_ne, upc_eq]
      have z7 : actT G T 7 = T 7 := by simp [actT, q0, q3, hc, upc_ne, upc_eq]
      have z8 : actT G T 8 = T 8 := by simp [actT, q0, q3, hc, upc_ne, upc_eq]
      have z9 : actT G T 9 = T 9 := by simp [actT, q0, q3, hc, upc_ne, upc_eq]
      have z10 : actT G T 10 = T 10 := by simp [actT, q0, q3, hc, upc_ne, upc_eq]
      have z11 : actT G T 11 = T 11 := by simp [actT, q0, q3, hc, upc_ne, upc_eq]
      have z12 : actT G T 12 = T 12 := by simp [actT, q0, q3, hc, upc_ne, upc_eq]
      have z13 : actT G T 13 = T 13 := by simp [actT, q0, q3, hc, upc_ne, upc_eq]
      have z14 : actT G T 14 = T 14 := by simp [actT, q0, q3, hc, upc_ne, upc_eq]
      have z15 : actT G T 15 = T 15 := by simp [actT, q0, q3, hc, upc_ne, upc_eq]
      have z16 : actT G T 16 = T 16 := by simp [actT, q0, q3, hc, upc_ne, upc_eq]
      have z17 : actT G T 17 = fun j => if j = l then T 17 l + 1 else T 17 j := by simp [actT, q0, q3, hc, upc_ne, upc_eq]
      have y1 : actT G T 0 1 = T 0 1 := by simp [actT, q0, q3, hc, up_ap]
      have y2 : actT G T 0 2 = T 0 2 := by simp [actT, q0, q3, hc, up_ap]
      have y3 : actT G T 0 3 = T 0 3 := by simp [actT, q0, q3, hc, up_ap]
      have y4 : actT G T 0 4 = T 0 4 := by simp [actT, q0, q3, hc, up_ap]
      have y5 : actT G T 0 5 = T 0 5 := by simp [actT, q0, q3, hc, up_ap]
      have y6 : actT G T 0 6 = T 0 6 := by simp [actT, q0, q3, hc, up_ap]
      have mz : ∀ (I1 : HI) (J1 : HJ) (L : List Nat), ((I1 80 44 = nI (T 0 4) ∧ I1 80 47 = nI (T 0 2) ∧ I1 80 54 = nI (T 0 3) ∧ I1 80 56 = nI (T 0 5) ∧ I1 80 57 = nI (T 0 6) ∧ I1 80 61 = nI (T 0 1)) ∧ (rL J1 99 (T 1) (T 0 2) ∧ rS I1 100 (T 2) (T 0 2)) ∧ (rL J1 101 (fun j => if j = G 1 l then T 17 l + 1 else T 3 j) 8 ∧ rS I1 102 (fun j => if j = G 1 l then 5000 else T 4 j) 8) ∧ (rL J1 103 (T 5) 48 ∧ rS I1 104 (T 6) 48) ∧ (rL J1 105 (T 7) (T 0 3) ∧ rS I1 106 (T 8) (T 0 3)) ∧ (rN I1 92 (T 9) (T 0 4) ∧ rN I1 98 (T 10) (T 0 4) ∧ rL J1 93 (T 11) (T 0 4) ∧ rL J1 94 (T 12) (T 0 4) ∧ rL J1 95 (T 13) (T 0 4) ∧ rS I1 96 (T 14) (T 0 4) ∧ rS I1 97 (T 15) (T 0 4)) ∧ rN I1 107 (T 16) (T 0 5) ∧ (∀ x ∈ L, I1 108 x = nI ((fun j => if j = l then T 17 l + 1 else T 17 j) x))) → qM I1 J1 (actT G T) L := by
        intro I1 J1 L hh
        simp only [qM, z1, z2, z3, z4, z5, z6, z7, z8, z9, z10, z11, z12, z13, z14, z15, z16, z17, y1, y2, y3, y4, y5, y6]
        exact hh
      refine ⟨G 1 l, rfl, by omega, ?_⟩
      rw [nI_l (by omega), ← hnx]
      refine h1 hst _ _ (mz _ _ _ ?_) (by simp [up_ap]) (by simp [up_ap]) (frR_J (by decide) (by decide) (frR_I (by decide) (by decide) (frR_I (by decide) (by decide) (frR_rf))))
      rw [hnx, q7, q6]
      refine ⟨⟨(up_na (by decide)).trans ((up_na (by decide)).trans (a44)), (up_na (by decide)).trans ((up_na (by decide)).trans (a47)), (up_na (by decide)).trans ((up_na (by decide)).trans (a54)), (up_na (by decide)).trans ((up_na (by decide)).trans (a56)), (up_na (by decide)).trans ((up_na (by decide)).trans (a57)), (up_na (by decide)).trans ((up_na (by decide)).trans (a61))⟩, ⟨(rL_ne (by decide)).mpr (b99), (rS_ne (by decide)).mpr ((rS_ne (by decide)).mpr (b100))⟩, ⟨rL_set b101, rS_set (v := 5000) ((rS_ne (by decide)).mpr b102)⟩, ⟨(rL_ne (by decide)).mpr (b103), (rS_ne (by decide)).mpr ((rS_ne (by decide)).mpr (b104))⟩, ⟨(rL_ne (by decide)).mpr (b105), (rS_ne (by decide)).mpr ((rS_ne (by decide)).mpr (b106))⟩, ⟨(rN_ne (by decide)).mpr ((rN_ne (by decide)).mpr (b92)), (rN_ne (by decide)).mpr ((rN_ne (by decide)).mpr (b98)), (rL_ne (by decide)).mpr (b93), (rL_ne (by decide)).mpr (b94), (rL_ne (by decide)).mpr (b95), (rS_ne (by decide)).mpr ((rS_ne (by decide)).mpr (b96)), (rS_ne (by decide)).mpr ((rS_ne (by decide)).mpr (b97))⟩, (rN_ne (by decide)).mpr ((rN_ne (by decide)).mpr (b107)), fun x hx => ?_⟩
      rw [up_na (show ¬ 108 = 102 by decide)]
      rcases List.mem_cons.mp hx with rfl | hx
      · simp [up_ap]
      · have hnel := hne x hx
        rw [up_nk hnel]
        show I 108 x = nI (if x = l then T 17 l + 1 else T 17 x)
        rw [if_neg hnel]
        exact b108 x (by rw [q6]; exact List.mem_cons_of_mem _ hx)
    · have hnx : nextT G T = T 0 0 + 1 := by simp [nextT, q0, q3, hc]
      have z1 : actT G T 1 = T 1 := by simp [actT, q0, q3, hc, upc_ne, upc_eq]
      have z2 : actT G T 2 = T 2 := by simp [actT, q0, q3, hc, upc_ne, upc_eq]
      have z3 : actT G T 3 = T 3 := by simp [actT, q0, q3, hc, upc_ne, upc_eq]
      have z4 : actT G T 4 = T 4 := by simp [actT, q0, q3, hc, upc_ne, upc_eq]
      have z5 : actT G T 5 = T 5 := by simp [actT, q0, q3, hc, upc_ne, upc_eq]
      have z6 : actT G T 6 = T 6 := by simp [actT, q0, q3, hc, upc_ne, upc_eq]
      have z7 : actT G T 7 = T 7 := by simp [actT, q0, q3, hc, upc_ne, upc_eq]
      have z8 : actT G T 8 = T 8 := by simp [actT, q0, q3, hc, upc_ne, upc_eq]
      have z9 : actT G T 9 = T 9 := by simp [actT, q0, q3, hc, upc_ne, upc_eq]
      have z10 : actT G T 10 = T 10 := by simp [actT, q0, q3, hc, upc_ne, upc_eq]
      have z11 : actT G T 11 = T 11 := by simp [actT, q0, q3, hc, upc_ne, upc_eq]
      have z12 : actT G T 12 = T 12 := by simp [actT, q0, q3, hc, upc_ne, upc_eq]
      have z13 : actT G T 13 = T 13 := by simp [actT, q0, q3, hc, upc_ne, upc_eq]
      have z14 : actT G T 14 = T 14 := by simp [actT, q0, q3, hc, upc_ne, upc_eq]
      have z15 : actT G T 15 = T 15 := by simp [actT, q0, q3, hc, upc_ne, upc_eq]
      have z16 : actT G T 16 = T 16 := by simp [actT, q0, q3, hc, upc_ne, upc_eq]
      have z17 : actT G T 17 = fun j => if j = l then T 17 l + 1 else T 17 j := by simp [actT, q0, q3, hc, upc_ne, upc_eq]
      have y1 : actT G T 0 1 = T 0 1 := by simp [actT, q0, q3, hc, up_ap]
      have y2 : actT G T 0 2 = T 0 2 := by simp [actT, q0, q3, hc, up_ap]
      have y3 : actT G T 0 3 = T 0 3 := by simp [actT, q0, q3, hc, up_ap]
      have y4 : actT G T 0 4 = T 0 4 := by simp [actT, q0, q3, hc, up_ap]
      have y5 : actT G T 0 5 = T 0 5 := by simp [actT, q0, q3, hc, up_ap]
      have y6 : actT G T 0 6 = T 0 6 := by simp [actT, q0, q3, hc, up_ap]
      have mz : ∀ (I1 : HI) (J1 : HJ) (L : List Nat), ((I1 80 44 = nI (T 0 4) ∧ I1 80 47 = nI (T 0 2) ∧ I1 80 54 = nI (T 0 3) ∧ I1 80 56 = nI (T 0 5) ∧ I1 80 57 = nI (T 0 6) ∧ I1 80 61 = nI (T 0 1)) ∧ (rL J1 99 (T 1) (T 0 2) ∧ rS I1 100 (T 2) (T 0 2)) ∧ (rL J1 101 (T 3) 8 ∧ rS I1 102 (T 4) 8) ∧ (rL J1 103 (T 5) 48 ∧ rS I1 104 (T 6) 48) ∧ (rL J1 105 (T 7) (T 0 3) ∧ rS I1 106 (T 8) (T 0 3)) ∧ (rN I1 92 (T 9) (T 0 4) ∧ rN I1 98 (T 10) (T 0 4) ∧ rL J1 93 (T 11) (T 0 4) ∧ rL J1 94 (T 12) (T 0 4) ∧ rL J1 95 (T 13) (T 0 4) ∧ rS I1 96 (T 14) (T 0 4) ∧ rS I1 97 (T 15) (T 0 4)) ∧ rN I1 107 (T 16) (T 0 5) ∧ (∀ x ∈ L, I1 108 x = nI ((fun j => if j = l then T 17 l + 1 else T 17 j) x))) → qM I1 J1 (actT G T) L := by
        intro I1 J1 L hh
        simp only [qM, z1, z2, z3, z4, z5, z6, z7, z8, z9, z10, z11, z12, z13, z14, z15, z16, z17, y1, y2, y3, y4, y5, y6]
        exact hh
      rw [← hnx]
      refine h1 hst _ _ (mz _ _ _ ?_) (by simp [up_ap]) (by simp [up_ap]) (frR_I (by decide) (by decide) (frR_rf))
      rw [hnx]
      refine ⟨⟨(up_na (by decide)).trans (a44), (up_na (by decide)).trans (a47), (up_na (by decide)).trans (a54), (up_na (by decide)).trans (a56), (up_na (by decide)).trans (a57), (up_na (by decide)).trans (a61)⟩, ⟨b99, (rS_ne (by decide)).mpr (b100)⟩, ⟨b101, (rS_ne (by decide)).mpr (b102)⟩, ⟨b103, (rS_ne (by decide)).mpr (b104)⟩, ⟨b105, (rS_ne (by decide)).mpr (b106)⟩, ⟨(rN_ne (by decide)).mpr (b92), (rN_ne (by decide)).mpr (b98), b93, b94, b95, (rS_ne (by decide)).mpr (b96), (rS_ne (by decide)).mpr (b97)⟩, (rN_ne (by decide)).mpr (b107), fun x hx => ?_⟩
      have hnel := hne x hx
      rw [up_nk hnel]
      show I 108 x = nI (if x = l then T 17 l + 1 else T 17 x)
      rw [if_neg hnel]
      exact b108 x (by rw [q6]; exact List.mem_cons_of_mem _ hx)
  · have n10 : ¬ G 0 (T 0 0) ≤ 10 := by omega
    have n11 : ¬ G 0 (T 0 0) = 11 := by omega
    have n13 : G 0 (T 0 0) ≤ 13 := by omega
    have hh : ¬ G 0 (T 0 0) = 0 ∧ ¬ G 0 (T 0 0) = 1 ∧ ¬ G 0 (T 0 0) = 2 ∧ ¬ G 0 (T 0 0) ≤ 6 ∧ ¬ G 0 (T 0 0) = 7 ∧ ¬ G 0 (T 0 0) = 8 ∧ ¬ G 0 (T 0 0) = 9 ∧ ¬ G 0 (T 0 0) = 10 ∧ ¬ G 0 (T 0 0) = 6 := by omega
    obtain ⟨a0, a1, a2, a6, a7, a8, a9, a10, a6'⟩ := hh
    have ea : actT G T = testT G T := by simp [actT, a0, a1, a2, a6, a7, a8, a9, a10, n11, n13]
    have hst : stopR G T = 0 := by
      simp only [stopR]
      rw [if_neg (by omega), if_neg (by omega), if_neg (by omega), if_neg (by omega), if_neg (by omega), if_neg (by omega)]
    have hsee : Wc fb (d + 3) M_X12_tests [.ref 80, .int (nI (T 0 0))] I J R (fun b I61 => ((b = false → Q (nI (G 1 (T 0 0))) I61 J) ∧ (b = true → Q (nI (T 0 0 + 1)) I61 J))) := by
      refine t_tests hs hw hi hP hM hat q0 (by omega) (fun I' g1 g2 g3 g4 => ?_)
      refine ⟨fun hb => ?_, fun hb => ?_⟩
      · have hnx : nextT G T = G 1 (T 0 0) := by simp [nextT, n10, n11, n13, hb]
        rw [← hnx]
        exact h1 hst I' J (by rw [ea, hnx, q5]; exact g1) g2 g3 g4
      · have hnx : nextT G T = T 0 0 + 1 := by simp [nextT, n10, n11, n13, hb]
        rw [← hnx]
        exact h1 hst I' J (by rw [ea, hnx, q6]; exact g1) g2 g3 g4
    rw [nI_1]
    rcases q0 with q0 | q0
    · refine ⟨fun hc => absurd ((cc 0 (by decide)).mp hc) (by omega), fun _ => ⟨fun hc => absurd ((cc 1 (by decide)).mp hc) (by omega), fun _ => ⟨fun hc => absurd ((cc 2 (by decide)).mp hc) (by omega), fun _ => ⟨fun hc => absurd ((cc 3 (by decide)).mp hc) (by omega), fun _ => ⟨fun hc => absurd ((cc 4 (by decide)).mp hc) (by omega), fun _ => ⟨fun hc => absurd ((cc 5 (by decide)).mp hc) (by omega), fun _ => ⟨fun hc => absurd ((cc 6 (by decide)).mp hc) (by omega), fun _ => ⟨fun hc => absurd ((cc 7 (by decide)).mp hc) (by omega), fun _ => ⟨fun hc => absurd ((cc 8 (by decide)).mp hc) (by omega), fun _ => ⟨fun hc => absurd ((cc 9 (by decide)).mp hc) (by omega), fun _ => ⟨fun hc => absurd ((cc 10 (by decide)).mp hc) (by omega), fun _ => ⟨fun hc => absurd ((cc 11 (by decide)).mp hc) (by omega), fun _ => ⟨fun _ => hsee, fun hc => absurd ((cc 12 (by decide)).mpr q0) hc⟩⟩⟩⟩⟩⟩⟩⟩⟩⟩⟩⟩⟩
    · refine ⟨fun hc => absurd ((cc 0 (by decide)).mp hc) (by omega), fun _ => ⟨fun hc => absurd ((cc 1 (by decide)).mp hc) (by omega), fun _ => ⟨fun hc => absurd ((cc 2 (by decide)).mp hc) (by omega), fun _ => ⟨fun hc => absurd ((cc 3 (by decide)).mp hc) (by omega), fun _ => ⟨fun hc => absurd ((cc 4 (by decide)).mp hc) (by omega), fun _ => ⟨fun hc => absurd ((cc 5 (by decide)).mp hc) (by omega), fun _ => ⟨fun hc => absurd ((cc 6 (by decide)).mp hc) (by omega), fun _ => ⟨fun hc => absurd ((cc 7 (by decide)).mp hc) (by omega), fun _ => ⟨fun hc => absurd ((cc 8 (by decide)).mp hc) (by omega), fun _ => ⟨fun hc => absurd ((cc 9 (by decide)).mp hc) (by omega), fun _ => ⟨fun hc => absurd ((cc 10 (by decide)).mp hc) (by omega), fun _ => ⟨fun hc => absurd ((cc 11 (by decide)).mp hc) (by omega), fun _ => ⟨fun hc => absurd ((cc 12 (by decide)).mp hc) (by omega), fun _ => ⟨fun _ => hsee, fun hc => absurd ((cc 13 (by decide)).mpr q0) hc⟩⟩⟩⟩⟩⟩⟩⟩⟩⟩⟩⟩⟩⟩
  · have hnx : nextT G T = G 1 (T 0 0) := by simp [nextT, q0]
    have hst : stopR G T = 0 := by simp [stopR, q0]; omega
    have ea : actT G T = T := by simp [actT, q0]
    refine ⟨fun hc => absurd ((cc 0 (by decide)).mp hc) (by omega), fun _ => ⟨fun hc => absurd ((cc 1 (by decide)).mp hc) (by omega), fun _ => ⟨fun hc => absurd ((cc 2 (by decide)).mp hc) (by omega), fun _ => ⟨fun hc => absurd ((cc 3 (by decide)).mp hc) (by omega), fun _ => ⟨fun hc => absurd ((cc 4 (by decide)).mp hc) (by omega), fun _ => ⟨fun hc => absurd ((cc 5 (by decide)).mp hc) (by omega), fun _ => ⟨fun hc => absurd ((cc 6 (by decide)).mp hc) (by omega), fun _ => ⟨fun hc => absurd ((cc 7 (by decide)).mp hc) (by omega), fun _ => ⟨fun hc => absurd ((cc 8 (by decide)).mp hc) (by omega), fun _ => ⟨fun hc => absurd ((cc 9 (by decide)).mp hc) (by omega), fun _ => ⟨fun hc => absurd ((cc 10 (by decide)).mp hc) (by omega), fun _ => ⟨fun hc => absurd ((cc 11 (by decide)).mp hc) (by omega), fun _ => ⟨fun hc => absurd ((cc 12 (by decide)).mp hc) (by omega), fun _ => ⟨fun hc => absurd ((cc 13 (by decide)).mp hc) (by omega), fun _ => ⟨fun _ => ?_, fun hc => absurd ((cc 14 (by decide)).mpr q0) hc⟩⟩⟩⟩⟩⟩⟩⟩⟩⟩⟩⟩⟩⟩⟩
    rw [← hnx]
    exact h1 hst I J (by rw [ea, hnx, q5]; exact hM) rfl rfl frR_rf
end MG
