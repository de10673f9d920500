/-! the reference: an ENTRY, a TEST -/
theorem lsub {a b : Nat} (ha : a < 1000000007) (hb : b < 1000000007) : (lN a - lN b).toInt = (a : Int) - b := by
  rw [Int64.toInt_sub, pk_lT (by omega), pk_lT (by omega)]
  apply Int.bmod_eq_of_le <;> omega
section ME
variable {d : Nat} {I : HI} {J : HJ} {R : HR} {G T : SP} {D : Nat → Nat} {N : Nat → List Nat} {inp : Nat → Nat}
set_option maxHeartbeats 1000000 in
theorem t_enters {Q : Unit → HI → HJ → Prop} (hs : Stat R) (hw : wfG G D N) (hi : invT G D N T) (hP : pM I G) (hM : qM I J T (N (T 0 0))) (hat : T 0 0 < G 3 0) (hdn : T 0 1 < 3000) (q0 : 3 ≤ G 0 (T 0 0)) (q1 : G 0 (T 0 0) ≤ 6) (q2 : 2 ≤ D (T 0 0)) (h1 : stopR G T = 0 → ∀ I' J', qM I' J' (enterT G T) (N (T 0 0)) → I' 80 59 = I 80 59 → I' 80 60 = I 80 60 → frR I I' J J' → Q () I' J') (h2 : ¬ stopR G T = 0 → Q () (up (up I 80 59 (nI (stopR G T))) 80 60 (nI (T 0 0))) J) : Wd fv (d + 3) M_X12_enters [.ref 80, .int (nI (T 0 0))] I J R Q := by
  obtain ⟨w1, w2, w3, w4, w5, w6, w7, w8, w9, w10, w11, w12⟩ := id hw
  obtain ⟨⟨i1, i2, i3, i4, i5, i6, i7, i8⟩, r1, r3, r5, r7, hE, hPa, hL⟩ := id hi
  obtain ⟨⟨a44, a47, a54, a56, a57, a61⟩, ⟨b99, b100⟩, ⟨b101, b102⟩, ⟨b103, b104⟩, ⟨b105, b106⟩, ⟨b92, b98, b93, b94, b95, b96, b97⟩, b107, b108⟩ := id hM
  obtain ⟨p35, p30, p31, p32, p33, p34, pc, pr⟩ := id hP
  have hdep := (w2 (T 0 0) i1).1
  have hcd := (pc (T 0 0) hat).1
  have hv2 := (r1 (T 0 2 - 2) (by omega)).1
  have hv1 := (r1 (T 0 2 - 1) (by omega)).1
  have n3000 : ¬ 3000 ≤ T 0 1 := by omega
  have n2 : ¬ (G 0 (T 0 0) = 2 ∧ ¬ T 1 (T 0 2 - 1) < G 5 (G 1 (T 0 0))) := fun q => by omega
  have n8 : ¬ (G 0 (T 0 0) = 8 ∧ ¬ T 1 (T 0 2 - 2) < G 5 (G 1 (T 0 0))) := fun q => by omega
  have n9 : ¬ (G 0 (T 0 0) = 9 ∧ 20 ≤ T 0 3) := fun q => by omega
  have cc : ∀ k : Nat, k < 100 → ((nI (G 0 (T 0 0)) = nI k) ↔ G 0 (T 0 0) = k) := fun k hk => nI_eq (by omega) (by omega)
  refine ⟨Nat.le_of_ble_eq_true rfl, fun K hK => ?_⟩
  have k221 : stopR G T = 0 → T 0 4 < 400 → K 221 [(0, .ref 80), (6, .int (nI (T 0 4)))] [.long (lN (resO (G 0 (T 0 0)) (T 1 (T 0 2 - 2)) (T 1 (T 0 2 - 1)))), .int (nI (T 0 4)), .ref 93] (up (up (up (up I 92 (T 0 4) (nI (G 0 (T 0 0)))) 96 (T 0 4) (sI (T 2 (T 0 2 - 2)))) 97 (T 0 4) (sI (T 2 (T 0 2 - 1)))) 98 (T 0 4) (nI (T 0 0))) (up (up J 94 (T 0 4) (lN (T 1 (T 0 2 - 2)))) 95 (T 0 4) (lN (T 1 (T 0 2 - 1)))) R := by
    intro hst he
    refine g_X12_enters_221 hK hs ⟨T 0 4, rfl, he, T 0 4, rfl, he, ?_⟩
    have e44 : (up (up (up (up I 92 (T 0 4) (nI (G 0 (T 0 0)))) 96 (T 0 4) (sI (T 2 (T 0 2 - 2)))) 97 (T 0 4) (sI (T 2 (T 0 2 - 1)))) 98 (T 0 4) (nI (T 0 0))) 80 44 = nI (T 0 4) := by rw [up_na (by decide), up_na (by decide), up_na (by decide), up_na (by decide)]; exact a44
    have e47 : (up (up (up (up I 92 (T 0 4) (nI (G 0 (T 0 0)))) 96 (T 0 4) (sI (T 2 (T 0 2 - 2)))) 97 (T 0 4) (sI (T 2 (T 0 2 - 1)))) 98 (T 0 4) (nI (T 0 0))) 80 47 = nI (T 0 2) := by rw [up_na (by decide), up_na (by decide), up_na (by decide), up_na (by decide)]; exact a47
    rw [up_s, e44, e47, nI_1, sub2 (by omega)]
    refine t_mpush (n := T 0 2 - 2) hs (by omega) up_s ?_
    rw [show T 0 2 - 2 + 1 = T 0 2 - 1 by omega]
    have z1 : enterT G T 1 = fun j => if j = T 0 2 - 2 then resO (G 0 (T 0 0)) (T 1 (T 0 2 - 2)) (T 1 (T 0 2 - 1)) else T 1 j := by simp [enterT, upc_ne, upc_eq]
    have z2 : enterT G T 2 = fun j => if j = T 0 2 - 2 then T 0 4 else T 2 j := by simp [enterT, upc_ne, upc_eq]
    have z3 : enterT G T 3 = T 3 := by simp [enterT, upc_ne, upc_eq]
    have z4 : enterT G T 4 = T 4 := by simp [enterT, upc_ne, upc_eq]
    have z5 : enterT G T 5 = T 5 := by simp [enterT, upc_ne, upc_eq]
    have z6 : enterT G T 6 = T 6 := by simp [enterT, upc_ne, upc_eq]
    have z7 : enterT G T 7 = T 7 := by simp [enterT, upc_ne, upc_eq]
    have z8 : enterT G T 8 = T 8 := by simp [enterT, upc_ne, upc_eq]
    have z9 : enterT G T 9 = fun j => if j = T 0 4 then G 0 (T 0 0) else T 9 j := by simp [enterT, upc_ne, upc_eq]
    have z10 : enterT G T 10 = fun j => if j = T 0 4 then T 0 0 else T 10 j := by simp [enterT, upc_ne, upc_eq]
    have z11 : enterT G T 11 = fun j => if j = T 0 4 then resO (G 0 (T 0 0)) (T 1 (T 0 2 - 2)) (T 1 (T 0 2 - 1)) else T 11 j := by simp [enterT, upc_ne, upc_eq]
    have z12 : enterT G T 12 = fun j => if j = T 0 4 then T 1 (T 0 2 - 2) else T 12 j := by simp [enterT, upc_ne, upc_eq]
    have z13 : enterT G T 13 = fun j => if j = T 0 4 then T 1 (T 0 2 - 1) else T 13 j := by simp [enterT, upc_ne, upc_eq]
    have z14 : enterT G T 14 = fun j => if j = T 0 4 then T 2 (T 0 2 - 2) else T 14 j := by simp [enterT, upc_ne, upc_eq]
    have z15 : enterT G T 15 = fun j => if j = T 0 4 then T 2 (T 0 2 - 1) else T 15 j := by simp [enterT, upc_ne, upc_eq]
    have z16 : enterT G T 16 = T 16 := by simp [enterT, upc_ne, upc_eq]
    have z17 : enterT G T 17 = T 17 := by simp [enterT, upc_ne, upc_eq]
    have y1 : enterT G T 0 1 = T 0 1 := by simp [enterT, up_ap]
    have y2 : enterT G T 0 2 = T 0 2 - 1 := by simp [enterT, up_ap]
    have y3 : enterT G T 0 3 = T 0 3 := by simp [enterT, up_ap]
    have y4 : enterT G T 0 4 = T 0 4 + 1 := by simp [enterT, up_ap]
    have y5 : enterT G T 0 5 = T 0 5 := by simp [enterT, up_ap]
    have y6 : enterT G T 0 6 = T 0 6 := by simp [enterT, up_ap]
    have ne8 : ∀ k, ¬ k = 44 → ¬ k = 47 → (up (up (up (up (up (up (up (up I 92 (T 0 4) (nI (G 0 (T 0 0)))) 96 (T 0 4) (sI (T 2 (T 0 2 - 2)))) 97 (T 0 4) (sI (T 2 (T 0 2 - 1)))) 98 (T 0 4) (nI (T 0 0))) 80 44 (nI (T 0 4 + 1))) 80 47 (nI (T 0 2 - 2))) 100 (T 0 2 - 2) (nI (T 0 4))) 80 47 (nI (T 0 2 - 1))) 80 k = I 80 k := by
      intro k h4 h7
      rw [up_nk h7, up_na (by decide), up_nk h7, up_nk h4, up_na (by decide), up_na (by decide), up_na (by decide), up_na (by decide)]
    refine h1 hst _ _ ?_ (ne8 59 (by decide) (by decide)) (ne8 60 (by decide) (by decide)) ?_
    · simp only [qM, z1, z2, z3, z4, z5, z6, z7, z8, z9, z10, z11, z12, z13, z14, z15, z16, z17, y1, y2, y3, y4, y5, y6]
      refine ⟨⟨?_, up_s, (ne8 54 (by decide) (by decide)).trans a54, (ne8 56 (by decide) (by decide)).trans a56, (ne8 57 (by decide) (by decide)).trans a57, (ne8 61 (by decide) (by decide)).trans a61⟩, ⟨?_, ?_⟩, ⟨?_, ?_⟩, ⟨?_, ?_⟩, ⟨?_, ?_⟩, ⟨?_, ?_, ?_, ?_, ?_, ?_, ?_⟩, ?_, fun l hl => ?_⟩
      · rw [up_nk (by decide), up_na (by decide), up_nk (by decide), up_s]
      · have h0 : rL (up (up (up J 94 (T 0 4) (lN (T 1 (T 0 2 - 2)))) 95 (T 0 4) (lN (T 1 (T 0 2 - 1)))) 93 (T 0 4) (lN (resO (G 0 (T 0 0)) (T 1 (T 0 2 - 2)) (T 1 (T 0 2 - 1))))) 99 (T 1) (T 0 2) := (rL_ne (by decide)).mpr ((rL_ne (by decide)).mpr ((rL_ne (by decide)).mpr b99))
        have hh := rL_push (v := resO (G 0 (T 0 0)) (T 1 (T 0 2 - 2)) (T 1 (T 0 2 - 1))) (rL_le (show T 0 2 - 2 ≤ T 0 2 by omega) h0)
        rw [show T 0 2 - 2 + 1 = T 0 2 - 1 by omega] at hh
        exact hh
      · have hh := rS_push (v := T 0 4) (rS_le (show T 0 2 - 2 ≤ T 0 2 by omega) b100)
        rw [show T 0 2 - 2 + 1 = T 0 2 - 1 by omega, sI_n (show T 0 4 ≠ 5000 by omega)] at hh
        refine (rS_ne (by decide)).mpr ?_
        intro j hj
        have h3 := hh j hj
        rw [up_ap] at h3 ⊢
        rw [up_na (by decide), up_na (by decide), up_na (by decide), up_na (by decide), up_na (by decide), up_na (by decide)]
        exact h3
      · exact (rL_ne (by decide)).mpr ((rL_ne (by decide)).mpr ((rL_ne (by decide)).mpr ((rL_ne (by decide)).mpr (b101))))
      · exact (rS_ne (by decide)).mpr ((rS_ne (by decide)).mpr ((rS_ne (by decide)).mpr ((rS_ne (by decide)).mpr ((rS_ne (by decide)).mpr ((rS_ne (by decide)).mpr ((rS_ne (by decide)).mpr ((rS_ne (by decide)).mpr (b102))))))))
      · exact (rL_ne (by decide)).mpr ((rL_ne (by decide)).mpr ((rL_ne (by decide)).mpr ((rL_ne (by decide)).mpr (b103))))
      · exact (rS_ne (by decide)).mpr ((rS_ne (by decide)).mpr ((rS_ne (by decide)).mpr ((rS_ne (by decide)).mpr ((rS_ne (by decide)).mpr ((rS_ne (by decide)).mpr ((rS_ne (by decide)).mpr ((rS_ne (by decide)).mpr (b104))))))))
      · exact (rL_ne (by decide)).mpr ((rL_ne (by decide)).mpr ((rL_ne (by decide)).mpr ((rL_ne (by decide)).mpr (b105))))
      · exact (rS_ne (by decide)).mpr ((rS_ne (by decide)).mpr ((rS_ne (by decide)).mpr ((rS_ne (by decide)).mpr ((rS_ne (by decide)).mpr ((rS_ne (by decide)).mpr ((rS_ne (by decide)).mpr ((rS_ne (by decide)).mpr (b106))))))))
      · exact (rN_ne (by decide)).mpr ((rN_ne (by decide)).mpr ((rN_ne (by decide)).mpr ((rN_ne (by decide)).mpr ((rN_ne (by decide)).mpr ((rN_ne (by decide)).mpr ((rN_ne (by decide)).mpr (rN_push (b92))))))))
      · exact (rN_ne (by decide)).mpr ((rN_ne (by decide)).mpr ((rN_ne (by decide)).mpr ((rN_ne (by decide)).mpr (rN_push ((rN_ne (by decide)).mpr ((rN_ne (by decide)).mpr ((rN_ne (by decide)).mpr (b98))))))))
      · exact (rL_ne (by decide)).mpr (rL_push ((rL_ne (by decide)).mpr ((rL_ne (by decide)).mpr (b93))))
      · exact (rL_ne (by decide)).mpr ((rL_ne (by decide)).mpr ((rL_ne (by decide)).mpr (rL_push (b94))))
      · exact (rL_ne (by decide)).mpr ((rL_ne (by decide)).mpr (rL_push ((rL_ne (by decide)).mpr (b95))))
      · exact (rS_ne (by decide)).mpr ((rS_ne (by decide)).mpr ((rS_ne (by decide)).mpr ((rS_ne (by decide)).mpr ((rS_ne (by decide)).mpr ((rS_ne (by decide)).mpr (rS_push ((rS_ne (by decide)).mpr (b96))))))))
      · exact (rS_ne (by decide)).mpr ((rS_ne (by decide)).mpr ((rS_ne (by decide)).mpr ((rS_ne (by decide)).mpr ((rS_ne (by decide)).mpr (rS_push ((rS_ne (by decide)).mpr ((rS_ne (by decide)).mpr (b97))))))))
      · exact (rN_ne (by decide)).mpr ((rN_ne (by decide)).mpr ((rN_ne (by decide)).mpr ((rN_ne (by decide)).mpr ((rN_ne (by decide)).mpr ((rN_ne (by decide)).mpr ((rN_ne (by decide)).mpr ((rN_ne (by decide)).mpr (b107))))))))
      · rw [up_na (by decide), up_na (by decide), up_na (by decide), up_na (by decide), up_na (by decide), up_na (by decide), up_na (by decide), up_na (by decide)]
        exact b108 l hl
    · exact frR_J (by decide) (by decide) (frR_J (by decide) (by decide) (frR_J (by decide) (by decide) (frR_J (by decide) (by decide) (frR_f (by decide) (by decide) (frR_I (by decide) (by decide) (frR_f (by decide) (by decide) (frR_f (by decide) (by decide) (frR_I (by decide) (by decide) (frR_I (by decide) (by decide) (frR_I (by decide) (by decide) (frR_I (by decide) (by decide) frR_rf)))))))))))
  have k50 : ¬ (G 0 (T 0 0) = 6 ∧ T 1 (T 0 2 - 1) = 0) → K 50 [(0, .ref 80), (1, .int (nI (T 0 0))), (2, .long (lN (T 1 (T 0 2 - 2)))), (4, .long (lN (T 1 (T 0 2 - 1))))] [] I J R := by
    intro n6
    refine g_X12_enters_50 hK hs ?_
    rw [a44, a47]
    have c400 : (nI (T 0 4) = (400 : Int32)) ↔ T 0 4 = 400 := nI_eq (by omega) (by decide)
    refine ⟨fun hc => ?_, fun hc => ?_⟩
    · have he : T 0 4 < 400 := by
        have : ¬ T 0 4 = 400 := fun q => hc (c400.mpr q)
        omega
      have hst : stopR G T = 0 := by
        simp only [stopR]
        rw [if_neg n3000, if_neg n6, if_neg n2, if_neg n8, if_neg (fun q => by omega), if_neg n9]
      have k2 := k221 hst he
      refine ⟨T 0 0, rfl, by omega, T 0 4, rfl, he, T 0 2 - 2, sub2 (by omega), by omega, T 0 2 - 1, sub1 (by omega), by omega, ?_⟩
      rw [hcd, b100 _ (by omega), b100 _ (by omega)]
      refine ⟨fun c3 => ⟨fun c4 => ⟨fun c5 => ?_, fun c5 => ?_⟩, fun c4 => ?_⟩, fun c3 => ?_⟩
      · have d3 : ¬ G 0 (T 0 0) = 3 := fun q => c3 ((cc 3 (by decide)).mpr q)
        have d4 : ¬ G 0 (T 0 0) = 4 := fun q => c4 ((cc 4 (by decide)).mpr q)
        have d5 : ¬ G 0 (T 0 0) = 5 := fun q => c5 ((cc 5 (by decide)).mpr q)
        refine t_parted hs hv2 hv1 ?_
        simp only [resO, d3, d4, d5, if_false] at k2
        exact k2
      · have d5 := (cc 5 (by decide)).mp c5
        have hab : T 1 (T 0 2 - 2) * T 1 (T 0 2 - 1) < 1000000007 * 1000000007 := Nat.mul_lt_mul_of_lt_of_le hv2 (by omega) (by decide)
        rw [lN_mul, cPL, pk_lRem (by omega) (by decide) (by decide)]
        rw [show resO (G 0 (T 0 0)) (T 1 (T 0 2 - 2)) (T 1 (T 0 2 - 1)) = T 1 (T 0 2 - 2) * T 1 (T 0 2 - 1) % 1000000007 by simp [resO, d5, mP]] at k2
        exact k2
      · have d4 := (cc 4 (by decide)).mp c4
        refine t_left hs (by rw [lsub hv2 hv1]; omega) (by rw [lsub hv2 hv1]; omega) ?_
        rw [lsub hv2 hv1, zP_sub _ _ (by omega)]
        rw [show resO (G 0 (T 0 0)) (T 1 (T 0 2 - 2)) (T 1 (T 0 2 - 1)) = sP (T 1 (T 0 2 - 2)) (T 1 (T 0 2 - 1)) by simp [resO, d4]] at k2
        exact k2
      · have d3 := (cc 3 (by decide)).mp c3
        rw [lN_add, cPL, pk_lRem (by omega) (by decide) (by decide)]
        rw [show resO (G 0 (T 0 0)) (T 1 (T 0 2 - 2)) (T 1 (T 0 2 - 1)) = (T 1 (T 0 2 - 2) + T 1 (T 0 2 - 1)) % 1000000007 by simp [resO, d3, mP]] at k2
        exact k2
    · have he := c400.mp hc
      have hst : stopR G T = 4 := by
        simp only [stopR]
        rw [if_neg n3000, if_neg n6, if_neg n2, if_neg n8, if_pos ⟨q0, q1, by omega⟩]
      refine t_stops hs ?_
      have := h2 (by omega)
      rw [hst] at this
      exact this
  refine g_X12_enters_0 hK hs ?_
  rw [a47]
  refine ⟨T 0 2 - 2, sub2 (by omega), by omega, T 0 2 - 1, sub1 (by omega), by omega, T 0 0, rfl, by omega, ?_⟩
  rw [hcd, b99 _ (by omega), b99 _ (by omega)]
  have cz : (lN (T 1 (T 0 2 - 1)) = (0 : Int64)) ↔ T 1 (T 0 2 - 1) = 0 := pk_lEQ (b := 0) (by omega) (by decide)
  refine ⟨fun hc => k50 (fun q => hc ((cc 6 (by decide)).mpr q.1)), fun hc => ⟨fun hz => k50 (fun q => hz (cz.mpr q.2)), fun hz => ?_⟩⟩
  have hst : stopR G T = 1 := by
    simp only [stopR]
    rw [if_neg n3000, if_pos ⟨(cc 6 (by decide)).mp hc, cz.mp hz⟩]
  refine t_stops hs ?_
  have := h2 (by omega)
  rw [hst] at this
  exact this
set_option maxHeartbeats 1000000 in
theorem t_tests {Q : Bool → HI → Prop} (hs : Stat R) (hw : wfG G D N) (hi : invT G D N T) (hP : pM I G) (hM : qM I J T (N (T 0 0))) (hat : T 0 0 < G 3 0) (q0 : G 0 (T 0 0) = 12 ∨ G 0 (T 0 0) = 13) (hn : T 0 2 = 2) (h : ∀ I', qM I' J (testT G T) (N (T 0 0)) → I' 80 59 = I 80 59 → I' 80 60 = I 80 60 → frR I I' J J → Q (testV (G 0 (T 0 0)) (T 1 (T 0 2 - 2)) (T 1 (T 0 2 - 1))) I') : Wc fb (d + 2) M_X12_tests [.ref 80, .int (nI (T 0 0))] I J R Q := by
  obtain ⟨w1, w2, w3, w4, w5, w6, w7, w8, w9, w10, w11, w12⟩ := id hw
  obtain ⟨⟨i1, i2, i3, i4, i5, i6, i7, i8⟩, r1, r3, r5, r7, hE, hPa, hL⟩ := id hi
  obtain ⟨⟨a44, a47, a54, a56, a57, a61⟩, ⟨b99, b100⟩, ⟨b101, b102⟩, ⟨b103, b104⟩, ⟨b105, b106⟩, ⟨b92, b98, b93, b94, b95, b96, b97⟩, b107, b108⟩ := id hM
  obtain ⟨p35, p30, p31, p32, p33, p34, pc, pr⟩ := id hP
  have hcd := (pc (T 0 0) hat).1
  have hv2 := (r1 0 (by omega)).1
  have hv1 := (r1 1 (by omega)).1
  have f99 := b99 0 (by omega)
  have g99 := b99 1 (by omega)
  rw [show T 0 2 - 2 = 0 by omega, show T 0 2 - 1 = 1 by omega] at h
  rw [hn] at a47
  have c12 : (nI (G 0 (T 0 0)) = (12 : Int32)) ↔ G 0 (T 0 0) = 12 := nI_eq (by omega) (by decide)
  refine ⟨Nat.le_of_ble_eq_true rfl, fun K hK => ?_⟩
  have k88 : ∀ v : Bool, v = testV (G 0 (T 0 0)) (T 1 0) (T 1 1) → K 88 [(0, .ref 80)] [.int (b2i v)] (up I 80 47 (nI 2 - 2)) J R := by
    intro v hv
    have key : ∀ x : Nat, x = (if v = true then 1 else 0) → Q v (up (up (up (up I 80 47 (nI 2 - 2)) 107 (T 0 5) (nI x)) 80 56 (nI (T 0 5 + 1))) 80 57 (nI (T 0 6 + x))) := by
      intro x hx
      rw [hv]
      have er : testT G T = up (up (up (up T 16 (T 0 5) x) 0 5 (T 0 5 + 1)) 0 6 (T 0 6 + x)) 0 2 0 := by
        simp only [testT, hn]
        rw [hx, hv]
      refine h _ ?_ (by simp [up_ap]) (by simp [up_ap]) (frR_f (by decide) (by decide) (frR_f (by decide) (by decide) (frR_I (by decide) (by decide) (frR_f (by decide) (by decide) frR_rf))))
      rw [er]
      have z1 : up (up (up (up T 16 (T 0 5) x) 0 5 (T 0 5 + 1)) 0 6 (T 0 6 + x)) 0 2 0 1 = T 1 := by simp [upc_ne, upc_eq]
      have z2 : up (up (up (up T 16 (T 0 5) x) 0 5 (T 0 5 + 1)) 0 6 (T 0 6 + x)) 0 2 0 2 = T 2 := by simp [upc_ne, upc_eq]
      have z3 : up (up (up (up T 16 (T 0 5) x) 0 5 (T 0 5 + 1)) 0 6 (T 0 6 + x)) 0 2 0 3 = T 3 := by simp [upc_ne, upc_eq]
      have z4 : up (up (up (up T 16 (T 0 5) x) 0 5 (T 0 5 + 1)) 0 6 (T 0 6 + x)) 0 2 0 4 = T 4 := by simp [upc_ne, upc_eq]
      have z5 : up (up (up (up T 16 (T 0 5) x) 0 5 (T 0 5 + 1)) 0 6 (T 0 6 + x)) 0 2 0 5 = T 5 := by simp [upc_ne, upc_eq]
      have z6 : up (up (up (up T 16 (T 0 5) x) 0 5 (T 0 5 + 1)) 0 6 (T 0 6 + x)) 0 2 0 6 = T 6 := by simp [upc_ne, upc_eq]
      have z7 : up (up (up (up T 16 (T 0 5) x) 0 5 (T 0 5 + 1)) 0 6 (T 0 6 + x)) 0 2 0 7 = T 7 := by simp [upc_ne, upc_eq]
      have z8 : up (up (up (up T 16 (T 0 5) x) 0 5 (T 0 5 + 1)) 0 6 (T 0 6 + x)) 0 2 0 8 = T 8 := by simp [upc_ne, upc_eq]
      have z9 : up (up (up (up T 16 (T 0 5) x) 0 5 (T 0 5 + 1)) 0 6 (T 0 6 + x)) 0 2 0 9 = T 9 := by simp [upc_ne, upc_eq]
      have z10 : up (up (up (up T 16 (T 0 5) x) 0 5 (T 0 5 + 1)) 0 6 (T 0 6 + x)) 0 2 0 10 = T 10 := by simp [upc_ne, upc_eq]
      have z11 : up (up (up (up T 16 (T 0 5) x) 0 5 (T 0 5 + 1)) 0 6 (T 0 6 + x)) 0 2 0 11 = T 11 := by simp [upc_ne, upc_eq]
      have z12 : up (up (up (up T 16 (T 0 5) x) 0 5 (T 0 5 + 1)) 0 6 (T 0 6 + x)) 0 2 0 12 = T 12 := by simp [upc_ne, upc_eq]
      have z13 : up (up (up (up T 16 (T 0 5) x) 0 5 (T 0 5 + 1)) 0 6 (T 0 6 + x)) 0 2 0 13 = T 13 := by simp [upc_ne, upc_eq]
      have z14 : up (up (up (up T 16 (T 0 5) x) 0 5 (T 0 5 + 1)) 0 6 (T 0 6 + x)) 0 2 0 14 = T 14 := by simp [upc_ne, upc_eq]
      have z15 : up (up (up (up T 16 (T 0 5) x) 0 5 (T 0 5 + 1)) 0 6 (T 0 6 + x)) 0 2 0 15 = T 15 := by simp [upc_ne, upc_eq]
      have z16 : up (up (up (up T 16 (T 0 5) x) 0 5 (T 0 5 + 1)) 0 6 (T 0 6 + x)) 0 2 0 16 = fun j => if j = T 0 5 then x else T 16 j := by simp [upc_ne, upc_eq]
      have z17 : up (up (up (up T 16 (T 0 5) x) 0 5 (T 0 5 + 1)) 0 6 (T 0 6 + x)) 0 2 0 17 = T 17 := by simp [upc_ne, upc_eq]
      have y1 : up (up (up (up T 16 (T 0 5) x) 0 5 (T 0 5 + 1)) 0 6 (T 0 6 + x)) 0 2 0 0 1 = T 0 1 := by simp [up_ap]
      have y2 : up (up (up (up T 16 (T 0 5) x) 0 5 (T 0 5 + 1)) 0 6 (T 0 6 + x)) 0 2 0 0 2 = 0 := by simp [up_ap]
      have y3 : up (up (up (up T 16 (T 0 5) x) 0 5 (T 0 5 + 1)) 0 6 (T 0 6 + x)) 0 2 0 0 3 = T 0 3 := by simp [up_ap]
      have y4 : up (up (up (up T 16 (T 0 5) x) 0 5 (T 0 5 + 1)) 0 6 (T 0 6 + x)) 0 2 0 0 4 = T 0 4 := by simp [up_ap]
      have y5 : up (up (up (up T 16 (T 0 5) x) 0 5 (T 0 5 + 1)) 0 6 (T 0 6 + x)) 0 2 0 0 5 = T 0 5 + 1 := by simp [up_ap]
      have y6 : up (up (up (up T 16 (T 0 5) x) 0 5 (T 0 5 + 1)) 0 6 (T 0 6 + x)) 0 2 0 0 6 = T 0 6 + x := by simp [up_ap]
      simp only [qM, z1, z2, z3, z4, z5, z6, z7, z8, z9, z10, z11, z12, z13, z14, z15, z16, z17, y1, y2, y3, y4, y5, y6]
      refine ⟨⟨by simp [up_ap, a44], by simp [up_ap]; rfl, by simp [up_ap, a54], by simp [up_ap], by simp [up_ap], by simp [up_ap, a61]⟩, ⟨fun j hj => absurd hj (by omega), fun j hj => absurd hj (by omega)⟩, ⟨b101, (rS_ne (by decide)).mpr ((rS_ne (by decide)).mpr ((rS_ne (by decide)).mpr ((rS_ne (by decide)).mpr (b102))))⟩, ⟨b103, (rS_ne (by decide)).mpr ((rS_ne (by decide)).mpr ((rS_ne (by decide)).mpr ((rS_ne (by decide)).mpr (b104))))⟩, ⟨b105, (rS_ne (by decide)).mpr ((rS_ne (by decide)).mpr ((rS_ne (by decide)).mpr ((rS_ne (by decide)).mpr (b106))))⟩, ⟨(rN_ne (by decide)).mpr ((rN_ne (by decide)).mpr ((rN_ne (by decide)).mpr ((rN_ne (by decide)).mpr (b92)))), (rN_ne (by decide)).mpr ((rN_ne (by decide)).mpr ((rN_ne (by decide)).mpr ((rN_ne (by decide)).mpr (b98)))), b93, b94, b95, (rS_ne (by decide)).mpr ((rS_ne (by decide)).mpr ((rS_ne (by decide)).mpr ((rS_ne (by decide)).mpr (b96)))), (rS_ne (by decide)).mpr ((rS_ne (by decide)).mpr ((rS_ne (by decide)).mpr ((rS_ne (by decide)).mpr (b97))))⟩, (rN_ne (by decide)).mpr ((rN_ne (by decide)).mpr (rN_push ((rN_ne (by decide)).mpr (b107)))), fun l hl => ?_⟩
      rw [up_na (by decide), up_na (by decide), up_na (by decide), up_na (by decide)]
      exact b108 l hl
    refine g_X12_tests_88 hK hs ?_
    have e56 : up I 80 47 (nI 2 - 2) 80 56 = nI (T 0 5) := (up_nk (by decide)).trans a56
    have e57 : up I 80 47 (nI 2 - 2) 80 57 = nI (T 0 6) := (up_nk (by decide)).trans a57
    rw [e56, e57, nI_1, nI_1]
    refine ⟨fun hb => ⟨T 0 5, rfl, by omega, fun _ => ?_, fun hc => by rw [hb] at hc; cases hc⟩, fun hb => ⟨T 0 5, rfl, by omega, fun hc => (by rw [hb] at hc; cases hc), fun _ => ?_⟩⟩
    · rw [show nI (T 0 6) + 0 = nI (T 0 6 + 0) from nI_add (T 0 6) 0]
      exact key 0 (by rw [hb]; rfl)
    · exact key 1 (by rw [hb]; rfl)
  refine g_X12_tests_0 hK hs ⟨T 0 0, rfl, by omega, ?_⟩
  rw [hcd, a47]
  refine ⟨fun hc => ⟨0, rfl, by decide, 1, rfl, by decide, ?_⟩, fun hc => ⟨0, rfl, by decide, ?_⟩⟩
  · have n12 : ¬ G 0 (T 0 0) = 12 := fun q => hc (c12.mpr q)
    rw [f99, g99, pk_lEQ (by omega) (by omega)]
    exact ⟨fun hb => k88 false (by simp [testV, n12, hb]), fun hb => k88 true (by simp [testV, n12, hb])⟩
  · have e12 := c12.mp hc
    rw [f99]
    refine t_msigned hs hv2 ⟨1, rfl, by decide, ?_⟩
    rw [g99]
    refine t_msigned hs hv1 ?_
    have cl : (sgL (T 1 1) ≤ sgL (T 1 0)) ↔ sgZ (T 1 1) ≤ sgZ (T 1 0) := by rw [Int64.le_iff_toInt_le, sgL_toInt hv1, sgL_toInt hv2]
    rw [cl]
    refine ⟨fun hb => k88 false ?_, fun hb => k88 true ?_⟩
    · simp only [testV, e12, if_true]
      exact (decide_eq_false (by omega)).symm
    · simp only [testV, e12, if_true]
      exact (decide_eq_true (by omega)).symm
end ME
