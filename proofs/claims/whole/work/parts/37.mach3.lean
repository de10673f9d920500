/-! one instruction of the class's machine -/
theorem slR_cg {I I' : HI} {b n : Nat} {f g : Nat → Nat} (h0 : I' b = I b) (h1 : I' (b + 1) = I (b + 1)) (h2 : I' (b + 2) = I (b + 2)) (h : slR I b f g n) : slR I' b f g n := by
  simp only [slR, rN, rS, h0, h1, h2] at h ⊢
  exact h
theorem tpR_cg {I I' : HI} {b n : Nat} {T : SP} (hf : ∀ k, k ≤ 9 → I' (b + k) = I (b + k)) (h : tpR I b T n) : tpR I' b T n := by
  have h0 := hf 0 (by decide)
  rw [Nat.add_zero] at h0
  simp only [tpR, rN, rS, h0, hf 1 (by decide), hf 2 (by decide), hf 3 (by decide), hf 4 (by decide), hf 5 (by decide), hf 6 (by decide), hf 7 (by decide), hf 8 (by decide), hf 9 (by decide)] at h ⊢
  exact h
theorem tsR_cg {I I' : HI} {b n so : Nat} {f : Nat → Nat} (h0 : I' b = I b) (h1 : I' (b + 1) = I (b + 1)) (h : tsR I b f n so) : tsR I' b f n so := by
  simp only [tsR, h0, h1] at h ⊢
  exact h
theorem lpR_cg {I I' : HI} {o : Nat} {f : Nat → Nat} {L : List Nat} (h0 : I' o 8 = I o 8) (h1 : I' (o + 26) = I (o + 26)) (h : lpR I o f L) : lpR I' o f L := by
  simp only [lpR, h0, h1] at h ⊢
  exact h
section M3
variable {d : Nat} {I : HI} {J : HJ} {R : HR} {o p : Nat} {G T : SP} {D : Nat → Nat} {N : Nat → List Nat}
theorem t_result {op a b : Nat} {iv : Int32} {Q : Int32 → Prop} (hs : Stat R) (ho : op ≤ 14) (ha : a < 1000000007) (hb : b < 1000000007) (hi : ¬ op = 3 → ¬ op = 4 → ¬ op = 5 → iv = nI (ivP b)) (h : Q (nI (resO op a b))) : Wp fi (d + 2) M_X9_result [.int (nI op), .int (nI a), .int (nI b), .int iv] I J R Q := by
  refine e_X9_result hs ?_
  have c3 : (nI op = (3 : Int32)) ↔ op = 3 := nI_eq (by omega) (by decide)
  have c4 : (nI op = (4 : Int32)) ↔ op = 4 := nI_eq (by omega) (by decide)
  have c5 : (nI op = (5 : Int32)) ↔ op = 5 := nI_eq (by omega) (by decide)
  simp only [resO] at h
  refine ⟨fun hc => ?_, fun hc => ⟨fun hc2 => ?_, fun hc2 => ⟨fun hc3 => ?_, fun hc3 => ?_⟩⟩⟩
  · rw [if_pos (c3.mp hc)] at h
    exact t_plus hs ha hb h
  · rw [if_neg (fun q => hc (c3.mpr q)), if_pos (c4.mp hc2)] at h
    exact t_minus hs ha hb h
  · rw [if_neg (fun q => hc (c3.mpr q)), if_neg (fun q => hc2 (c4.mpr q)), if_pos (c5.mp hc3)] at h
    exact t_times hs ha hb h
  · rw [if_neg (fun q => hc (c3.mpr q)), if_neg (fun q => hc2 (c4.mpr q)), if_neg (fun q => hc3 (c5.mpr q))] at h
    rw [hi (fun q => hc (c3.mpr q)) (fun q => hc2 (c4.mpr q)) (fun q => hc3 (c5.mpr q))]
    exact t_times hs ha (ivP_lt b) h
theorem t_bitsOf {s e : Nat} {Q : Int32 → Prop} (hs : Stat R) (ho : isX9 o) (h4 : G 3 2 ≤ 4) (hn : e ≤ 400) (he : I o 0 = nI e) (hb : rN I (o + 9) (T 18) e) (hok : okS G e s) (h : Q (nI (sbT (T 18) s))) : Wp fi (d + 1) M_X9_bitsOf [.ref o, .int (sI s)] I J R Q := by
  refine e_X9_bitsOf hs ho ?_
  rw [he]
  rcases hok with h0 | h0 | h0
  · subst h0
    refine ⟨fun _ => ⟨fun _ => ?_, fun hc => absurd (by decide) hc⟩, fun hc => absurd (by decide) hc⟩
    exact h
  · have hne : s ≠ 5000 := by omega
    rw [sI_n hne]
    simp only [sbT] at h
    rw [if_neg hne, if_neg (by omega)] at h
    refine ⟨fun _ => ⟨fun hc => absurd hc (nI_pos (by omega)), fun _ => ⟨fun hc => absurd hc (nI_ge h0 (by omega)), fun _ => ⟨s, rfl, by omega, ?_⟩⟩⟩, fun hc => absurd (nI_lt (b := 1000) (by omega) (by omega)) hc⟩
    rw [hb s h0]
    exact h
  · have hne : s ≠ 5000 := by omega
    rw [sI_n hne]
    simp only [sbT] at h
    rw [if_neg hne, if_pos h0.1] at h
    refine ⟨fun hc => absurd hc (nI_nlt (b := 1000) h0.1 (by omega)), fun _ => ?_⟩
    rw [show nI s - 1000 = nI (s - 1000) from pk_sub (a := s) (b := 1000) h0.1]
    have e2 : nI (s - 1000) &&& 31 = nI (s - 1000) := by
      rw [show (nI (s - 1000) &&& 31) = nI ((s - 1000) % 2 ^ 5) from pk_andN (by omega) 5 (by decide), Nat.mod_eq_of_lt (by omega)]
    have hp : 2 ^ (s - 1000) < 2 ^ 32 := Nat.pow_lt_pow_right (by decide) (by omega)
    have := pk_shlN (n := 1) (nI (s - 1000)) (s - 1000) (sh_amt (by omega)) (by omega)
    rw [Nat.one_mul] at this
    rw [e2, show (1 : Int32) = nI 1 from rfl, this]
    exact h
theorem t_enter {Q : Unit → HI → Prop} (hs : Stat R) (ho : isX1 o) (h4 : G 3 2 ≤ 4) (hop1 : 3 ≤ G 0 (T 0 0)) (hop2 : G 0 (T 0 0) ≤ 6) (hn : 2 ≤ T 0 2) (hn2 : T 0 2 ≤ 48) (he : T 0 4 < 400) (hr : okR G (T 0 4) (T 1) (T 2) (T 0 2)) (hS : slR I (o + 7) (T 1) (T 2) (T 0 2)) (hT : tpR I (o + 13) T (T 0 4))
    (h : ∀ I', slR I' (o + 7) (enterT G T 1) (enterT G T 2) (T 0 2 - 1) → tpR I' (o + 13) (enterT G T) (T 0 4 + 1) → (∀ a, ¬ (o + 7 ≤ a ∧ a ≤ o + 9) → ¬ (o + 13 ≤ a ∧ a ≤ o + 22) → I' a = I a) → Q () I') : Wc fv (d + 3) M_X9_enter [.ref (o + 13), .int (nI (G 0 (T 0 0))), .int (nI (T 0 0)), .ref (o + 7)] I J R Q := by
  refine ⟨Nat.le_of_ble_eq_true rfl, fun K hK => ?_⟩
  have hoT := sub_X1_13 ho
  have hoS := sub_X1_7 ho
  obtain ⟨s0, s1, s2⟩ := id hS
  obtain ⟨p0, p1, p2, p3, p4, p5, p6, p7, p8, p9⟩ := id hT
  have sk : ∀ (H : HI) (c k : Nat) (x : Int32), o + 13 ≤ c → slR H (o + 7) (T 1) (T 2) (T 0 2) → slR (up H c k x) (o + 7) (T 1) (T 2) (T 0 2) := fun H c k x hc hh => (slR_ne (by omega) (by omega) (by omega)).mpr hh
  have hv2 := hr (T 0 2 - 2) (by omega)
  have hv1 := hr (T 0 2 - 1) (by omega)
  have c6 : (nI (G 0 (T 0 0)) = (6 : Int32)) ↔ G 0 (T 0 0) = 6 := nI_eq (by omega) (by decide)
  have k134 : ∀ iv : Int32, (¬ G 0 (T 0 0) = 3 → ¬ G 0 (T 0 0) = 4 → ¬ G 0 (T 0 0) = 5 → iv = nI (ivP (T 1 (T 0 2 - 1)))) → K 134 [(0, .ref (o + 13)), (1, .int (nI (G 0 (T 0 0)))), (3, .ref (o + 7)), (4, .int (nI (T 0 4)))] [.int iv, .int (nI (T 0 4)), .ref (o + 13 + 8)] (up (up (up (up (up (up I (o + 13 + 1) (T 0 4) (nI (G 0 (T 0 0)))) (o + 13 + 2) (T 0 4) (nI (T 0 0))) (o + 13 + 4) (T 0 4) (nI (T 1 (T 0 2 - 2)))) (o + 13 + 6) (T 0 4) (sI (T 2 (T 0 2 - 2)))) (o + 13 + 5) (T 0 4) (nI (T 1 (T 0 2 - 1)))) (o + 13 + 7) (T 0 4) (sI (T 2 (T 0 2 - 1)))) J R := by
    intro iv hiv
    refine g_X9_enter_134 hK hs hoT hoS ⟨T 0 4, rfl, he, T 0 4, rfl, he, ?_⟩
    rw [show (up (up (up (up (up (up I (o + 13 + 1) (T 0 4) (nI (G 0 (T 0 0)))) (o + 13 + 2) (T 0 4) (nI (T 0 0))) (o + 13 + 4) (T 0 4) (nI (T 1 (T 0 2 - 2)))) (o + 13 + 6) (T 0 4) (sI (T 2 (T 0 2 - 2)))) (o + 13 + 5) (T 0 4) (nI (T 1 (T 0 2 - 1)))) (o + 13 + 7) (T 0 4) (sI (T 2 (T 0 2 - 1)))) (o + 13 + 4) (T 0 4) = nI (T 1 (T 0 2 - 2)) by simp [up_ap]]
    rw [show (up (up (up (up (up (up I (o + 13 + 1) (T 0 4) (nI (G 0 (T 0 0)))) (o + 13 + 2) (T 0 4) (nI (T 0 0))) (o + 13 + 4) (T 0 4) (nI (T 1 (T 0 2 - 2)))) (o + 13 + 6) (T 0 4) (sI (T 2 (T 0 2 - 2)))) (o + 13 + 5) (T 0 4) (nI (T 1 (T 0 2 - 1)))) (o + 13 + 7) (T 0 4) (sI (T 2 (T 0 2 - 1)))) (o + 13 + 5) (T 0 4) = nI (T 1 (T 0 2 - 1)) by simp [up_ap]]
    rw [show (up (up (up (up (up (up I (o + 13 + 1) (T 0 4) (nI (G 0 (T 0 0)))) (o + 13 + 2) (T 0 4) (nI (T 0 0))) (o + 13 + 4) (T 0 4) (nI (T 1 (T 0 2 - 2)))) (o + 13 + 6) (T 0 4) (sI (T 2 (T 0 2 - 2)))) (o + 13 + 5) (T 0 4) (nI (T 1 (T 0 2 - 1)))) (o + 13 + 7) (T 0 4) (sI (T 2 (T 0 2 - 1)))) (o + 13 + 6) (T 0 4) = sI (T 2 (T 0 2 - 2)) by simp [up_ap]]
    rw [show (up (up (up (up (up (up I (o + 13 + 1) (T 0 4) (nI (G 0 (T 0 0)))) (o + 13 + 2) (T 0 4) (nI (T 0 0))) (o + 13 + 4) (T 0 4) (nI (T 1 (T 0 2 - 2)))) (o + 13 + 6) (T 0 4) (sI (T 2 (T 0 2 - 2)))) (o + 13 + 5) (T 0 4) (nI (T 1 (T 0 2 - 1)))) (o + 13 + 7) (T 0 4) (sI (T 2 (T 0 2 - 1)))) (o + 13 + 7) (T 0 4) = sI (T 2 (T 0 2 - 1)) by simp [up_ap]]
    rw [show (up (up (up (up (up (up I (o + 13 + 1) (T 0 4) (nI (G 0 (T 0 0)))) (o + 13 + 2) (T 0 4) (nI (T 0 0))) (o + 13 + 4) (T 0 4) (nI (T 1 (T 0 2 - 2)))) (o + 13 + 6) (T 0 4) (sI (T 2 (T 0 2 - 2)))) (o + 13 + 5) (T 0 4) (nI (T 1 (T 0 2 - 1)))) (o + 13 + 7) (T 0 4) (sI (T 2 (T 0 2 - 1)))) (o + 13) 0 = nI (T 0 4) by simp [up_ap, p0]]
    generalize hH5 : up (up (up (up (up (up I (o + 13 + 1) (T 0 4) (nI (G 0 (T 0 0)))) (o + 13 + 2) (T 0 4) (nI (T 0 0))) (o + 13 + 4) (T 0 4) (nI (T 1 (T 0 2 - 2)))) (o + 13 + 6) (T 0 4) (sI (T 2 (T 0 2 - 2)))) (o + 13 + 5) (T 0 4) (nI (T 1 (T 0 2 - 1)))) (o + 13 + 7) (T 0 4) (sI (T 2 (T 0 2 - 1))) = H5
    have hS5 : slR H5 (o + 7) (T 1) (T 2) (T 0 2) := by
      rw [← hH5]
      exact sk _ _ _ _ (by omega) (sk _ _ _ _ (by omega) (sk _ _ _ _ (by omega) (sk _ _ _ _ (by omega) (sk _ _ _ _ (by omega) (sk _ _ _ _ (by omega) hS)))))
    have q0 : H5 (o + 13) 0 = nI (T 0 4) := by rw [← hH5]; simp [up_ap, p0]
    have q9 : rN H5 (o + 13 + 9) (T 18) (T 0 4) := by
      rw [← hH5, rN_ne (by omega), rN_ne (by omega), rN_ne (by omega), rN_ne (by omega), rN_ne (by omega), rN_ne (by omega)]
      exact p9
    rw [up_s]
    refine t_result hs (by omega) hv2.1 hv1.1 hiv ?_
    refine t_bitsOf (e := T 0 4) (G := G) (T := T) hs hoT h4 (by omega) (by simp [up_ap, q0]) ((rN_ne (by omega)).mpr ((rN_ne (by omega)).mpr q9)) hv2.2 ?_
    refine t_bitsOf (e := T 0 4) (G := G) (T := T) hs hoT h4 (by omega) (by simp [up_ap, q0]) ((rN_ne (by omega)).mpr ((rN_ne (by omega)).mpr q9)) hv1.2 ?_
    rw [or_nI, nI_1]
    have hS7 : slR (up (up (up (up H5 (o + 13 + 8) (T 0 4) iv) (o + 13 + 3) (T 0 4) (nI (resO (G 0 (T 0 0)) (T 1 (T 0 2 - 2)) (T 1 (T 0 2 - 1))))) (o + 13 + 9) (T 0 4) (nI (sbT (T 18) (T 2 (T 0 2 - 2)) ||| sbT (T 18) (T 2 (T 0 2 - 1))))) (o + 13) 0 (nI (T 0 4 + 1))) (o + 7) (T 1) (T 2) (T 0 2) := sk _ _ _ _ (by omega) (sk _ _ _ _ (by omega) (sk _ _ _ _ (by omega) (sk _ _ _ _ (by omega) hS5)))
    refine t_sdrop (k := 2) hs hoS hS7.1 hn2 hn ?_
    have hS8 := slR_drop (m := T 0 2 - 2) (by omega) hS7
    rw [show up (up (up (up (up H5 (o + 13 + 8) (T 0 4) iv) (o + 13 + 3) (T 0 4) (nI (resO (G 0 (T 0 0)) (T 1 (T 0 2 - 2)) (T 1 (T 0 2 - 1))))) (o + 13 + 9) (T 0 4) (nI (sbT (T 18) (T 2 (T 0 2 - 2)) ||| sbT (T 18) (T 2 (T 0 2 - 1))))) (o + 13) 0 (nI (T 0 4 + 1))) (o + 7) 2 (nI (T 0 2 - 2)) (o + 13 + 3) (T 0 4) = nI (resO (G 0 (T 0 0)) (T 1 (T 0 2 - 2)) (T 1 (T 0 2 - 1))) by simp [up_ap]]
    refine t_sadd hs hoS hS8.1 (by omega) ?_
    have hse : nI (T 0 4) = sI (T 0 4) := (sI_n (by omega)).symm
    rw [show T 0 2 - 2 + 1 = T 0 2 - 1 by omega]
    have hfin := slR_push (v := resO (G 0 (T 0 0)) (T 1 (T 0 2 - 2)) (T 1 (T 0 2 - 1))) (s := T 0 4) hS8
    rw [← hse, show T 0 2 - 2 + 1 = T 0 2 - 1 by omega] at hfin
    refine h _ ?_ ?_ ?_
    · have e1 : enterT G T 1 = fun j => if j = T 0 2 - 2 then resO (G 0 (T 0 0)) (T 1 (T 0 2 - 2)) (T 1 (T 0 2 - 1)) else T 1 j := by simp [enterT, upc_ne, upc_eq]
      have e2 : enterT G T 2 = fun j => if j = T 0 2 - 2 then T 0 4 else T 2 j := by simp [enterT, upc_ne, upc_eq]
      rw [e1, e2]
      exact hfin
    · rw [← hH5]
      have en9 : enterT G T 9 = fun j => if j = T 0 4 then G 0 (T 0 0) else T 9 j := by simp [enterT, upc_ne, upc_eq]
      have en13 : enterT G T 13 = fun j => if j = T 0 4 then T 1 (T 0 2 - 1) else T 13 j := by simp [enterT, upc_ne, upc_eq]
      refine ⟨by simp [up_ap], ?_, ?_, ?_, ?_, ?_, ?_, ?_, ?_, ?_⟩
      · rw [show enterT G T 9 = fun j => if j = T 0 4 then G 0 (T 0 0) else T 9 j by simp [enterT, upc_ne, upc_eq]]
        repeat rw [rN_ne (by omega)]
        refine rN_push ?_
        repeat rw [rN_ne (by omega)]
        exact p1
      · rw [show enterT G T 10 = fun j => if j = T 0 4 then T 0 0 else T 10 j by simp [enterT, upc_ne, upc_eq]]
        repeat rw [rN_ne (by omega)]
        refine rN_push ?_
        repeat rw [rN_ne (by omega)]
        exact p2
      · rw [show enterT G T 11 = fun j => if j = T 0 4 then resO (G 0 (T 0 0)) (T 1 (T 0 2 - 2)) (T 1 (T 0 2 - 1)) else T 11 j by simp [enterT, upc_ne, upc_eq]]
        repeat rw [rN_ne (by omega)]
        refine rN_push ?_
        repeat rw [rN_ne (by omega)]
        exact p3
      · rw [show enterT G T 12 = fun j => if j = T 0 4 then T 1 (T 0 2 - 2) else T 12 j by simp [enterT, upc_ne, upc_eq]]
        repeat rw [rN_ne (by omega)]
        refine rN_push ?_
        repeat rw [rN_ne (by omega)]
        exact p4
      · rw [show enterT G T 13 = fun j => if j = T 0 4 then T 1 (T 0 2 - 1) else T 13 j by simp [enterT, upc_ne, upc_eq]]
        repeat rw [rN_ne (by omega)]
        refine rN_push ?_
        repeat rw [rN_ne (by omega)]
        exact p5
      · rw [show enterT G T 14 = fun j => if j = T 0 4 then T 2 (T 0 2 - 2) else T 14 j by simp [enterT, upc_ne, upc_eq]]
        repeat rw [rS_ne (by omega)]
        refine rS_push ?_
        repeat rw [rS_ne (by omega)]
        exact p6
      · rw [show enterT G T 15 = fun j => if j = T 0 4 then T 2 (T 0 2 - 1) else T 15 j by simp [enterT, upc_ne, upc_eq]]
        repeat rw [rS_ne (by omega)]
        refine rS_push ?_
        repeat rw [rS_ne (by omega)]
        exact p7
      · intro e he1 he2
        rw [en9] at he2
        rw [en13]
        by_cases hee : e = T 0 4
        · subst hee
          simp only [if_true] at he2 ⊢
          rw [← hiv (by omega) (by omega) (by omega)]
          simp [up_ap]
        · simp only [if_neg hee] at he2 ⊢
          rw [← p8 e (by omega) he2]
          simp [up_ap, hee]
      · rw [show enterT G T 18 = fun j => if j = T 0 4 then sbT (T 18) (T 2 (T 0 2 - 2)) ||| sbT (T 18) (T 2 (T 0 2 - 1)) else T 18 j by simp [enterT, upc_ne, upc_eq]]
        repeat rw [rN_ne (by omega)]
        refine rN_push ?_
        repeat rw [rN_ne (by omega)]
        exact p9
    · intro a h1 h2
      rw [← hH5]
      simp only [up_ne _ _ _ _ (show ¬ a = o + 7 by omega), up_ne _ _ _ _ (show ¬ a = o + 7 + 1 by omega), up_ne _ _ _ _ (show ¬ a = o + 7 + 2 by omega), up_ne _ _ _ _ (show ¬ a = o + 13 by omega), up_ne _ _ _ _ (show ¬ a = o + 13 + 1 by omega), up_ne _ _ _ _ (show ¬ a = o + 13 + 2 by omega), up_ne _ _ _ _ (show ¬ a = o + 13 + 3 by omega), up_ne _ _ _ _ (show ¬ a = o + 13 + 4 by omega), up_ne _ _ _ _ (show ¬ a = o + 13 + 5 by omega), up_ne _ _ _ _ (show ¬ a = o + 13 + 6 by omega), up_ne _ _ _ _ (show ¬ a = o + 13 + 7 by omega), up_ne _ _ _ _ (show ¬ a = o + 13 + 8 by omega), up_ne _ _ _ _ (show ¬ a = o + 13 + 9 by omega)]
  refine g_X9_enter_0 hK hs hoT hoS ?_
  have S1 := sk _ (o + 13 + 2) (T 0 4) (nI (T 0 0)) (by omega) (sk _ (o + 13 + 1) (T 0 4) (nI (G 0 (T 0 0))) (by omega) hS)
  have S2 := sk _ (o + 13 + 4) (T 0 4) (nI (T 1 (T 0 2 - 2))) (by omega) S1
  have S3 := sk _ (o + 13 + 6) (T 0 4) (sI (T 2 (T 0 2 - 2))) (by omega) S2
  have S4 := sk _ (o + 13 + 5) (T 0 4) (nI (T 1 (T 0 2 - 1))) (by omega) S3
  have S5 := sk _ (o + 13 + 7) (T 0 4) (sI (T 2 (T 0 2 - 1))) (by omega) S4
  rw [p0]
  refine ⟨fun hc => absurd hc (nI_pos (by omega)), fun _ => ⟨fun _ => ⟨T 0 4, rfl, he, ?_⟩, fun hc => absurd (nI_lt (b := 400) he (by omega)) hc⟩⟩
  rw [S1.1, sub2 hn]
  refine t_valueAt hs hoS S1.1 hn2 (by omega) ?_
  rw [S1.2.1 _ (by omega), S2.1, sub2 hn]
  refine t_sourceAt hs hoS S2.1 hn2 (by omega) ?_
  rw [S2.2.2 _ (by omega), S3.1, sub1 (by omega)]
  refine t_valueAt hs hoS S3.1 hn2 (by omega) ?_
  rw [S3.2.1 _ (by omega), S4.1, sub1 (by omega)]
  refine t_sourceAt hs hoS S4.1 hn2 (by omega) ?_
  rw [S4.2.2 _ (by omega)]
  refine ⟨fun hc => k134 0 (fun a1 a2 a3 => ?_), fun hc => ?_⟩
  · exact absurd (c6.mpr (by omega)) hc
  · exact t_inverse hs hv1.1 (k134 _ (fun _ _ _ => rfl))
end M3
