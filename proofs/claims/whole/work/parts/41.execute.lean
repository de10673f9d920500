/-! the class's RUN is theRun -/
theorem up_same {α : Type} {f : Nat → Nat → α} {a k : Nat} {v : α} (h : f a k = v) : up f a k v = f := by
  funext b j
  simp only [up]
  split
  · rename_i hc
    rw [hc.1, hc.2, h]
  · rfl
theorem act_done {G T : SP} : actT G T 0 1 = T 0 1 := by
  simp only [actT]
  split
  · simp [pushT, enterT, testT, up_ap]
  · show _ = _
    split
    · simp [pushT, enterT, testT, up_ap]
    · show _ = _
      split
      · simp [pushT, enterT, testT, up_ap]
      · show _ = _
        split
        · simp [pushT, enterT, testT, up_ap]
        · show _ = _
          split
          · simp [pushT, enterT, testT, up_ap]
          · show _ = _
            split
            · simp [pushT, enterT, testT, up_ap]
            · show _ = _
              split
              · simp [pushT, enterT, testT, up_ap]
              · show _ = _
                split
                · simp [pushT, enterT, testT, up_ap]
                · show _ = _
                  split
                  · split <;> simp [up_ap]
                  · show _ = _
                    split
                    · simp [pushT, enterT, testT, up_ap]
                    · rfl
section EX
variable {d : Nat} {I : HI} {J : HJ} {R : HR} {o p : Nat} {G T : SP} {D : Nat → Nat} {N : Nat → List Nat} {inp : Nat → Nat}
theorem t_mclear {a : Nat} {Q : Unit → HI → Prop} (hs : Stat R) (ho : isX1 o) (hp : isX5 p) (hR : R o 0 = some p) (hw : wfG G D N) (hP : pR I p G) (ha : am_is R a 13) (hl : (am_T a).2 = 4) (hao : a < o ∨ o + 26 < a) (hin : ∀ j, j < G 3 2 → I a j = nI (inp j)) (h : ∀ I', mR I' o G N (startT G inp) → frM o I I' → Q () I') : Wc fv (d + 3) M_X1_clear [.ref o, .ref a] I J R Q := by
  obtain ⟨w1, w2, w3, w4, w5, w6, w7, w8, w9, w10, w11, w12⟩ := id hw
  refine ⟨Nat.le_of_ble_eq_true rfl, fun K hK => ?_⟩
  have k55 : ∀ I1 : HI, frM o I I1 → slR I1 (o + 1) (startT G inp 3) (startT G inp 4) (G 3 3) → K 55 [(0, .ref o)] [] I1 J R := by
    intro I1 hf hv
    have hP1 := pR_fr hp ho hf hP
    refine g_X1_clear_55 hK hs ho ha hl ⟨p, hR, hp, ?_⟩
    rw [hP1.2.2.2.2.2.1]
    refine t_sclear hs (sub_X1_4 ho) w10 ?_
    refine t_sclear (m := 0) hs (sub_X1_7 ho) (by decide) ?_
    refine t_sclear (m := 0) hs (sub_X1_10 ho) (by decide) ?_
    refine t_aclear hs (sub_X1_24 ho) (fun I' ht hfr => ?_)
    have hfr2 : ∀ b, ¬ (o + 24 ≤ b ∧ b ≤ o + 25) → ¬ b = o + 13 → ¬ (o + 4 ≤ b ∧ b ≤ o + 12) → I' b = I1 b := by
      intro b b1 b2 b3
      rw [hfr b (by omega) (by omega), up_ne _ _ _ _ b2, clrI_ne (by omega) (by omega) (by omega), clrI_ne (by omega) (by omega) (by omega), clrI_ne (by omega) (by omega) (by omega)]
    refine h _ ⟨⟨by simp [up_ap, startT, nI_0], by simp [up_ap, startT, nI_0], by simp [up_ap, startT, nI_0]⟩, ?_, ?_, ?_, ?_, ?_, ?_, ?_⟩ ?_
    · rw [slR_ne (by omega) (by omega) (by omega), slR_ne (by omega) (by omega) (by omega), slR_ne (by omega) (by omega) (by omega), slR_ne (by omega) (by omega) (by omega)]
      exact slR_cg (hfr2 _ (by omega) (by omega) (by omega)) (hfr2 _ (by omega) (by omega) (by omega)) (hfr2 _ (by omega) (by omega) (by omega)) hv
    · rw [slR_ne (by omega) (by omega) (by omega), slR_ne (by omega) (by omega) (by omega), slR_ne (by omega) (by omega) (by omega), slR_ne (by omega) (by omega) (by omega)]
      have hq : slR (clrI I1 (o + 4) (G 3 5)) (o + 4) (startT G inp 5) (startT G inp 6) (G 3 5) := by
        have e5 : startT G inp 5 = fun _ => 0 := by funext j; simp [startT]
        have e6 : startT G inp 6 = fun _ => 5000 := by funext j; simp [startT]
        rw [e5, e6]
        exact slR_clr
      refine slR_cg ?_ ?_ ?_ hq <;> (rw [hfr _ (by omega) (by omega), up_ne _ _ _ _ (by omega), clrI_ne (by omega) (by omega) (by omega), clrI_ne (by omega) (by omega) (by omega)])
    · rw [slR_ne (by omega) (by omega) (by omega), slR_ne (by omega) (by omega) (by omega), slR_ne (by omega) (by omega) (by omega), slR_ne (by omega) (by omega) (by omega)]
      refine ⟨?_, fun j hj => ?_, fun j hj => ?_⟩
      · rw [hfr _ (by omega) (by omega), up_ne _ _ _ _ (by omega), clrI_ne (by omega) (by omega) (by omega)]
        simp [clrI, fillI, up_ap, startT]
      · simp [startT] at hj
      · simp [startT] at hj
    · rw [slR_ne (by omega) (by omega) (by omega), slR_ne (by omega) (by omega) (by omega), slR_ne (by omega) (by omega) (by omega), slR_ne (by omega) (by omega) (by omega)]
      refine ⟨?_, fun j hj => ?_, fun j hj => ?_⟩
      · rw [hfr _ (by omega) (by omega), up_ne _ _ _ _ (by omega)]
        simp [clrI, fillI, up_ap, startT]
      · simp [startT] at hj
      · simp [startT] at hj
    · rw [tpR_ne (by omega), tpR_ne (by omega), tpR_ne (by omega), tpR_ne (by omega)]
      have z4 : startT G inp 0 4 = 0 := by simp [startT]
      rw [z4]
      refine ⟨?_, fun j hj => absurd hj (by omega), fun j hj => absurd hj (by omega), fun j hj => absurd hj (by omega), fun j hj => absurd hj (by omega), fun j hj => absurd hj (by omega), fun j hj => absurd hj (by omega), fun j hj => absurd hj (by omega), fun j hj => absurd hj (by omega), fun j hj => absurd hj (by omega)⟩
      rw [hfr _ (by omega) (by omega)]
      simp [up_ap, nI_0]
    · rw [tsR_ne (by omega), tsR_ne (by omega), tsR_ne (by omega), tsR_ne (by omega)]
      have e16 : startT G inp 16 = fun _ => 0 := by funext j; simp [startT]
      have z5 : startT G inp 0 5 = 0 := by simp [startT]
      have z6 : startT G inp 0 6 = 0 := by simp [startT]
      rw [e16, z5, z6]
      exact ht
    · have z0 : startT G inp 0 0 = 0 := by simp [startT]
      rw [z0, w4]
      exact ⟨by simp [up_ap, nI_0], fun j l hj => by simp at hj⟩
    · intro b hb
      rw [up_ne _ _ _ _ (by omega), up_ne _ _ _ _ (by omega), up_ne _ _ _ _ (by omega), up_ne _ _ _ _ (by omega), hfr2 b (by omega) (by omega) (by omega)]
      exact hf b hb
  have k16 : ∀ (m i : Nat) (I1 : HI), i + m = G 3 2 → frM o I I1 → slR I1 (o + 1) (fun j => if j < i then inp j else 0) (fun j => if j < i then 1000 + j else 5000) (G 3 3) → K 16 [(0, .ref o), (1, .ref a), (2, .int (nI i))] [] I1 J R := by
    intro m
    induction m with
    | zero =>
      intro i I1 him hf hv
      have : i = G 3 2 := by omega
      subst this
      have hP1 := pR_fr hp ho hf hP
      refine g_X1_clear_16 hK hs ho ha hl ⟨p, hR, hp, ?_⟩
      rw [hP1.2.2.1]
      refine ⟨fun _ => k55 I1 hf ?_, fun hc => absurd (nI_le (Nat.le_refl _) (by omega)) hc⟩
      have e3 : startT G inp 3 = fun j => if j < G 3 2 then inp j else 0 := by funext j; simp [startT]
      have e4 : startT G inp 4 = fun j => if j < G 3 2 then 1000 + j else 5000 := by funext j; simp [startT]
      rw [e3, e4]
      exact hv
    | succ m ih =>
      intro i I1 him hf hv
      have hP1 := pR_fr hp ho hf hP
      refine g_X1_clear_16 hK hs ho ha hl ⟨p, hR, hp, ?_⟩
      rw [hP1.2.2.1]
      refine ⟨fun hc => absurd hc (nI_ge (by omega) (by omega)), fun _ => ⟨fun hc => absurd hc (nI_ge (b := 4) (by omega) (by omega)), fun _ => ⟨i, rfl, by omega, ?_⟩⟩⟩
      rw [hf a hao, hin i (by omega), show (1000 : Int32) + nI i = nI (1000 + i) from nI_add 1000 i, nI_1]
      refine t_sput hs (sub_X1_1 ho) hv.1 (by omega) (by omega) ?_
      refine ih (i + 1) _ (by omega) (frM_tr (frM_tr hf (frM_up (by omega) (by omega))) (frM_up (by omega) (by omega))) ?_
      have := slR_set (k := i) (v := inp i) (s := 1000 + i) hv
      rw [sI_n (by omega)] at this
      have e1 : (fun j => if j = i then inp i else if j < i then inp j else 0) = fun j => if j < i + 1 then inp j else 0 := by
        funext j
        by_cases hj : j = i
        · simp [hj]
        · by_cases hj2 : j < i
          · simp [hj, hj2, Nat.lt_succ_of_lt hj2]
          · simp [hj, hj2, show ¬ j < i + 1 by omega]
      have e2 : (fun j => if j = i then 1000 + i else if j < i then 1000 + j else 5000) = fun j => if j < i + 1 then 1000 + j else 5000 := by
        funext j
        by_cases hj : j = i
        · simp [hj]
        · by_cases hj2 : j < i
          · simp [hj, hj2, Nat.lt_succ_of_lt hj2]
          · simp [hj, hj2, show ¬ j < i + 1 by omega]
      rw [e1, e2] at this
      exact this
  refine g_X1_clear_0 hK hs ho ha hl ⟨p, hR, hp, ?_⟩
  rw [hP.2.2.2.1]
  refine t_sclear hs (sub_X1_1 ho) (by omega) ?_
  refine k16 (G 3 2) 0 _ (by omega) (fun b hb => clrI_ne (by omega) (by omega) (by omega)) ?_
  simp only [Nat.not_lt_zero, if_false]
  exact slR_clr
theorem mR_stop {I : HI} {v : Nat} (h : mR I o G N T) : mR (up I o 11 (nI v)) o G N (up T 0 7 v) := by
  obtain ⟨⟨m1, m2, m3⟩, v1, v2, v3, v4, tp, ts, lp⟩ := h
  simp only [mR, tpR, upc_ne (show ¬ 1 = 0 by decide), upc_ne (show ¬ 2 = 0 by decide), upc_ne (show ¬ 3 = 0 by decide), upc_ne (show ¬ 4 = 0 by decide), upc_ne (show ¬ 5 = 0 by decide), upc_ne (show ¬ 6 = 0 by decide), upc_ne (show ¬ 7 = 0 by decide), upc_ne (show ¬ 8 = 0 by decide), upc_ne (show ¬ 9 = 0 by decide), upc_ne (show ¬ 10 = 0 by decide), upc_ne (show ¬ 11 = 0 by decide), upc_ne (show ¬ 12 = 0 by decide), upc_ne (show ¬ 13 = 0 by decide), upc_ne (show ¬ 14 = 0 by decide), upc_ne (show ¬ 15 = 0 by decide), upc_ne (show ¬ 16 = 0 by decide), upc_ne (show ¬ 17 = 0 by decide), upc_ne (show ¬ 18 = 0 by decide)]
  have z0 : up T 0 7 v 0 0 = T 0 0 := up_nk (by decide)
  have z1 : up T 0 7 v 0 1 = T 0 1 := up_nk (by decide)
  have z2 : up T 0 7 v 0 2 = T 0 2 := up_nk (by decide)
  have z3 : up T 0 7 v 0 3 = T 0 3 := up_nk (by decide)
  have z4 : up T 0 7 v 0 4 = T 0 4 := up_nk (by decide)
  have z5 : up T 0 7 v 0 5 = T 0 5 := up_nk (by decide)
  have z6 : up T 0 7 v 0 6 = T 0 6 := up_nk (by decide)
  have z7 : up T 0 7 v 0 7 = v := up_s
  rw [z0, z1, z2, z3, z4, z5, z6, z7]
  refine ⟨⟨(up_nk (by decide)).trans m1, (up_nk (by decide)).trans m2, up_s⟩, (slR_ne (by omega) (by omega) (by omega)).mpr v1, (slR_ne (by omega) (by omega) (by omega)).mpr v2, (slR_ne (by omega) (by omega) (by omega)).mpr v3, (slR_ne (by omega) (by omega) (by omega)).mpr v4, (tpR_ne (T := T) (by omega)).mpr tp, (tsR_ne (by omega)).mpr ts, (lpR_n8 (by decide)).mpr lp⟩
theorem mR_done {I : HI} {v : Nat} (h : mR I o G N T) : mR (up I o 10 (nI v)) o G N (up T 0 1 v) := by
  obtain ⟨⟨m1, m2, m3⟩, v1, v2, v3, v4, tp, ts, lp⟩ := h
  simp only [mR, tpR, upc_ne (show ¬ 1 = 0 by decide), upc_ne (show ¬ 2 = 0 by decide), upc_ne (show ¬ 3 = 0 by decide), upc_ne (show ¬ 4 = 0 by decide), upc_ne (show ¬ 5 = 0 by decide), upc_ne (show ¬ 6 = 0 by decide), upc_ne (show ¬ 7 = 0 by decide), upc_ne (show ¬ 8 = 0 by decide), upc_ne (show ¬ 9 = 0 by decide), upc_ne (show ¬ 10 = 0 by decide), upc_ne (show ¬ 11 = 0 by decide), upc_ne (show ¬ 12 = 0 by decide), upc_ne (show ¬ 13 = 0 by decide), upc_ne (show ¬ 14 = 0 by decide), upc_ne (show ¬ 15 = 0 by decide), upc_ne (show ¬ 16 = 0 by decide), upc_ne (show ¬ 17 = 0 by decide), upc_ne (show ¬ 18 = 0 by decide)]
  have z0 : up T 0 1 v 0 0 = T 0 0 := up_nk (by decide)
  have z1 : up T 0 1 v 0 1 = v := up_s
  have z2 : up T 0 1 v 0 2 = T 0 2 := up_nk (by decide)
  have z3 : up T 0 1 v 0 3 = T 0 3 := up_nk (by decide)
  have z4 : up T 0 1 v 0 4 = T 0 4 := up_nk (by decide)
  have z5 : up T 0 1 v 0 5 = T 0 5 := up_nk (by decide)
  have z6 : up T 0 1 v 0 6 = T 0 6 := up_nk (by decide)
  have z7 : up T 0 1 v 0 7 = T 0 7 := up_nk (by decide)
  rw [z0, z1, z2, z3, z4, z5, z6, z7]
  refine ⟨⟨(up_nk (by decide)).trans m1, up_s, (up_nk (by decide)).trans m3⟩, (slR_ne (by omega) (by omega) (by omega)).mpr v1, (slR_ne (by omega) (by omega) (by omega)).mpr v2, (slR_ne (by omega) (by omega) (by omega)).mpr v3, (slR_ne (by omega) (by omega) (by omega)).mpr v4, (tpR_ne (T := T) (by omega)).mpr tp, (tsR_ne (by omega)).mpr ts, (lpR_n8 (by decide)).mpr lp⟩
theorem t_execute {a : Nat} {Q : Unit → HI → HR → Prop} (hs : Stat R) (ho : isX1 o) (hp : isX5 p) (hw : wfG G D N) (hP : pR I p G) (ha : am_is R a 13) (hl : (am_T a).2 = 4) (hao : a < o ∨ o + 26 < a) (hib : ∀ j, j < G 3 2 → inp j < 1000000007) (hin : ∀ j, j < G 3 2 → I a j = nI (inp j)) (h : ∀ I', mR I' o G N (theRun G inp) → frM o I I' → Q () I' (up R o 0 (some p))) : Wr fv (d + 6) M_X1_execute [.ref o, .ref p, .ref a] I J R Q := by
  refine ⟨Nat.le_of_ble_eq_true rfl, fun K hK => ?_⟩
  have hs1 : Stat (up R o 0 (some p)) := su_X1_0 hs ho
  have hg1 : am_g (up R o 0 (some p)) = am_g R := am_g_up (lt_X1 ho)
  have hR1 : up R o 0 (some p) o 0 = some p := up_s
  have ha1 : am_is (up R o 0 (some p)) a 13 := ⟨by rw [am_n_up (lt_X1 ho)]; exact ha.1, ha.2⟩
  have loop : ∀ (f : Nat) (T : SP) (I1 : HI), T 0 1 + f = 3001 → invT G D N T → mR I1 o G N T → frM o I I1 → (∀ I', mR I' o G N (runT G f T) → frM o I I' → Q () I' (up R o 0 (some p))) → K 12 [(0, .ref o), (3, .int (nI (T 0 1)))] [] I1 J (up R o 0 (some p)) := by
    intro f
    induction f with
    | zero => intro T I1 h1 h2; have := h2.1.2.2.1; omega
    | succ f ih =>
      intro T I1 h1 h2 h3 h4 h5
      have hP1 := pR_fr hp ho h4 hP
      have hlen := hw.2.2.2.2.1
      have h2a := h2.1
      have hmC : mC (up R o 0 (some p)) o p I1 G D N T := ⟨hs1, ho, hp, hR1, hw, h2, hP1, h3⟩
      refine g_X1_execute_12 hK hs hs1 hg1 ho hp ha1 hl ?_
      refine ⟨fun hc => absurd hc (nI_nlt (a := 3000) (b := T 0 1) (by omega) (by omega)), fun _ => ⟨p, hR1, hp, ?_⟩⟩
      have h3' := h3.1
      rw [hP1.1, h3'.1]
      simp only [runT] at h5
      refine ⟨fun hc => ?_, fun hc => ?_⟩
      · have : ¬ T 0 0 < G 3 0 := fun q => nI_ge q (by omega) hc
        rw [if_neg this] at h5
        exact h5 I1 h3 h4
      · have hat : T 0 0 < G 3 0 := by
          rcases Nat.lt_or_ge (T 0 0) (G 3 0) with q | q
          · exact q
          · exact absurd (nI_le q (by omega)) hc
        rw [if_pos hat] at h5
        refine t_pkind hs1 hp hw hP1 hat ?_
        refine t_reason hmC hat ?_
        refine ⟨fun hz => ?_, fun hz => ?_⟩
        · have hst : stopR G T = 0 := by
            have hb : stopR G T < 10 := by
              simp only [stopR]
              split
              · omega
              · split
                · omega
                · split
                  · omega
                  · split
                    · omega
                    · split
                      · omega
                      · split <;> omega
            exact (nI_eq (b := 0) (by omega) (by decide)).mp hz
          rw [if_pos hst] at h5
          have hsame : up I1 o 11 (nI (stopR G T)) = I1 := up_same (by rw [h3'.2.2, h2a.2.2.2.2.2.2.2, hst])
          rw [hsame]
          refine t_pkind hs1 hp hw hP1 hat ?_
          refine t_poperand hs1 hp hw hP1 hat ?_
          refine t_perform hmC hat hst (fun I' g1 g2 => ?_)
          have hd : I' o 10 = nI (T 0 1) := by
            have := g1.1.2.1
            rw [this]
            have e1 : up (actT G T) 0 0 (nextT G T) 0 1 = actT G T 0 1 := up_nk (by decide)
            have e2 : stepT G T 0 1 = T 0 1 + 1 := stepT_done
            have e3 : actT G T 0 1 = T 0 1 := act_done
            rw [e1, e3]
          rw [hd, nI_1]
          have hm := mR_done (v := T 0 1 + 1) g1
          have e4 : T 0 1 + 1 = stepT G T 0 1 := stepT_done.symm
          have := ih (stepT G T) (up I' o 10 (nI (T 0 1 + 1))) (by rw [← e4]; omega) (inv_step hw h2 hat hst) hm (frM_tr (frM_tr h4 g2) (frM_up (by omega) (by omega))) h5
          rw [← e4] at this
          exact this
        · have hst : ¬ stopR G T = 0 := fun q => hz (by rw [q]; rfl)
          rw [if_neg hst] at h5
          exact h5 _ (mR_stop h3) (frM_tr h4 (frM_up (by omega) (by omega)))
  refine g_X1_execute_0 hK hs hs rfl ho hp ha hl ?_
  refine t_mclear hs1 ho hp hR1 hw hP ha1 hl hao hin (fun I' g1 g2 => ?_)
  have e0 : startT G inp 0 1 = 0 := by simp [startT]
  have := loop 3001 (startT G inp) I' (by rw [e0]) (inv_start hw hib) g1 g2 h
  rw [e0] at this
  exact this
end EX
