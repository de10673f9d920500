/-! second slopes of the reference; second, both sides -/
theorem lsub4 {a b c e : Nat} (ha : a < 1000000007) (hb : b < 1000000007) (hc : c < 1000000007) (he : e < 1000000007) : (lN a - lN b - lN c - lN e).toInt = (a : Int) - b - c - e := by
  have h1 : (lN a - lN b - lN c).toInt = (a : Int) - b - c := by
    rw [Int64.toInt_sub, lsub ha hb, pk_lT (by omega)]
    apply Int.bmod_eq_of_le <;> omega
  rw [Int64.toInt_sub, h1, pk_lT (by omega)]
  apply Int.bmod_eq_of_le <;> omega
section BG
variable {d : Nat} {I : HI} {J : HJ} {R : HR} {o : Nat} {G T : SP} {D : Nat → Nat} {N : Nat → List Nat} {inp : Nat → Nat} {x1 x2 x3 : Int32}
theorem t_msec {a s n : Nat} {A : Nat → Nat} {Q : Int64 → Prop} (hs : Stat R) (ha : am_is R a 14) (hl : (am_T a).2 = 400) (hn : n ≤ 400) (hN : s < n ∨ (1000 ≤ s ∧ s ≤ 5000)) (hA : rL J a A n) (hz : ∀ j, n ≤ j → A j = 0) (h : Q (lN (A s))) : Wp fl (d + 1) M_X12_secondOf [.int (sI s), .ref a] I J R Q := by
  refine e_X12_secondOf hs ha hl ?_
  rw [sI_lt0 (by omega)]
  refine ⟨fun h5 => ?_, fun h5 => ?_⟩
  · rw [hz s (by omega)] at h
    exact h
  · rw [sI_n h5]
    rcases hN with q | q
    · refine ⟨fun hc => absurd hc (nI_ge (b := 1000) (by omega) (by omega)), fun _ => ⟨s, rfl, by omega, ?_⟩⟩
      rw [hA s q]
      exact h
    · rw [hz s (by omega)] at h
      exact ⟨fun _ => h, fun hc => absurd (nI_le (a := 1000) (by omega) (by omega)) hc⟩
theorem t_secondBy {k u w : Nat} {Q : Int64 → HI → HJ → Prop} (hw : wfG G D N) (hF : finT G T) (hr : rQ I J R G T) (h80 : I 80 0 = 0) (hk : k < T 0 3) (hu : u < 4) (hv : w < 4) (h : ∀ J', frA I I J J' → Q (lN (secT T k u w)) I J') : Wd fl (d + 4) M_X12_secondBy [.ref 80, .int (nI k), .int (nI u), .int (nI w)] I J R Q := by
  have hs := hr.1
  have h4 := hw.2.2.2.2.2.1
  have he := hF.1.2.2.2.1
  have h20 := hF.1.2.2.2.2.1
  have hf0 : frA I I J J := ⟨fun _ _ _ => rfl, fun _ _ => rfl, h80, fun _ _ => rfl⟩
  refine ⟨Nat.le_of_ble_eq_true rfl, fun K hK => ?_⟩
  refine g_X12_secondBy_0 hK hs ?_
  rw [show (1000 : Int32) + nI u = nI (1000 + u) from nI_add 1000 u, show (1000 : Int32) + nI w = nI (1000 + w) from nI_add 1000 w]
  refine t_mlays hs (sc_112 hs) rfl (by decide) h4 hF hr.2.2.1 (by omega) (fun J1 f1 g1 => ?_)
  have hfr1 := frA_J (c := 112) (by decide) (by decide) hf0 f1
  refine t_mlays hs (sc_113 hs) rfl (by decide) h4 hF (rQ_fr hfr1 hr).2.2.1 (by omega) (fun J2 f2 g2 => ?_)
  have hfr2 := frA_J (c := 113) (by decide) (by decide) hfr1 f2
  have g12 : ∀ j, j < T 0 4 → ¬ j = 1000 + u → J2 112 j = lN (slA T (1000 + u) (T 0 4) j) := fun j hj hx => by rw [f2 112 (by decide)]; exact g1 j hj hx
  have loop : ∀ (m i : Nat) (J3 : HJ), i + m = T 0 4 → (∀ c, ¬ c = 114 → J3 c = J2 c) → rL J3 114 (scA T (1000 + u) (1000 + w) i) i → K 29 [(0, .ref 80), (1, .int (nI k)), (2, .int (nI u)), (3, .int (nI w)), (4, .int (nI i))] [] I J3 R := by
    intro m
    induction m with
    | zero =>
      intro i J3 hi hf hr3
      have hie : i = T 0 4 := by omega
      subst hie
      have hfr3 := frA_J (c := 114) (by decide) (by decide) hfr2 hf
      have q3 := (rQ_fr hfr3 hr).2.2.1
      refine g_X12_secondBy_29 hK hs ?_
      rw [q3.1.1]
      refine ⟨fun _ => ⟨k, rfl, by omega, ?_⟩, fun hc => absurd (nI_le (Nat.le_refl _) (by omega)) hc⟩
      rw [q3.2.2.2.2.1.2 k hk]
      exact t_msec (n := T 0 4) hs (sc_114 hs) rfl he (okS_n h4 (hF.2.2.2.1 k hk).2) hr3 (scA_no T _ _ (T 0 4)) (h J3 hfr3)
    | succ m ih =>
      intro i J3 hi hf hr3
      have hfr3 := frA_J (c := 114) (by decide) (by decide) hfr2 hf
      obtain ⟨⟨a44, a47, a54, a56, a57, a61⟩, ⟨b99, b100⟩, ⟨b101, b102⟩, ⟨b103, b104⟩, ⟨b105, b106⟩, ⟨b92, b98, b93, b94, b95, b96, b97⟩, b107, b108⟩ := (rQ_fr hfr3 hr).2.2.1
      obtain ⟨e1, e2, e3, e4, e5, e6, e7, e8, e9⟩ := hF.2.2.2.2.1 i (by omega)
      have o14 := okS_n h4 e7
      have o15 := okS_n h4 e8
      have p14 := okS_n h4 (okS_mono (show i ≤ T 0 4 by omega) e7)
      have p15 := okS_n h4 (okS_mono (show i ≤ T 0 4 by omega) e8)
      have h11 : T 11 i < 1000000007 := by rw [e4]; exact resO_lt _ _ _
      have c : ∀ k : Nat, k < 10 → ((nI (T 9 i) = nI k) ↔ T 9 i = k) := fun k hk => nI_eq (by omega) (by omega)
      have j112 : ∀ j, j < T 0 4 → ¬ j = 1000 + u → J3 112 j = lN (slA T (1000 + u) (T 0 4) j) := fun j hj hx => by rw [hf 112 (by decide)]; exact g12 j hj hx
      have j113 : ∀ j, j < T 0 4 → ¬ j = 1000 + w → J3 113 j = lN (slA T (1000 + w) (T 0 4) j) := fun j hj hx => by rw [hf 113 (by decide)]; exact g2 j hj hx
      have k323 : ∀ z : Int64, -4611686018427387904 ≤ z.toInt → z.toInt ≤ 4611686018427387904 → zP z.toInt = mP (jnT T i (scA T (1000 + u) (1000 + w) i (T 14 i)) (scA T (1000 + u) (1000 + w) i (T 15 i)) + crT T (1000 + u) (1000 + w) i) → K 323 [(0, .ref 80), (1, .int (nI k)), (2, .int (nI u)), (3, .int (nI w)), (4, .int (nI i)), (17, .long z)] [] I J3 R := by
        intro z q1 q2 q3
        refine g_X12_secondBy_323 hK hs ?_
        refine t_left hs q1 q2 ⟨i, rfl, by omega, ?_⟩
        rw [q3, nI_1]
        refine ih (i + 1) _ (by omega) (fun c hc => (up_ne _ _ _ _ hc).trans (hf c hc)) ?_
        exact rL_push hr3
      refine g_X12_secondBy_29 hK hs ?_
      rw [a44, show (1000 : Int32) + nI u = nI (1000 + u) from nI_add 1000 u, show (1000 : Int32) + nI w = nI (1000 + w) from nI_add 1000 w]
      refine ⟨fun hc => absurd hc (nI_ge (by omega) (by omega)), fun _ => ⟨i, rfl, by omega, ?_⟩⟩
      rw [b96 i (by omega), b97 i (by omega), b92 i (by omega), b93 i (by omega), b94 i (by omega), b95 i (by omega), j112 i (by omega) (by omega), j113 i (by omega) (by omega)]
      refine t_msec (n := i) hs (sc_114 hs) rfl (by omega) o14 hr3 (scA_no T _ _ i) ?_
      refine t_msec (n := i) hs (sc_114 hs) rfl (by omega) o15 hr3 (scA_no T _ _ i) ?_
      refine t_mslo (n := T 0 4) (A := slA T (1000 + u) (T 0 4)) hs (sc_112 hs) rfl he p14 (by omega) j112 (slA_no T _ _) ?_
      refine t_mslo (n := T 0 4) (A := slA T (1000 + u) (T 0 4)) hs (sc_112 hs) rfl he p15 (by omega) j112 (slA_no T _ _) ?_
      refine t_mslo (n := T 0 4) (A := slA T (1000 + w) (T 0 4)) hs (sc_113 hs) rfl he p14 (by omega) j113 (slA_no T _ _) ?_
      refine t_mslo (n := T 0 4) (A := slA T (1000 + w) (T 0 4)) hs (sc_113 hs) rfl he p15 (by omega) j113 (slA_no T _ _) ?_
      simp only [jnT, crT] at k323
      have l1 := scA_lt T (1000 + u) (1000 + w) i (T 14 i)
      have l2 := scA_lt T (1000 + u) (1000 + w) i (T 15 i)
      have l3 := slo_lt (x := 1000 + u) (s := T 14 i) (slA_lt T (1000 + u) (T 0 4))
      have l4 := slo_lt (x := 1000 + u) (s := T 15 i) (slA_lt T (1000 + u) (T 0 4))
      have l5 := slo_lt (x := 1000 + w) (s := T 14 i) (slA_lt T (1000 + w) (T 0 4))
      have l6 := slo_lt (x := 1000 + w) (s := T 15 i) (slA_lt T (1000 + w) (T 0 4))
      have l7 := slA_lt T (1000 + u) (T 0 4) i
      have l8 := slA_lt T (1000 + w) (T 0 4) i
      generalize scA T (1000 + u) (1000 + w) i (T 14 i) = A14 at l1 k323 ⊢
      generalize scA T (1000 + u) (1000 + w) i (T 15 i) = A15 at l2 k323 ⊢
      generalize slo (slA T (1000 + u) (T 0 4)) (1000 + u) (T 14 i) = f14 at l3 k323 ⊢
      generalize slo (slA T (1000 + u) (T 0 4)) (1000 + u) (T 15 i) = f15 at l4 k323 ⊢
      generalize slo (slA T (1000 + w) (T 0 4)) (1000 + w) (T 14 i) = g14 at l5 k323 ⊢
      generalize slo (slA T (1000 + w) (T 0 4)) (1000 + w) (T 15 i) = g15 at l6 k323 ⊢
      generalize slA T (1000 + u) (T 0 4) i = Fi at l7 k323 ⊢
      generalize slA T (1000 + w) (T 0 4) i = Gi at l8 k323 ⊢
      have mb : ∀ a b : Nat, a < 1000000007 → b < 1000000007 → a * b < 2 ^ 63 := fun a b ha hb => by
        have : a * b < 1000000007 * 1000000007 := Nat.mul_lt_mul_of_lt_of_le ha (by omega) (by decide)
        omega
      have rm : ∀ a b : Nat, a < 1000000007 → b < 1000000007 → lN a * lN b - lN a * lN b / 1000000007 * 1000000007 = lN (mP (a * b)) := fun a b ha hb => by
        rw [lN_mul, cPL, pk_lRem (mb a b ha hb) (by decide) (by decide)]
        rfl
      rw [rm _ _ l7 l6, rm _ _ l8 l4, rm _ _ h11 l2, rm _ _ l1 e6, rm _ _ l3 l6, rm _ _ l5 l4, rm _ _ l2 e5]
      refine ⟨fun n3 => ⟨fun n4 => ⟨fun n5 => ?_, fun n5 => ?_⟩, fun n4 => ?_⟩, fun n3 => ?_⟩
      · have z3 : ¬ T 9 i = 3 := fun z => n3 ((c 3 (by decide)).mpr z)
        have z4 : ¬ T 9 i = 4 := fun z => n4 ((c 4 (by decide)).mpr z)
        have z5 : ¬ T 9 i = 5 := fun z => n5 ((c 5 (by decide)).mpr z)
        have z6 : T 9 i = 6 := by omega
        have q1 := mP_lt (Fi * g15)
        have q2 := mP_lt (Gi * f15)
        have q3 := mP_lt (T 11 i * A15)
        refine t_left hs (by rw [lsub4 l1 q1 q2 q3]; omega) (by rw [lsub4 l1 q1 q2 q3]; omega) ?_
        rw [lsub4 l1 q1 q2 q3]
        refine t_parted hs (zP_lt _) e6 ?_
        have q9 := mP_lt (zP ((A14 : Int) - mP (Fi * g15) - mP (Gi * f15) - mP (T 11 i * A15)) * ivP (T 13 i))
        refine k323 _ ?_ ?_ ?_
        · rw [pk_lT (by omega)]; omega
        · rw [pk_lT (by omega)]; omega
        · rw [if_neg z3, if_neg z4, if_neg z5, if_neg z5, if_pos z6, pk_lT (by omega), zP_nat, mP_of q9, mP_dist]
          have : zP ((A14 : Int) - mP (Fi * g15) - mP (Gi * f15) - mP (T 11 i * A15)) = mP (sP A14 (mP (T 11 i * A15)) + sP 0 (mP (mP (Fi * g15) + mP (Gi * f15)))) := by
            generalize mP (Fi * g15) = X at q1 ⊢
            generalize mP (Gi * f15) = Y at q2 ⊢
            generalize mP (T 11 i * A15) = Z at q3 ⊢
            simp only [zP, sP, mP]
            omega
          rw [this]
      · have z3 : ¬ T 9 i = 3 := fun z => n3 ((c 3 (by decide)).mpr z)
        have z4 : ¬ T 9 i = 4 := fun z => n4 ((c 4 (by decide)).mpr z)
        have z5 := (c 5 (by decide)).mp n5
        have q1 := mP_lt (A14 * T 13 i)
        have q2 := mP_lt (f14 * g15)
        have q3 := mP_lt (g14 * f15)
        have q4 := mP_lt (A15 * T 12 i)
        rw [lN_add, lN_add, lN_add]
        refine k323 _ ?_ ?_ ?_
        · rw [pk_lT (by omega)]; omega
        · rw [pk_lT (by omega)]; omega
        · rw [if_neg z3, if_neg z4, if_pos z5, if_pos z5, pk_lT (by omega), zP_nat, Nat.mul_comm (T 12 i)]
          generalize mP (A14 * T 13 i) = X at q1 ⊢
          generalize mP (f14 * g15) = Y at q2 ⊢
          generalize mP (g14 * f15) = Z at q3 ⊢
          generalize mP (A15 * T 12 i) = W at q4 ⊢
          simp only [mP]
          omega
      · have z3 : ¬ T 9 i = 3 := fun z => n3 ((c 3 (by decide)).mpr z)
        have z4 := (c 4 (by decide)).mp n4
        refine k323 _ ?_ ?_ ?_
        · rw [lsub l1 l2]; omega
        · rw [lsub l1 l2]; omega
        · rw [if_neg z3, if_pos z4, if_neg (by omega), if_neg (by omega), lsub l1 l2, zP_sub _ _ (by omega), Nat.add_zero, mP_of (sP_lt _ _)]
      · have z3 := (c 3 (by decide)).mp n3
        rw [lN_add]
        refine k323 _ ?_ ?_ ?_
        · rw [pk_lT (by omega)]; omega
        · rw [pk_lT (by omega)]; omega
        · rw [if_pos z3, if_neg (by omega), if_neg (by omega), pk_lT (by omega), zP_nat, Nat.add_zero, mP_of (mP_lt _)]
  exact loop (T 0 4) 0 J2 (by omega) (fun _ _ => rfl) (fun j hj => absurd hj (by omega))
end BG
