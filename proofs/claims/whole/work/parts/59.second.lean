/-! second slopes: both sides -/
def crT (T : SP) (x y n : Nat) : Nat :=
  if T 9 n = 5 then mP (mP (slo (slA T x (T 0 4)) x (T 14 n) * slo (slA T y (T 0 4)) y (T 15 n)) + mP (slo (slA T y (T 0 4)) y (T 14 n) * slo (slA T x (T 0 4)) x (T 15 n)))
  else if T 9 n = 6 then mP (sP 0 (mP (mP (slA T x (T 0 4) n * slo (slA T y (T 0 4)) y (T 15 n)) + mP (slA T y (T 0 4) n * slo (slA T x (T 0 4)) x (T 15 n)))) * ivP (T 13 n)) else 0
def scA (T : SP) (x y : Nat) : Nat → Nat → Nat
  | 0 => fun _ => 0
  | n + 1 => fun j => if j = n then mP (jnT T n (scA T x y n (T 14 n)) (scA T x y n (T 15 n)) + crT T x y n) else scA T x y n j
def secT (T : SP) (k x y : Nat) : Nat := scA T (1000 + x) (1000 + y) (T 0 4) (T 8 k)
theorem crT_lt (T : SP) (x y n : Nat) : crT T x y n < 1000000007 := by
  simp only [crT]
  split
  · exact mP_lt _
  · split
    · exact mP_lt _
    · decide
theorem scA_lt (T : SP) (x y : Nat) : ∀ n j, scA T x y n j < 1000000007
  | 0, j => by show (0 : Nat) < _; decide
  | n + 1, j => by
    show (if j = n then _ else scA T x y n j) < _
    split
    · exact mP_lt _
    · exact scA_lt T x y n j
theorem scA_no (T : SP) (x y : Nat) : ∀ (n j : Nat), n ≤ j → scA T x y n j = 0
  | 0, j, _ => rfl
  | n + 1, j, h => by
    show (if j = n then _ else scA T x y n j) = 0
    rw [if_neg (by omega)]
    exact scA_no T x y n j (by omega)
theorem mP_dist (u v w : Nat) : mP (mP (u * v) + mP (w * v)) = mP (mP (u + w) * v) := by
  simp only [mP]
  rw [← Nat.add_mod, ← Nat.add_mul, Nat.mul_mod ((u + w) % 1000000007) v, Nat.mod_mod, ← Nat.mul_mod]
section BF
variable {d : Nat} {I : HI} {J : HJ} {R : HR} {o : Nat} {G T : SP} {D : Nat → Nat} {N : Nat → List Nat} {inp : Nat → Nat} {x1 x2 x3 : Int32}
theorem t_sof1 {a s n : Nat} {A : Nat → Nat} {Q : Int32 → Prop} (hs : Stat R) (ha : am_is R a 13) (hl : (am_T a).2 = 400) (hn : n ≤ 400) (hN : s < n ∨ (1000 ≤ s ∧ s ≤ 5000)) (hA : rN I a A n) (hz : ∀ j, n ≤ j → A j = 0) (h : Q (nI (A s))) : Wp fi (d + 1) M_X7_of [.ref a, .int (sI s), .int (-1)] I J R Q := by
  refine e_X7_of hs ha hl ?_
  have ne : ¬ sI s = -1 := by
    by_cases h5 : s = 5000
    · subst h5; decide
    · rw [sI_n h5]
      intro q
      have h1 : (-1 : Int32) < 0 := by decide
      rw [← q] at h1
      exact nI_pos (by omega) h1
  rw [sI_lt0 (by omega)]
  refine ⟨fun _ => ⟨fun h5 => ?_, fun h5 => ?_⟩, fun hc => absurd hc ne⟩
  · rw [hz s (by omega)] at h
    exact h
  · rw [sI_n h5]
    rcases hN with q | q
    · refine ⟨fun hc => absurd hc (nI_ge (b := 400) (by omega) (by omega)), fun _ => ⟨s, rfl, by omega, ?_⟩⟩
      rw [hA s q]
      exact h
    · rw [hz s (by omega)] at h
      exact ⟨fun _ => h, fun hc => absurd (nI_le (a := 400) (by omega) (by omega)) hc⟩
theorem t_crossed {n x y : Nat} {Q : Int32 → Prop} (hs : Stat R) (ho : isX9 o) (h4 : G 3 2 ≤ 4) (hF : finT G T) (hT : tpR I o T (T 0 4)) (hn : n < T 0 4) (hx : x < 5000) (hy : y < 5000) (hA : rN I 73 (slA T x (T 0 4)) (T 0 4)) (hB : rN I 74 (slA T y (T 0 4)) (T 0 4)) (h : Q (nI (crT T x y n))) : Wp fi (d + 2) M_X7_crossed [.ref 72, .ref o, .int (nI n), .int (nI x), .int (nI y)] I J R Q := by
  have he := hF.1.2.2.2.1
  obtain ⟨e1, e2, e3, e4, e5, e6, e7, e8, e9⟩ := hF.2.2.2.2.1 n hn
  obtain ⟨p0, p1, p2, p3, p4, p5, p6, p7, p8, p9⟩ := id hT
  have o14 := okS_n h4 (okS_mono (show n ≤ T 0 4 by omega) e7)
  have o15 := okS_n h4 (okS_mono (show n ≤ T 0 4 by omega) e8)
  have c : ∀ k : Nat, k < 10 → ((nI (T 9 n) = nI k) ↔ T 9 n = k) := fun k hk => nI_eq (by omega) (by omega)
  refine ⟨Nat.le_of_ble_eq_true rfl, fun K hK => ?_⟩
  have k34 : (T 9 n = 5 ∨ T 9 n = 6) → K 34 [(0, .ref 72), (1, .ref o), (2, .int (nI n)), (3, .int (nI x)), (4, .int (nI y))] [] I J R := by
    intro h56
    refine g_X7_crossed_34 hK hs ho ⟨n, rfl, by omega, ?_⟩
    rw [p1 n hn, p6 n hn, p7 n hn, hA n hn, hB n hn]
    refine t_sof (n := T 0 4) hs (sc_73 hs) rfl he o15 hx hA (slA_no T x (T 0 4)) ?_
    refine t_sof (n := T 0 4) hs (sc_74 hs) rfl he o15 hy hB (slA_no T y (T 0 4)) ?_
    simp only [crT] at h
    refine ⟨fun q => ?_, fun q => ?_⟩
    · have n5 : ¬ T 9 n = 5 := fun z => q ((c 5 (by decide)).mpr z)
      have n6 : T 9 n = 6 := by omega
      rw [if_neg n5, if_pos n6] at h
      rw [p8 n hn n6]
      refine t_times hs (slA_lt _ _ _ _) (slo_lt (slA_lt _ _ _)) ?_
      refine t_times hs (slA_lt _ _ _ _) (slo_lt (slA_lt _ _ _)) ?_
      refine t_plus hs (mP_lt _) (mP_lt _) ?_
      refine t_minus (a := 0) hs (by decide) (mP_lt _) ?_
      exact t_times hs (sP_lt _ _) (ivP_lt _) h
    · rw [if_pos ((c 5 (by decide)).mp q)] at h
      refine t_sof (n := T 0 4) hs (sc_73 hs) rfl he o14 hx hA (slA_no T x (T 0 4)) ?_
      refine t_sof (n := T 0 4) hs (sc_74 hs) rfl he o14 hy hB (slA_no T y (T 0 4)) ?_
      refine t_times hs (slo_lt (slA_lt _ _ _)) (slo_lt (slA_lt _ _ _)) ?_
      refine t_times hs (slo_lt (slA_lt _ _ _)) (slo_lt (slA_lt _ _ _)) ?_
      exact t_plus hs (mP_lt _) (mP_lt _) h
  refine g_X7_crossed_0 hK hs ho ⟨fun hc => absurd hc (nI_pos (by omega)), fun _ => ⟨fun hc => absurd hc (nI_ge (b := 400) (by omega) (by omega)), fun _ => ⟨n, rfl, by omega, ?_⟩⟩⟩
  rw [p1 n hn]
  refine ⟨fun q => k34 (Or.inl ((c 5 (by decide)).mp q)), fun q => ⟨fun q2 => k34 (Or.inr ((c 6 (by decide)).mp q2)), fun q2 => ?_⟩⟩
  have n5 : ¬ T 9 n = 5 := fun z => q ((c 5 (by decide)).mpr z)
  have n6 : ¬ T 9 n = 6 := fun z => q2 ((c 6 (by decide)).mpr z)
  simp only [crT] at h
  rw [if_neg n5, if_neg n6] at h
  exact h
theorem t_secondSlope {k u w : Nat} {Q : Int32 → HI → Prop} (hw : wfG G D N) (hF : finT G T) (hc : cQ I R G N T) (hk : k < T 0 3) (hu : u < 4) (hv : w < 4) (h : ∀ I', frC I I' → Q (nI (secT T k u w)) I') : Wc fi (d + 5) M_X11_secondSlope [.ref 0, .int (nI k), .int (nI u), .int (nI w)] I J R Q := by
  obtain ⟨hs, ⟨p, hp1, hp2, hp3⟩, ⟨n1, n2, n3⟩, v1, v2, v3, v4, v5, v6, v7⟩ := id hc
  have h4 := hw.2.2.2.2.2.1
  have he := hF.1.2.2.2.1
  have h20 := hF.1.2.2.2.2.1
  refine e_X11_secondSlope hs ?_
  refine t_sourceAt (n := T 0 3) hs (Or.inr (Or.inr (Or.inr (Or.inl rfl)))) v4.1 (by omega) hk ?_
  rw [show I (27 + 2) k = sI (T 8 k) from v4.2.2 k hk, show (1000 : Int32) + nI u = nI (1000 + u) from nI_add 1000 u, show (1000 : Int32) + nI w = nI (1000 + w) from nI_add 1000 w]
  refine ⟨Nat.le_of_ble_eq_true rfl, fun K hK => ?_⟩
  refine g_X7_twice_0 hK hs (Or.inl rfl) ?_
  refine t_sfill hs (Or.inl rfl) (sc_73 hs) rfl (by decide) h4 hF v5 (by omega) (fun I1 f1 g1 => ?_)
  have hfr1 := frC_c (c := 73) (Or.inr (by decide)) (by decide) (frC_rf (I := I)) f1
  have v51 : tpR I1 30 T (T 0 4) := (cQ_fr hfr1 hc).2.2.2.2.2.2.2.1
  refine t_sfill hs (Or.inl rfl) (sc_74 hs) rfl (by decide) h4 hF v51 (by omega) (fun I2 f2 g2 => ?_)
  have hfr2 := frC_c (c := 74) (Or.inr (by decide)) (by decide) hfr1 f2
  have g12 : rN I2 73 (slA T (1000 + u) (T 0 4)) (T 0 4) := by simp only [rN, f2 73 (by decide)]; exact g1
  have loop : ∀ (m i : Nat) (I3 : HI), i + m = T 0 4 → (∀ c, ¬ c = 75 → I3 c = I2 c) → rN I3 75 (scA T (1000 + u) (1000 + w) i) i → K 22 [(0, .ref 72), (1, .ref 30), (2, .int (sI (T 8 k))), (3, .int (nI (1000 + u))), (4, .int (nI (1000 + w))), (5, .int (nI i))] [] I3 J R := by
    intro m
    induction m with
    | zero =>
      intro i I3 hi hf hr
      have hie : i = T 0 4 := by omega
      subst hie
      have hfr3 := frC_c (c := 75) (Or.inr (by decide)) (by decide) hfr2 hf
      have v53 : tpR I3 30 T (T 0 4) := (cQ_fr hfr3 hc).2.2.2.2.2.2.2.1
      refine g_X7_twice_22 hK hs (Or.inl rfl) ?_
      rw [v53.1]
      refine ⟨fun _ => ?_, fun hc => absurd (nI_le (Nat.le_refl _) (by omega)) hc⟩
      exact t_sof1 (n := T 0 4) hs (sc_75 hs) rfl he (okS_n h4 (hF.2.2.2.1 k hk).2) hr (scA_no T _ _ (T 0 4)) (h I3 hfr3)
    | succ m ih =>
      intro i I3 hi hf hr
      have hfr3 := frC_c (c := 75) (Or.inr (by decide)) (by decide) hfr2 hf
      have v53 : tpR I3 30 T (T 0 4) := (cQ_fr hfr3 hc).2.2.2.2.2.2.2.1
      obtain ⟨e1, e2, e3, e4, e5, e6, e7, e8, e9⟩ := hF.2.2.2.2.1 i (by omega)
      have o14 := okS_n h4 e7
      have o15 := okS_n h4 e8
      refine g_X7_twice_22 hK hs (Or.inl rfl) ?_
      rw [v53.1, nI_1]
      refine ⟨fun hc => absurd hc (nI_ge (by omega) (by omega)), fun _ => ⟨fun hc => absurd hc (nI_ge (b := 400) (by omega) (by omega)), fun _ => ⟨i, rfl, by omega, ?_⟩⟩⟩
      rw [v53.2.2.2.2.2.2.1 i (by omega), v53.2.2.2.2.2.2.2.1 i (by omega)]
      refine t_sof1 (n := i) hs (sc_75 hs) rfl (by omega) o14 hr (scA_no T _ _ i) ?_
      refine t_sof1 (n := i) hs (sc_75 hs) rfl (by omega) o15 hr (scA_no T _ _ i) ?_
      refine t_joined hs (Or.inl rfl) hF v53 (by omega) (scA_lt _ _ _ _ _) (scA_lt _ _ _ _ _) ?_
      refine t_crossed hs (Or.inl rfl) h4 hF v53 (by omega) (by omega) (by omega) (by simp only [rN, hf 73 (by decide)]; exact g12) (by simp only [rN, hf 74 (by decide)]; exact g2) ?_
      refine t_plus hs (jnT_lt _ _ _ _) (crT_lt _ _ _ _) ?_
      refine ih (i + 1) _ (by omega) (fun c hc => (up_ne _ _ _ _ hc).trans (hf c hc)) ?_
      exact rN_push hr
  exact loop (T 0 4) 0 I2 (by omega) (fun _ _ => rfl) (fun j hj => absurd hj (by omega))
end BF
