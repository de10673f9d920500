/-! slopes: both sides -/
/-- the slope of a value of that source -/
def slo (A : Nat → Nat) (x s : Nat) : Nat := if s = x then 1 else A s
/-- of an ENTRY, from those of what it was made of -/
def jnT (T : SP) (n a b : Nat) : Nat := if T 9 n = 3 then mP (a + b) else if T 9 n = 4 then sP a b else if T 9 n = 5 then mP (mP (a * T 13 n) + mP (T 12 n * b)) else mP (sP a (mP (T 11 n * b)) * ivP (T 13 n))
def slA (T : SP) (x : Nat) : Nat → Nat → Nat
  | 0 => fun _ => 0
  | n + 1 => fun j => if j = n then jnT T n (slo (slA T x n) x (T 14 n)) (slo (slA T x n) x (T 15 n)) else slA T x n j
theorem jnT_lt (T : SP) (n a b : Nat) : jnT T n a b < 1000000007 := by
  simp only [jnT]
  split
  · exact mP_lt _
  · split
    · exact sP_lt _ _
    · split <;> exact mP_lt _
theorem slA_lt (T : SP) (x : Nat) : ∀ n j, slA T x n j < 1000000007
  | 0, j => by show (0 : Nat) < _; decide
  | n + 1, j => by
    show (if j = n then _ else slA T x n j) < _
    split
    · exact jnT_lt _ _ _ _
    · exact slA_lt T x n j
theorem slA_no (T : SP) (x : Nat) : ∀ (n j : Nat), n ≤ j → slA T x n j = 0
  | 0, j, _ => rfl
  | n + 1, j, h => by
    show (if j = n then _ else slA T x n j) = 0
    rw [if_neg (by omega)]
    exact slA_no T x n j (by omega)
theorem slo_lt {A : Nat → Nat} {x s : Nat} (h : ∀ j, A j < 1000000007) : slo A x s < 1000000007 := by
  simp only [slo]
  split
  · decide
  · exact h s
section BD
variable {d : Nat} {I : HI} {J : HJ} {R : HR} {o : Nat} {G T : SP} {D : Nat → Nat} {N : Nat → List Nat} {inp : Nat → Nat} {x1 x2 x3 : Int32}
theorem t_sof {a s x n : Nat} {A : Nat → Nat} {Q : Int32 → Prop} (hs : Stat R) (ha : am_is R a 13) (hl : (am_T a).2 = 400) (hn : n ≤ 400) (hN : s < n ∨ (1000 ≤ s ∧ s ≤ 5000)) (hx : x < 5000) (hA : rN I a A n) (hz : ∀ j, n ≤ j → A j = 0) (h : Q (nI (slo A x s))) : Wp fi (d + 1) M_X7_of [.ref a, .int (sI s), .int (nI x)] I J R Q := by
  refine e_X7_of hs ha hl ?_
  rw [sI_eq (by omega) hx, sI_lt0 (by omega)]
  simp only [slo] at h
  refine ⟨fun hc => ?_, fun hc => ?_⟩
  · rw [if_neg hc] at h
    refine ⟨fun h5 => ?_, fun h5 => ?_⟩
    · rw [hz s (by omega)] at h
      exact h
    · rw [sI_n h5]
      rcases hN with q | q
      · refine ⟨fun hc => absurd hc (nI_ge (b := 400) (by omega) (by omega)), fun _ => ⟨s, rfl, by omega, ?_⟩⟩
        rw [hA s q]
        exact h
      · rw [hz s (by omega)] at h
        exact ⟨fun _ => h, fun hc => absurd (nI_le (a := 400) (by omega) (by omega)) hc⟩
  · rw [if_pos hc] at h
    exact h
theorem t_joined {n a b : Nat} {Q : Int32 → Prop} (hs : Stat R) (ho : isX9 o) (hF : finT G T) (hT : tpR I o T (T 0 4)) (hn : n < T 0 4) (ha : a < 1000000007) (hb : b < 1000000007) (h : Q (nI (jnT T n a b))) : Wp fi (d + 2) M_X7_joined [.ref o, .int (nI n), .int (nI a), .int (nI b)] I J R Q := by
  have he := hF.1.2.2.2.1
  obtain ⟨e1, e2, e3, e4, e5, e6, e7, e8, e9⟩ := hF.2.2.2.2.1 n hn
  obtain ⟨p0, p1, p2, p3, p4, p5, p6, p7, p8, p9⟩ := id hT
  have h11 : T 11 n < 1000000007 := by rw [e4]; exact resO_lt _ _ _
  refine e_X7_joined hs ho ⟨fun hc => absurd hc (nI_pos (by omega)), fun _ => ⟨fun _ => ⟨n, rfl, by omega, ?_⟩, fun hc => absurd (nI_lt (b := 400) (by omega) (by omega)) hc⟩⟩
  have c : ∀ k : Nat, k < 10 → ((nI (T 9 n) = nI k) ↔ T 9 n = k) := fun k hk => nI_eq (by omega) (by omega)
  rw [p1 n hn, p3 n hn, p4 n hn, p5 n hn]
  simp only [jnT] at h
  refine ⟨fun q => ?_, fun q => ⟨fun q2 => ?_, fun q2 => ⟨fun q3 => ?_, fun q3 => ?_⟩⟩⟩
  · rw [if_pos ((c 3 (by decide)).mp q)] at h
    exact t_plus hs ha hb h
  · rw [if_neg (fun z => q ((c 3 (by decide)).mpr z)), if_pos ((c 4 (by decide)).mp q2)] at h
    exact t_minus hs ha hb h
  · rw [if_neg (fun z => q ((c 3 (by decide)).mpr z)), if_neg (fun z => q2 ((c 4 (by decide)).mpr z)), if_pos ((c 5 (by decide)).mp q3)] at h
    refine t_times hs ha e6 (t_times hs e5 hb (t_plus hs (mP_lt _) (mP_lt _) h))
  · have n3 : ¬ T 9 n = 3 := fun z => q ((c 3 (by decide)).mpr z)
    have n4 : ¬ T 9 n = 4 := fun z => q2 ((c 4 (by decide)).mpr z)
    have n5 : ¬ T 9 n = 5 := fun z => q3 ((c 5 (by decide)).mpr z)
    rw [if_neg n3, if_neg n4, if_neg n5] at h
    rw [p8 n hn (by omega)]
    exact t_times hs h11 hb (t_minus hs ha (mP_lt _) (t_times hs (sP_lt _ _) (ivP_lt _) h))
theorem t_sfill {a x : Nat} {Q : Unit → HI → Prop} (hs : Stat R) (ho : isX9 o) (ha : am_is R a 13) (hl : (am_T a).2 = 400) (hao : o + 10 < a) (h4 : G 3 2 ≤ 4) (hF : finT G T) (hT : tpR I o T (T 0 4)) (hx : x < 5000) (h : ∀ I', (∀ c, ¬ c = a → I' c = I c) → rN I' a (slA T x (T 0 4)) (T 0 4) → Q () I') : Wc fv (d + 3) M_X7_fill [.ref a, .ref o, .int (nI x)] I J R Q := by
  have he := hF.1.2.2.2.1
  refine ⟨Nat.le_of_ble_eq_true rfl, fun K hK => ?_⟩
  have loop : ∀ (m i : Nat) (I1 : HI), i + m = T 0 4 → (∀ c, ¬ c = a → I1 c = I c) → rN I1 a (slA T x i) i → K 2 [(0, .ref a), (1, .ref o), (2, .int (nI x)), (3, .int (nI i))] [] I1 J R := by
    intro m
    induction m with
    | zero =>
      intro i I1 hi hf hr
      have hie : i = T 0 4 := by omega
      subst hie
      refine g_X7_fill_2 hK hs ha hl ho ?_
      rw [hf o (by omega), hT.1]
      exact ⟨fun _ => h I1 hf hr, fun hc => absurd (nI_le (Nat.le_refl _) (by omega)) hc⟩
    | succ m ih =>
      intro i I1 hi hf hr
      have hE := hF.2.2.2.2.1 i (by omega)
      have o14 := okS_n h4 hE.2.2.2.2.2.2.1
      have o15 := okS_n h4 hE.2.2.2.2.2.2.2.1
      have hT1 : tpR I1 o T (T 0 4) := tpR_cg (fun k hk => hf _ (by omega)) hT
      refine g_X7_fill_2 hK hs ha hl ho ?_
      rw [hf o (by omega), hT.1, nI_1]
      refine ⟨fun hc => absurd hc (nI_ge (by omega) (by omega)), fun _ => ⟨fun hc => absurd hc (nI_ge (b := 400) (by omega) (by omega)), fun _ => ⟨i, rfl, by omega, ?_⟩⟩⟩
      rw [hT1.2.2.2.2.2.2.1 i (by omega), hT1.2.2.2.2.2.2.2.1 i (by omega)]
      refine t_sof hs ha hl (by omega) o14 hx hr (slA_no T x i) ?_
      refine t_sof hs ha hl (by omega) o15 hx hr (slA_no T x i) ?_
      refine t_joined hs ho hF hT1 (by omega) (slo_lt (slA_lt T x i)) (slo_lt (slA_lt T x i)) ?_
      refine ih (i + 1) _ (by omega) (fun c hc => (up_ne _ _ _ _ hc).trans (hf c hc)) ?_
      exact rN_push hr
  exact g_X7_fill_0 hK hs ha hl ho (loop (T 0 4) 0 I (by omega) (fun _ _ => rfl) (fun j hj => absurd hj (by omega)))
/-! the reference -/
theorem t_mslo {a s x n : Nat} {A : Nat → Nat} {Q : Int64 → Prop} (hs : Stat R) (ha : am_is R a 14) (hl : (am_T a).2 = 400) (hn : n ≤ 400) (hN : s < n ∨ (1000 ≤ s ∧ s ≤ 5000)) (hx : x < 5000) (hA : ∀ j, j < n → ¬ j = x → J a j = lN (A j)) (hz : ∀ j, n ≤ j → A j = 0) (h : Q (lN (slo A x s))) : Wp fl (d + 1) M_X12_slopeOf [.int (sI s), .int (nI x), .ref a] I J R Q := by
  refine e_X12_slopeOf hs ha hl ?_
  rw [sI_eq (by omega) hx, sI_lt0 (by omega)]
  simp only [slo] at h
  refine ⟨fun hc => ?_, fun hc => ?_⟩
  · rw [if_neg hc] at h
    refine ⟨fun h5 => ?_, fun h5 => ?_⟩
    · rw [hz s (by omega)] at h
      exact h
    · rw [sI_n h5]
      rcases hN with q | q
      · refine ⟨fun hc => absurd hc (nI_ge (b := 1000) (by omega) (by omega)), fun _ => ⟨s, rfl, by omega, ?_⟩⟩
        rw [hA s q hc]
        exact h
      · rw [hz s (by omega)] at h
        exact ⟨fun _ => h, fun hc => absurd (nI_le (a := 1000) (by omega) (by omega)) hc⟩
  · rw [if_pos hc] at h
    exact h
theorem t_mlays {a x : Nat} {L : List Nat} {Q : Unit → HI → HJ → Prop} (hs : Stat R) (ha : am_is R a 14) (hl : (am_T a).2 = 400) (hao : 108 < a) (h4 : G 3 2 ≤ 4) (hF : finT G T) (hM : qM I J T L) (hx : x < 5000) (h : ∀ J', (∀ c, ¬ c = a → J' c = J c) → (∀ j, j < T 0 4 → ¬ j = x → J' a j = lN (slA T x (T 0 4) j)) → Q () I J') : Wd fv (d + 3) M_X12_lays [.ref 80, .int (nI x), .ref a] I J R Q := by
  have he := hF.1.2.2.2.1
  obtain ⟨⟨a44, a47, a54, a56, a57, a61⟩, ⟨b99, b100⟩, ⟨b101, b102⟩, ⟨b103, b104⟩, ⟨b105, b106⟩, ⟨b92, b98, b93, b94, b95, b96, b97⟩, b107, b108⟩ := id hM
  refine ⟨Nat.le_of_ble_eq_true rfl, fun K hK => ?_⟩
  have loop : ∀ (m i : Nat) (J1 : HJ), i + m = T 0 4 → (∀ c, ¬ c = a → J1 c = J c) → (∀ j, j < i → ¬ j = x → J1 a j = lN (slA T x i j)) → K 2 [(0, .ref 80), (1, .int (nI x)), (2, .ref a), (3, .int (nI i))] [] I J1 R := by
    intro m
    induction m with
    | zero =>
      intro i J1 hi hf hr
      have hie : i = T 0 4 := by omega
      subst hie
      refine g_X12_lays_2 hK hs ha hl ?_
      rw [a44]
      exact ⟨fun _ => h J1 hf hr, fun hc => absurd (nI_le (Nat.le_refl _) (by omega)) hc⟩
    | succ m ih =>
      intro i J1 hi hf hr
      obtain ⟨e1, e2, e3, e4, e5, e6, e7, e8, e9⟩ := hF.2.2.2.2.1 i (by omega)
      have o14 := okS_n h4 e7
      have o15 := okS_n h4 e8
      have h11 : T 11 i < 1000000007 := by rw [e4]; exact resO_lt _ _ _
      have c : ∀ k : Nat, k < 10 → ((nI (T 9 i) = nI k) ↔ T 9 i = k) := fun k hk => nI_eq (by omega) (by omega)
      have cx : (nI i = nI x) ↔ i = x := nI_eq (by omega) (by omega)
      have hA := slo_lt (x := x) (s := T 14 i) (slA_lt T x i)
      have hB := slo_lt (x := x) (s := T 15 i) (slA_lt T x i)
      have k148 : ∀ z : Int64, -4611686018427387904 ≤ z.toInt → z.toInt ≤ 4611686018427387904 → zP z.toInt = jnT T i (slo (slA T x i) x (T 14 i)) (slo (slA T x i) x (T 15 i)) → K 148 [(0, .ref 80), (1, .int (nI x)), (2, .ref a), (3, .int (nI i)), (8, .long z)] [] I J1 R := by
        intro z g1 g2 g3
        have nx : ∀ v : Nat, (¬ i = x → v = jnT T i (slo (slA T x i) x (T 14 i)) (slo (slA T x i) x (T 15 i))) → K 2 [(0, .ref 80), (1, .int (nI x)), (2, .ref a), (3, .int (nI (i + 1)))] [] I (up J1 a i (lN v)) R := by
          intro v hv
          refine ih (i + 1) _ (by omega) (fun c hc => (up_ne _ _ _ _ hc).trans (hf c hc)) ?_
          intro j hj hjx
          show _ = lN (if j = i then _ else slA T x i j)
          by_cases hji : j = i
          · subst hji
            rw [up_s, if_pos rfl, hv hjx]
          · rw [up_nk hji, if_neg hji]
            exact hr j (by omega) hjx
        refine g_X12_lays_148 hK hs ha hl ?_
        rw [cx, nI_1]
        refine ⟨fun q => ?_, fun q => ⟨i, rfl, by omega, nx 1 (fun z => absurd q z)⟩⟩
        refine t_left hs g1 g2 ⟨i, rfl, by omega, ?_⟩
        rw [g3]
        exact nx _ (fun _ => rfl)
      refine g_X12_lays_2 hK hs ha hl ?_
      rw [a44]
      refine ⟨fun hc => absurd hc (nI_ge (by omega) (by omega)), fun _ => ⟨i, rfl, by omega, ?_⟩⟩
      rw [b96 i (by omega), b97 i (by omega), b92 i (by omega)]
      have hj93 : J1 93 i = lN (T 11 i) := by rw [hf 93 (by omega)]; exact b93 i (by omega)
      have hj94 : J1 94 i = lN (T 12 i) := by rw [hf 94 (by omega)]; exact b94 i (by omega)
      have hj95 : J1 95 i = lN (T 13 i) := by rw [hf 95 (by omega)]; exact b95 i (by omega)
      rw [hj93, hj94, hj95]
      refine t_mslo (A := slA T x i) hs ha hl (by omega) o14 hx hr (slA_no T x i) ?_
      refine t_mslo (A := slA T x i) hs ha hl (by omega) o15 hx hr (slA_no T x i) ?_
      simp only [jnT] at k148
      generalize slo (slA T x i) x (T 14 i) = u at hA k148 ⊢
      generalize slo (slA T x i) x (T 15 i) = w at hB k148 ⊢
      have m1 : T 11 i * w < 1000000007 * 1000000007 := Nat.mul_lt_mul_of_lt_of_le h11 (by omega) (by decide)
      have m2 : u * T 13 i < 1000000007 * 1000000007 := Nat.mul_lt_mul_of_lt_of_le hA (by omega) (by decide)
      have m3 : w * T 12 i < 1000000007 * 1000000007 := Nat.mul_lt_mul_of_lt_of_le hB (by omega) (by decide)
      rw [lN_mul, lN_mul, lN_mul, cPL, pk_lRem (by omega) (by decide) (by decide), pk_lRem (by omega) (by decide) (by decide), pk_lRem (by omega) (by decide) (by decide), lN_add, lN_add]
      have q1 := mP_lt (T 11 i * w)
      have q2 := mP_lt (u * T 13 i)
      have q3 := mP_lt (w * T 12 i)
      simp only [mP] at q1 q2 q3
      refine ⟨fun n3 => ⟨fun n4 => ⟨fun n5 => ?_, fun n5 => ?_⟩, fun n4 => ?_⟩, fun n3 => ?_⟩
      · have z3 : ¬ T 9 i = 3 := fun z => n3 ((c 3 (by decide)).mpr z)
        have z4 : ¬ T 9 i = 4 := fun z => n4 ((c 4 (by decide)).mpr z)
        have z5 : ¬ T 9 i = 5 := fun z => n5 ((c 5 (by decide)).mpr z)
        refine t_left hs (by rw [lsub hA q1]; omega) (by rw [lsub hA q1]; omega) ?_
        rw [lsub hA q1, zP_sub _ _ (by omega)]
        refine t_parted hs (sP_lt _ _) e6 ?_
        have q9 := mP_lt (sP u (T 11 i * w % 1000000007) * ivP (T 13 i))
        refine k148 _ ?_ ?_ ?_
        · rw [pk_lT (by omega)]; omega
        · rw [pk_lT (by omega)]; omega
        · rw [if_neg z3, if_neg z4, if_neg z5, pk_lT (by omega), zP_nat, mP_of q9]
          rfl
      · have z3 : ¬ T 9 i = 3 := fun z => n3 ((c 3 (by decide)).mpr z)
        have z4 : ¬ T 9 i = 4 := fun z => n4 ((c 4 (by decide)).mpr z)
        refine k148 _ ?_ ?_ ?_
        · rw [pk_lT (by omega)]; omega
        · rw [pk_lT (by omega)]; omega
        · rw [if_neg z3, if_neg z4, if_pos ((c 5 (by decide)).mp n5), pk_lT (by omega), zP_nat, Nat.mul_comm w]
          rfl
      · have z3 : ¬ T 9 i = 3 := fun z => n3 ((c 3 (by decide)).mpr z)
        refine k148 _ ?_ ?_ ?_
        · rw [lsub hA hB]; omega
        · rw [lsub hA hB]; omega
        · rw [if_neg z3, if_pos ((c 4 (by decide)).mp n4), lsub hA hB, zP_sub _ _ (by omega)]
      · refine k148 _ ?_ ?_ ?_
        · rw [pk_lT (by omega)]; omega
        · rw [pk_lT (by omega)]; omega
        · rw [if_pos ((c 3 (by decide)).mp n3), pk_lT (by omega), zP_nat]
  exact g_X12_lays_0 hK hs ha hl (loop (T 0 4) 0 J (by omega) (fun _ _ => rfl) (fun j hj => absurd hj (by omega)))
end BD
