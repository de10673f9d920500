/-! determinant, rank: the class's answers; the reference's matrix -/
theorem mi4 (r c : Nat) : 4 * nI r + nI c = nI (4 * r + c) := by
  rw [show 4 * nI r = nI (4 * r) from (Int32.ofNat_mul 4 r).symm, nI_add]
def mxL (J : HJ) (A : SP) (nr nc : Nat) : Prop := ∀ r c, r < nr → c < nc → J 115 (4 * r + c) = lN (A r c)
theorem mxL_up {J : HJ} {A : SP} {nr nc r c v : Nat} (hc : nc ≤ 4) (hcc : c < nc) (h : mxL J A nr nc) : mxL (up J 115 (4 * r + c) (lN v)) (up A r c v) nr nc := by
  intro i j hi hj
  rw [up_ap, up_ap]
  by_cases hh : i = r ∧ j = c
  · rw [if_pos hh, if_pos ⟨rfl, by omega⟩]
  · rw [if_neg hh, if_neg (fun q => hh (by omega))]
    exact h i j hi hj
theorem roA_row (i r f : Nat) : ∀ (m c : Nat) (A : SP) (q : Nat), ¬ q = i → roA i r f m c A q = A q
  | 0, _, _, _, _ => rfl
  | m + 1, c, A, q, h => by
    show roA i r f m (c + 1) _ q = A q
    rw [roA_row i r f m (c + 1) _ q h, up_ne _ _ _ _ h]
section BK
variable {d : Nat} {I : HI} {J : HJ} {R : HR} {A : SP} {nr nc : Nat} {G T : SP} {D : Nat → Nat} {N : Nat → List Nat} {x1 : Int32}
theorem c_determinant {Q : Int32 → HI → Prop} (hw : wfG G D N) (hF : finT G T) (hc : cQ I R G N T) (h : ∀ I', frC I I' → Q (detV G T x1) I') : Wc fi (d + 6) M_X11_determinant [.ref 0, .int x1] I J R Q := by
  obtain ⟨hs, ⟨p, hp1, hp2, hp3⟩, ⟨n1, n2, n3⟩, v1, v2, v3, v4, v5, v6, v7⟩ := id hc
  have h4 := hw.2.2.2.2.2.1
  have h20 := hF.1.2.2.2.2.1
  refine e_X11_determinant hs ?_
  simp only [detV] at h
  rw [show I 27 2 = nI (T 0 3) from v4.1, show (4 : Int32) = nI 4 from rfl, show (1 : Int32) = nI 1 from rfl, x_ltn x1 (by decide), x_nlt x1 (by decide), x_nlt x1 (by omega)]
  refine ⟨fun q => ?_, fun q => ⟨fun q1 => ?_, fun q1 => ⟨fun q2 => ?_, fun q2 => ⟨p, hp1, hp2, ?_⟩⟩⟩⟩
  · rw [if_neg (by omega)] at h
    exact h I frC_rf
  · rw [if_neg (by omega)] at h
    exact h I frC_rf
  · rw [if_neg (by omega)] at h
    exact h I frC_rf
  · rw [hp3.2.2.1, x_len x1 (by omega)]
    refine ⟨fun q3 => ?_, fun q3 => ?_⟩
    · rw [if_pos (by omega)] at h
      have hx : x1 = nI (xN x1) := (x_eqn x1 (by simp only [xN]; omega)).mpr (by simp only [xN]; omega)
      have b3 : xN x1 ≤ T 0 3 := by simp only [xN]; omega
      have b2 : xN x1 ≤ G 3 2 := by simp only [xN]; omega
      rw [hx]
      refine t_fillMatrix hw hF hc b3 b2 (fun I1 f1 m1 => ?_)
      refine t_eliminate hs (by omega) (by omega) (slM_ok T) m1 (fun I2 f2 g1 g2 => ?_)
      have hfr : frC I I2 := ⟨fun a a1 a2 => (f2 a (by omega) (by omega)).trans (f1.1 a a1 a2), fun a a1 => (f2 a (by omega) (by omega)).trans (f1.2 a a1)⟩
      have hk := (elN_ok (nr := xN x1) (nc := xN x1) (slM_ok T) (xN x1)).2.1
      have hq := h I2 hfr
      have ce : (nI (elN (xN x1) (xN x1) (slM T) (xN x1)).2.1 = nI (xN x1)) ↔ (elN (xN x1) (xN x1) (slM T) (xN x1)).2.1 = xN x1 := nI_eq (by omega) (by omega)
      rw [g1, g2, ce]
      refine ⟨fun z => ?_, fun z => ?_⟩
      · rw [if_neg z] at hq
        exact hq
      · rw [if_pos z] at hq
        exact hq
    · rw [if_neg (by omega)] at h
      exact h I frC_rf
theorem c_rank {Q : Int32 → HI → Prop} (hw : wfG G D N) (hF : finT G T) (hc : cQ I R G N T) (h : ∀ I', frC I I' → Q (rankV G T) I') : Wc fi (d + 6) M_X11_rank [.ref 0] I J R Q := by
  obtain ⟨hs, ⟨p, hp1, hp2, hp3⟩, ⟨n1, n2, n3⟩, v1, v2, v3, v4, v5, v6, v7⟩ := id hc
  have h4 := hw.2.2.2.2.2.1
  have h20 := hF.1.2.2.2.2.1
  refine e_X11_rank hs ⟨p, hp1, hp2, ?_⟩
  rw [show I 27 2 = nI (T 0 3) from v4.1, hp3.2.2.1]
  refine t_fillMatrix hw hF hc (Nat.le_refl _) (Nat.le_refl _) (fun I1 f1 m1 => ?_)
  have hp : p < 44 ∧ ¬ p = 40 := by
    rcases hp2 with rfl | rfl <;> decide
  rw [f1.1 27 (by decide) (by decide), f1.1 p hp.1 hp.2, show I 27 2 = nI (T 0 3) from v4.1, hp3.2.2.1]
  refine t_eliminate hs (by omega) (by omega) (slM_ok T) m1 (fun I2 f2 g1 g2 => ?_)
  have hfr : frC I I2 := ⟨fun a a1 a2 => (f2 a (by omega) (by omega)).trans (f1.1 a a1 a2), fun a a1 => (f2 a (by omega) (by omega)).trans (f1.2 a a1)⟩
  rw [g1]
  exact h I2 hfr
theorem t_rowWith {c i : Nat} {Q : Int32 → Prop} (hs : Stat R) (hnr : nr ≤ 20) (hnc : nc ≤ 4) (hc : c < nc) (hi : i ≤ nr) (hA : okA A) (hM : mxL J A nr nc) (h : Q (if fsW A c (nr - i) i = nr then -1 else nI (fsW A c (nr - i) i))) : Wp fi (d + 2) M_X12_rowWith [.ref 80, .int (nI i), .int (nI nr), .int (nI c)] I J R Q := by
  refine ⟨Nat.le_of_ble_eq_true rfl, fun K hK => ?_⟩
  have loop : ∀ (m j : Nat), j + m = nr → fsW A c m j = fsW A c (nr - i) i → K 3 [(0, .ref 80), (2, .int (nI nr)), (3, .int (nI c)), (4, .int (nI j))] [] I J R := by
    intro m
    induction m with
    | zero =>
      intro j hj he
      simp only [fsW] at he
      refine g_X12_rowWith_3 hK hs ⟨fun _ => ?_, fun q => absurd (nI_le (by omega) (by omega)) q⟩
      rw [if_pos (by omega)] at h
      exact h
    | succ m ih =>
      intro j hj he
      simp only [fsW] at he
      refine g_X12_rowWith_3 hK hs ⟨fun q => absurd q (nI_ge (by omega) (by omega)), fun _ => ⟨4 * j + c, mi4 j c, by omega, ?_⟩⟩
      have hlt := hA j c
      have cz : (lN (A j c) = (0 : Int64)) ↔ A j c = 0 := pk_lEQ (b := 0) (by omega) (by decide)
      rw [hM j c (by omega) hc, cz, nI_1]
      refine ⟨fun q => ?_, fun q => ?_⟩
      · rw [if_pos q] at he
        exact ih (j + 1) (by omega) he
      · rw [if_neg q] at he
        rw [← he, if_neg (by omega)] at h
        exact h
  exact g_X12_rowWith_0 hK hs (loop (nr - i) i (by omega) rfl)
theorem t_swaps {r q : Nat} {Q : Unit → HI → HJ → Prop} (hs : Stat R) (hnr : nr ≤ 20) (hnc : nc ≤ 4) (hr : r < nr) (hq : q < nr) (hM : mxL J A nr nc) (h : ∀ J', (∀ a, ¬ a = 115 → J' a = J a) → mxL J' (swA A r q nc) nr nc → Q () I J') : Wd fv (d + 2) M_X12_swaps [.ref 80, .int (nI r), .int (nI q)] I J R Q := by
  refine ⟨Nat.le_of_ble_eq_true rfl, fun K hK => ?_⟩
  have late : ∀ (m c : Nat) (J1 : HJ), c + m = 4 → nc ≤ c → (∀ a, ¬ a = 115 → J1 a = J a) → mxL J1 (swA A r q nc) nr nc → K 2 [(0, .ref 80), (1, .int (nI r)), (2, .int (nI q)), (3, .int (nI c))] [] I J1 R := by
    intro m
    induction m with
    | zero =>
      intro c J1 hc _ hf hM1
      have hce : c = 4 := by omega
      subst hce
      exact g_X12_swaps_2 hK hs ⟨fun _ => h J1 hf hM1, fun z => absurd (by decide) z⟩
    | succ m ih =>
      intro c J1 hc hcn hf hM1
      refine g_X12_swaps_2 hK hs ⟨fun z => absurd z (nI_ge (b := 4) (by omega) (by omega)), fun _ => ⟨4 * r + c, mi4 r c, by omega, 4 * q + c, mi4 q c, by omega, ?_⟩⟩
      rw [nI_1]
      refine ih (c + 1) _ (by omega) (by omega) (fun a ha => (up_ne _ _ _ _ ha).trans ((up_ne _ _ _ _ ha).trans (hf a ha))) ?_
      intro i j hi hj
      rw [up_nk (by omega), up_nk (by omega)]
      exact hM1 i j hi hj
  have loop : ∀ (m c : Nat) (J1 : HJ), c + m = nc → (∀ a, ¬ a = 115 → J1 a = J a) → mxL J1 (swA A r q c) nr nc → K 2 [(0, .ref 80), (1, .int (nI r)), (2, .int (nI q)), (3, .int (nI c))] [] I J1 R := by
    intro m
    induction m with
    | zero =>
      intro c J1 hc hf hM1
      have hce : c = nc := by omega
      subst hce
      exact late (4 - c) c J1 (by omega) (Nat.le_refl _) hf hM1
    | succ m ih =>
      intro c J1 hc hf hM1
      refine g_X12_swaps_2 hK hs ⟨fun z => absurd z (nI_ge (b := 4) (by omega) (by omega)), fun _ => ⟨4 * r + c, mi4 r c, by omega, 4 * q + c, mi4 q c, by omega, ?_⟩⟩
      rw [hM1 r c hr (by omega), hM1 q c hq (by omega), nI_1]
      exact ih (c + 1) _ (by omega) (fun a ha => (up_ne _ _ _ _ ha).trans ((up_ne _ _ _ _ ha).trans (hf a ha))) (mxL_up hnc (by omega) (mxL_up hnc (by omega) hM1))
  exact g_X12_swaps_0 hK hs (loop nc 0 J (by omega) (fun _ _ => rfl) hM)
theorem t_takesOff {r c : Nat} {Q : Unit → HI → HJ → Prop} (hs : Stat R) (hnr : nr ≤ 20) (hnc : nc ≤ 4) (hr : r < nr) (hc : c < nc) (hA : okA A) (hM : mxL J A nr nc) (h : ∀ J', (∀ a, ¬ a = 115 → J' a = J a) → mxL J' (clA r c (ivP (A r c)) nc (nr - (r + 1)) (r + 1) A) nr nc → Q () I J') : Wd fv (d + 3) M_X12_takesOff [.ref 80, .int (nI r), .int (nI nr), .int (nI c), .int (nI nc)] I J R Q := by
  refine ⟨Nat.le_of_ble_eq_true rfl, fun K hK => ?_⟩
  have loop : ∀ (m i : Nat) (J1 : HJ) (B : SP), i + m = nr → r < i → okA B → B r = A r → (∀ a, ¬ a = 115 → J1 a = J a) → mxL J1 B nr nc → clA r c (ivP (A r c)) nc m i B = clA r c (ivP (A r c)) nc (nr - (r + 1)) (r + 1) A → K 5 [(0, .ref 80), (1, .int (nI r)), (2, .int (nI nr)), (3, .int (nI c)), (4, .int (nI nc)), (5, .int (nI i))] [] I J1 R := by
    intro m
    induction m with
    | zero =>
      intro i J1 B hi hri hB hBr hf hM1 he
      have hie : i = nr := by omega
      subst hie
      refine g_X12_takesOff_5 hK hs ⟨fun _ => h J1 hf ?_, fun z => absurd (nI_le (Nat.le_refl _) (by omega)) z⟩
      rw [← he]
      exact hM1
    | succ m ih =>
      intro i J1 B hi hri hB hBr hf hM1 he
      simp only [clA] at he
      refine g_X12_takesOff_5 hK hs ⟨fun z => absurd z (nI_ge (by omega) (by omega)), fun _ => ⟨4 * i + c, mi4 i c, by omega, 4 * r + c, mi4 r c, by omega, ?_⟩⟩
      rw [hM1 i c (by omega) hc, hM1 r c hr hc]
      refine t_parted hs (hB _ _) (hB _ _) ?_
      rw [hBr]
      have inner : ∀ (n j : Nat) (J2 : HJ) (C : SP), j + n = nc → okA C → C r = A r → (∀ a, ¬ a = 115 → J2 a = J a) → mxL J2 C nr nc → roA i r (mP (B i c * ivP (A r c))) n j C = roA i r (mP (B i c * ivP (A r c))) (nc - c) c B → K 40 [(0, .ref 80), (1, .int (nI r)), (2, .int (nI nr)), (3, .int (nI c)), (4, .int (nI nc)), (5, .int (nI i)), (6, .long (lN (mP (B i c * ivP (A r c))))), (8, .int (nI j))] [] I J2 R := by
        intro n
        induction n with
        | zero =>
          intro j J2 C hj hC hCr hf2 hM2 he2
          have hje : j = nc := by omega
          subst hje
          simp only [roA] at he2
          refine g_X12_takesOff_40 hK hs ⟨fun _ => ?_, fun z => absurd (nI_le (Nat.le_refl _) (by omega)) z⟩
          rw [nI_1]
          refine ih (i + 1) J2 C (by omega) (by omega) hC hCr hf2 hM2 ?_
          rw [he2]
          exact he
        | succ n ihn =>
          intro j J2 C hj hC hCr hf2 hM2 he2
          simp only [roA] at he2
          refine g_X12_takesOff_40 hK hs ⟨fun z => absurd z (nI_ge (by omega) (by omega)), fun _ => ⟨4 * i + j, mi4 i j, by omega, 4 * r + j, mi4 r j, by omega, ?_⟩⟩
          have l1 := mP_lt (B i c * ivP (A r c))
          have l2 := hC r j
          have l3 := hC i j
          have mb : mP (B i c * ivP (A r c)) * C r j < 1000000007 * 1000000007 := Nat.mul_lt_mul_of_lt_of_le l1 (by omega) (by decide)
          have l4 := mP_lt (mP (B i c * ivP (A r c)) * C r j)
          rw [hM2 i j (by omega) (by omega), hM2 r j hr (by omega), lN_mul, cPL, pk_lRem (by omega) (by decide) (by decide), nI_1]
          show Wp fl (d + 2) M_X12_left [.long (lN (C i j) - lN (mP (mP (B i c * ivP (A r c)) * C r j)))] I J2 R _
          refine t_left hs (by rw [lsub l3 l4]; omega) (by rw [lsub l3 l4]; omega) ?_
          rw [lsub l3 l4, zP_sub _ _ (by omega)]
          exact ihn (j + 1) _ _ (by omega) (okA_up hC (sP_lt _ _)) ((up_ne _ _ _ _ (by omega)).trans hCr) (fun a ha => (up_ne _ _ _ _ ha).trans (hf2 a ha)) (mxL_up hnc (by omega) hM2) he2
      exact inner (nc - c) c J1 B (by omega) hB hBr hf hM1 rfl
  refine g_X12_takesOff_0 hK hs ?_
  rw [nI_1]
  exact loop (nr - (r + 1)) (r + 1) J A (by omega) (by omega) hA rfl (fun _ _ => rfl) hM rfl
end BK
