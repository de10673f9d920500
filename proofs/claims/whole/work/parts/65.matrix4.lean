/-! determinant, rank of the reference -/
theorem lneg {a : Nat} (ha : a < 1000000007) : (-(lN a)).toInt = ((0 : Nat) : Int) - a := by
  rw [Int64.toInt_neg, pk_lT (by omega)]
  rw [show ((0 : Nat) : Int) - (a : Int) = -(a : Int) by omega]
  apply Int.bmod_eq_of_le <;> omega
theorem clA_row (r c v nc : Nat) : ∀ (m i : Nat) (A : SP) (q : Nat), q < i → clA r c v nc m i A q = A q
  | 0, _, _, _, _ => rfl
  | m + 1, i, A, q, h => by
    show clA r c v nc m (i + 1) _ q = A q
    rw [clA_row r c v nc m (i + 1) _ q (by omega), roA_row _ _ _ _ _ _ _ (by omega)]
theorem elN_le (nr nc : Nat) (A : SP) (c : Nat) : ∀ m, (elN nr nc A (c + m)).2.1 ≤ (elN nr nc A c).2.1 + m
  | 0 => Nat.le_refl _
  | m + 1 => by
    have := elN_le nr nc A c m
    show (elN nr nc A (c + m + 1)).2.1 ≤ _
    simp only [elN]
    split
    · omega
    · show _ + 1 ≤ _
      omega
section BL
variable {d : Nat} {I : HI} {J : HJ} {R : HR} {A : SP} {nr nc : Nat} {G T : SP} {D : Nat → Nat} {N : Nat → List Nat} {x1 : Int32}
theorem t_laysSquare {Q : Unit → HI → HJ → Prop} (hw : wfG G D N) (hF : finT G T) (hr : rQ I J R G T) (h80 : I 80 0 = 0) (hnr : nr ≤ T 0 3) (hnc : nc ≤ G 3 2) (h : ∀ J', frA I I J J' → mxL J' (slM T) nr nc → Q () I J') : Wd fv (d + 4) M_X12_laysSquare [.ref 80, .int (nI nr), .int (nI nc)] I J R Q := by
  have hs := hr.1
  have h4 := hw.2.2.2.2.2.1
  have he := hF.1.2.2.2.1
  have h20 := hF.1.2.2.2.2.1
  have hf0 : frA I I J J := ⟨fun _ _ _ => rfl, fun _ _ => rfl, h80, fun _ _ => rfl⟩
  refine ⟨Nat.le_of_ble_eq_true rfl, fun K hK => ?_⟩
  have loop : ∀ (m c : Nat) (J1 : HJ), c + m = nc → frA I I J J1 → mxL J1 (slM T) nr c → K 2 [(0, .ref 80), (1, .int (nI nr)), (2, .int (nI nc)), (3, .int (nI c))] [] I J1 R := by
    intro m
    induction m with
    | zero =>
      intro c J1 hcc hfr hM1
      have hce : c = nc := by omega
      subst hce
      exact g_X12_laysSquare_2 hK hs ⟨fun _ => h J1 hfr hM1, fun z => absurd (nI_le (Nat.le_refl _) (by omega)) z⟩
    | succ m ih =>
      intro c J1 hcc hfr hM1
      refine g_X12_laysSquare_2 hK hs ⟨fun z => absurd z (nI_ge (by omega) (by omega)), fun _ => ?_⟩
      rw [show (1000 : Int32) + nI c = nI (1000 + c) from nI_add 1000 c]
      refine t_mlays hs (sc_112 hs) rfl (by decide) h4 hF (rQ_fr hfr hr).2.2.1 (by omega) (fun J2 f2 g2 => ?_)
      have hfr2 := frA_J (c := 112) (by decide) (by decide) hfr f2
      have hM2 : mxL J2 (slM T) nr c := by simp only [mxL, f2 115 (by decide)]; exact hM1
      have inner : ∀ (n i : Nat) (J3 : HJ), i + n = nr → (∀ a, ¬ a = 115 → J3 a = J2 a) → mxL J3 (slM T) nr c → (∀ r, r < i → J3 115 (4 * r + c) = lN (slM T r c)) → K 23 [(0, .ref 80), (1, .int (nI nr)), (2, .int (nI nc)), (3, .int (nI c)), (4, .int (nI i))] [] I J3 R := by
        intro n
        induction n with
        | zero =>
          intro i J3 hi hf3 hM3 hr3
          have hie : i = nr := by omega
          subst hie
          refine g_X12_laysSquare_23 hK hs ⟨fun _ => ?_, fun z => absurd (nI_le (Nat.le_refl _) (by omega)) z⟩
          rw [nI_1]
          refine ih (c + 1) J3 (by omega) (frA_J (c := 115) (by decide) (by decide) hfr2 hf3) ?_
          intro r c' hr hc'
          by_cases hcc' : c' = c
          · subst hcc'
            exact hr3 r hr
          · exact hM3 r c' hr (by omega)
        | succ n ihn =>
          intro i J3 hi hf3 hM3 hr3
          refine g_X12_laysSquare_23 hK hs ⟨fun z => absurd z (nI_ge (by omega) (by omega)), fun _ => ⟨i, rfl, by omega, ?_⟩⟩
          rw [hr.2.2.1.2.2.2.2.1.2 i (by omega), show (1000 : Int32) + nI c = nI (1000 + c) from nI_add 1000 c]
          refine t_mslo (n := T 0 4) (A := slA T (1000 + c) (T 0 4)) hs (sc_112 hs) rfl he (okS_n h4 (hF.2.2.2.1 i (by omega)).2) (by omega) (fun j hj hx => by rw [hf3 112 (by decide)]; exact g2 j hj hx) (slA_no T _ (T 0 4)) ⟨4 * i + c, mi4 i c, by omega, ?_⟩
          rw [nI_1]
          refine ihn (i + 1) _ (by omega) (fun a ha => (up_ne _ _ _ _ ha).trans (hf3 a ha)) ?_ ?_
          · intro r c' hr hc'
            rw [up_nk (by omega)]
            exact hM3 r c' hr hc'
          · intro r hr
            by_cases hri : r = i
            · subst hri
              rw [up_s]
              rfl
            · rw [up_nk (by omega)]
              exact hr3 r (by omega)
      exact inner nr 0 J2 (by omega) (fun _ _ => rfl) hM2 (fun r hr => absurd hr (by omega))
  exact g_X12_laysSquare_0 hK hs (loop nc 0 J (by omega) hf0 (fun r c _ hcc => absurd hcc (by omega)))
theorem m_rank {Q : Int32 → HI → HJ → Prop} (hw : wfG G D N) (hF : finT G T) (hr : rQ I J R G T) (h : ∀ I' J', frA I I' J J' → Q (rankV G T) I' J') : Wd fi (d + 5) M_X12_rank [.ref 80] I J R Q := by
  have hs := hr.1
  have h4 := hw.2.2.2.2.2.1
  have h20 := hF.1.2.2.2.2.1
  have hf0 : frA I (up I 80 0 0) J J := frA_0
  have hr0 := rQ_fr hf0 hr
  have e54 : (up I 80 0 0) 80 54 = nI (T 0 3) := hr0.2.2.1.1.2.2.1
  have e31 : (up I 80 0 0) 80 31 = nI (G 3 2) := hr0.2.1.2.2.1
  refine ⟨Nat.le_of_ble_eq_true rfl, fun K hK => ?_⟩
  refine g_X12_rank_0 hK hs ?_
  rw [hr.2.2.1.1.2.2.1, hr.2.1.2.2.1]
  refine t_laysSquare hw hF hr0 up_s (Nat.le_refl _) (Nat.le_refl _) (fun J1 f1 m1 => ?_)
  have hfr1 := frA_tr hf0 f1
  have loop : ∀ (m c : Nat) (J2 : HJ), c + m = G 3 2 → frA I (up I 80 0 0) J J2 → mxL J2 (elN (T 0 3) (G 3 2) (slM T) c).1 (T 0 3) (G 3 2) → K 21 [(0, .ref 80), (1, .int (nI (elN (T 0 3) (G 3 2) (slM T) c).2.1)), (2, .int (nI c))] [] (up I 80 0 0) J2 R := by
    intro m
    induction m with
    | zero =>
      intro c J2 hcc hfr hM
      have hce : c = G 3 2 := by omega
      subst hce
      refine g_X12_rank_21 hK hs ?_
      rw [e31]
      exact ⟨fun _ => h _ _ hfr, fun z => absurd (nI_le (Nat.le_refl _) (by omega)) z⟩
    | succ m ih =>
      intro c J2 hcc hfr hM
      have ih2 := ih (c + 1)
      obtain ⟨h1, h2, h3, h4'⟩ := elN_ok (nr := T 0 3) (nc := G 3 2) (slM_ok T) c
      simp only [elN] at ih2
      generalize elN (T 0 3) (G 3 2) (slM T) c = s at h1 h2 h3 h4' hM ih2 ⊢
      have hle := fsW_le s.1 c (T 0 3 - s.2.1) s.2.1
      refine g_X12_rank_21 hK hs ?_
      rw [e31, e54, nI_1, nI_1]
      refine ⟨fun z => absurd z (nI_ge (by omega) (by omega)), fun _ => ?_⟩
      refine t_rowWith hs h20 h4 (by omega) h2 h1 hM ?_
      by_cases hn : fsW s.1 c (T 0 3 - s.2.1) s.2.1 = T 0 3
      · rw [if_pos hn]
        rw [if_pos hn] at ih2
        exact ⟨fun z => absurd rfl z, fun _ => ih2 J2 (by omega) hfr hM⟩
      · rw [if_neg hn]
        rw [if_neg hn] at ih2
        have hkr : s.2.1 < T 0 3 := by omega
        have ce : (nI (fsW s.1 c (T 0 3 - s.2.1) s.2.1) = nI s.2.1) ↔ fsW s.1 c (T 0 3 - s.2.1) s.2.1 = s.2.1 := nI_eq (by omega) (by omega)
        rw [ce]
        refine ⟨fun _ => ⟨fun q => ?_, fun q => ?_⟩, fun z => ?_⟩
        · have ee : elP s.1 s.2.1 (T 0 3) (G 3 2) c = s.1 := by simp only [elP]; rw [if_pos q]
          refine t_takesOff hs h20 h4 hkr (by omega) h1 hM (fun J4 f4 m4 => ?_)
          refine ih2 J4 (by omega) (frA_J (c := 115) (by decide) (by decide) hfr f4) ?_
          rw [ee]
          exact m4
        · have ee : elP s.1 s.2.1 (T 0 3) (G 3 2) c = swA s.1 (fsW s.1 c (T 0 3 - s.2.1) s.2.1) s.2.1 (G 3 2) := by simp only [elP]; rw [if_neg q]
          refine t_swaps hs h20 h4 (by omega) hkr hM (fun J3 f3 m3 => ?_)
          rw [e31, e54]
          refine t_takesOff hs h20 h4 hkr (by omega) (swA_ok h1 _ _ _) m3 (fun J4 f4 m4 => ?_)
          refine ih2 J4 (by omega) (frA_J (c := 115) (by decide) (by decide) (frA_J (c := 115) (by decide) (by decide) hfr f3) f4) ?_
          rw [ee]
          exact m4
        · exfalso
          have h1' : (-1 : Int32) < 0 := by decide
          rw [← z] at h1'
          exact nI_pos (by omega) h1'
  exact loop (G 3 2) 0 J1 (by omega) hfr1 m1
end BL
