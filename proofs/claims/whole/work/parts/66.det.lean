/-! determinant of the reference -/
section BM
variable {d : Nat} {I : HI} {J : HJ} {R : HR} {A : SP} {nr nc : Nat} {G T : SP} {D : Nat → Nat} {N : Nat → List Nat} {x1 : Int32}
theorem m_determinant {Q : Int32 → HI → HJ → Prop} (hw : wfG G D N) (hF : finT G T) (hr : rQ I J R G T) (h : ∀ I' J', frA I I' J J' → Q (detV G T x1) I' J') : Wd fi (d + 5) M_X12_determinant [.ref 80, .int x1] I J R Q := by
  have hs := hr.1
  have h4 := hw.2.2.2.2.2.1
  have h20 := hF.1.2.2.2.2.1
  have hf0 : frA I (up I 80 0 0) J J := frA_0
  have hr0 := rQ_fr hf0 hr
  refine ⟨Nat.le_of_ble_eq_true rfl, fun K hK => ?_⟩
  refine g_X12_determinant_0 hK hs ?_
  simp only [detV] at h
  rw [hr.2.2.1.1.2.2.1, hr.2.1.2.2.1, show (4 : Int32) = nI 4 from rfl, show (1 : Int32) = nI 1 from rfl, x_ltn x1 (by decide), x_nlt x1 (by decide), x_nlt x1 (by omega), x_len x1 (by omega)]
  refine ⟨fun q => ?_, fun q => ⟨fun q1 => ?_, fun q1 => ⟨fun q2 => ?_, fun q2 => ⟨fun q3 => ?_, fun q3 => ?_⟩⟩⟩⟩
  · rw [if_neg (by omega)] at h
    exact h _ _ hf0
  · rw [if_neg (by omega)] at h
    exact h _ _ hf0
  · rw [if_neg (by omega)] at h
    exact h _ _ hf0
  · rw [if_pos (by omega)] at h
    have hx : x1 = nI (xN x1) := (x_eqn x1 (by simp only [xN]; omega)).mpr (by simp only [xN]; omega)
    have b3 : xN x1 ≤ T 0 3 := by simp only [xN]; omega
    have b2 : xN x1 ≤ G 3 2 := by simp only [xN]; omega
    generalize xN x1 = n at hx b3 b2 h
    subst hx
    refine t_laysSquare hw hF hr0 up_s b3 b2 (fun J1 f1 m1 => ?_)
    have hfr1 := frA_tr hf0 f1
    have loop : ∀ (m c : Nat) (J2 : HJ), c + m = n → frA I (up I 80 0 0) J J2 → (elN n n (slM T) c).2.1 = c → mxL J2 (elN n n (slM T) c).1 n n → K 44 [(0, .ref 80), (1, .int (nI n)), (2, .long (lN (elN n n (slM T) c).2.2)), (4, .int (nI c))] [] (up I 80 0 0) J2 R := by
      intro m
      induction m with
      | zero =>
        intro c J2 hcc hfr hk hM
        have hce : c = n := by omega
        subst hce
        refine g_X12_determinant_44 hK hs ⟨fun _ => ?_, fun z => absurd (nI_le (Nat.le_refl _) (by omega)) z⟩
        rw [lN_i]
        rw [if_pos hk] at h
        exact h _ _ hfr
      | succ m ih =>
        intro c J2 hcc hfr hk hM
        have ih2 := ih (c + 1)
        have hlast := elN_le n n (slM T) (c + 1) (n - (c + 1))
        rw [show c + 1 + (n - (c + 1)) = n by omega] at hlast
        obtain ⟨h1, h2, h3, h4'⟩ := elN_ok (nr := n) (nc := n) (slM_ok T) c
        have hdef : elN n n (slM T) (c + 1) = _ := rfl
        simp only [elN] at ih2
        rw [show (elN n n (slM T) (c + 1)).2.1 = (if fsW (elN n n (slM T) c).1 c (n - (elN n n (slM T) c).2.1) (elN n n (slM T) c).2.1 = n then elN n n (slM T) c else (clA (elN n n (slM T) c).2.1 c (ivP (elP (elN n n (slM T) c).1 (elN n n (slM T) c).2.1 n n c (elN n n (slM T) c).2.1 c)) n (n - ((elN n n (slM T) c).2.1 + 1)) ((elN n n (slM T) c).2.1 + 1) (elP (elN n n (slM T) c).1 (elN n n (slM T) c).2.1 n n c), (elN n n (slM T) c).2.1 + 1, mP ((if fsW (elN n n (slM T) c).1 c (n - (elN n n (slM T) c).2.1) (elN n n (slM T) c).2.1 = (elN n n (slM T) c).2.1 then (elN n n (slM T) c).2.2 else sP 0 (elN n n (slM T) c).2.2) * elP (elN n n (slM T) c).1 (elN n n (slM T) c).2.1 n n c (elN n n (slM T) c).2.1 c))).2.1 from rfl] at hlast
        clear hdef
        generalize elN n n (slM T) c = s at h1 h2 h3 h4' hM ih2 hk hlast ⊢
        rw [hk] at ih2 hlast
        have hle := fsW_le s.1 c (n - c) c
        refine g_X12_determinant_44 hK hs ⟨fun z => absurd z (nI_ge (by omega) (by omega)), fun _ => ?_⟩
        refine t_rowWith (nr := n) (nc := n) hs (by omega) (by omega) (by omega) (by omega) h1 hM ?_
        by_cases hn : fsW s.1 c (n - c) c = n
        · rw [if_pos hn]
          rw [if_pos hn, hk] at hlast
          refine ⟨fun z => absurd rfl z, fun _ => ?_⟩
          rw [if_neg (by omega)] at h
          exact h _ _ hfr
        · rw [if_neg hn]
          rw [if_neg hn] at ih2
          have ce : (nI (fsW s.1 c (n - c) c) = nI c) ↔ fsW s.1 c (n - c) c = c := nI_eq (by omega) (by omega)
          rw [ce]
          have fin : ∀ (J4 : HJ) (B : SP) (dt : Nat), dt < 1000000007 → okA B → B = elP s.1 c n n c → dt = (if fsW s.1 c (n - c) c = c then s.2.2 else sP 0 s.2.2) → frA I (up I 80 0 0) J J4 → mxL J4 (clA c c (ivP (B c c)) n (n - (c + 1)) (c + 1) B) n n → ∃ n8 : Nat, (4 * nI c + nI c) = nI n8 ∧ n8 < 80 ∧ K 44 [(0, .ref 80), (1, .int (nI n)), (2, .long ((lN dt * (J4 115 n8)) - (lN dt * (J4 115 n8)) / (1000000007 : Int64) * (1000000007 : Int64))), (4, .int (nI c + 1))] [] (up I 80 0 0) J4 R := by
            intro J4 B dt hdt hB eB ed hf4 m4
            refine ⟨4 * c + c, mi4 c c, by omega, ?_⟩
            have hv := m4 c c (by omega) (by omega)
            rw [clA_row _ _ _ _ _ _ _ _ (by omega)] at hv
            have lb := hB c c
            have mb : dt * B c c < 1000000007 * 1000000007 := Nat.mul_lt_mul_of_lt_of_le hdt (by omega) (by decide)
            rw [hv, lN_mul, cPL, pk_lRem (by omega) (by decide) (by decide), nI_1]
            have := ih2 J4 (by omega) hf4 rfl (by rw [← eB]; exact m4)
            rw [← eB, ← ed] at this
            exact this
          refine ⟨fun _ => ⟨fun q => ?_, fun q => ?_⟩, fun z => ?_⟩
          · have ee : elP s.1 c n n c = s.1 := by simp only [elP]; rw [if_pos q]
            refine t_takesOff (nr := n) (nc := n) hs (by omega) (by omega) (by omega) (by omega) h1 hM (fun J4 f4 m4 => ?_)
            exact fin J4 s.1 s.2.2 h4' h1 ee.symm (by rw [if_pos q]) (frA_J (c := 115) (by decide) (by decide) hfr f4) m4
          · have ee : elP s.1 c n n c = swA s.1 (fsW s.1 c (n - c) c) c n := by simp only [elP]; rw [if_neg q]
            refine t_swaps (nr := n) (nc := n) hs (by omega) (by omega) (by omega) (by omega) hM (fun J3 f3 m3 => ?_)
            refine t_left hs (by rw [lneg h4']; omega) (by rw [lneg h4']; omega) ?_
            rw [lneg h4', zP_sub _ _ (by omega)]
            refine t_takesOff (nr := n) (nc := n) hs (by omega) (by omega) (by omega) (by omega) (swA_ok h1 _ _ _) m3 (fun J4 f4 m4 => ?_)
            exact fin J4 _ (sP 0 s.2.2) (sP_lt _ _) (swA_ok h1 _ _ _) ee.symm (by rw [if_neg q]) (frA_J (c := 115) (by decide) (by decide) (frA_J (c := 115) (by decide) (by decide) hfr f3) f4) m4
          · exfalso
            have h1' : (-1 : Int32) < 0 := by decide
            rw [← z] at h1'
            exact nI_pos (by omega) h1'
    exact loop n 0 J1 (by omega) hfr1 rfl m1
  · rw [if_neg (by omega)] at h
    exact h _ _ hf0
end BM
