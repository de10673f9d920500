/-! determinant, rank: the class -/
def elP (A : SP) (k nr nc c : Nat) : SP := if fsW A c (nr - k) k = k then A else swA A (fsW A c (nr - k) k) k nc
def elN (nr nc : Nat) (A : SP) : Nat → SP × Nat × Nat
  | 0 => (A, 0, 1)
  | c + 1 => if fsW (elN nr nc A c).1 c (nr - (elN nr nc A c).2.1) (elN nr nc A c).2.1 = nr then elN nr nc A c
    else (clA (elN nr nc A c).2.1 c (ivP (elP (elN nr nc A c).1 (elN nr nc A c).2.1 nr nc c (elN nr nc A c).2.1 c)) nc (nr - ((elN nr nc A c).2.1 + 1)) ((elN nr nc A c).2.1 + 1) (elP (elN nr nc A c).1 (elN nr nc A c).2.1 nr nc c), (elN nr nc A c).2.1 + 1, mP ((if fsW (elN nr nc A c).1 c (nr - (elN nr nc A c).2.1) (elN nr nc A c).2.1 = (elN nr nc A c).2.1 then (elN nr nc A c).2.2 else sP 0 (elN nr nc A c).2.2) * elP (elN nr nc A c).1 (elN nr nc A c).2.1 nr nc c (elN nr nc A c).2.1 c))
theorem elP_ok {A : SP} {k nr nc c : Nat} (h : okA A) : okA (elP A k nr nc c) := by
  simp only [elP]
  split
  · exact h
  · exact swA_ok h _ _ _
theorem elN_ok {A : SP} {nr nc : Nat} (h : okA A) : ∀ c, okA (elN nr nc A c).1 ∧ (elN nr nc A c).2.1 ≤ nr ∧ (elN nr nc A c).2.1 ≤ c ∧ (elN nr nc A c).2.2 < 1000000007
  | 0 => ⟨h, Nat.zero_le _, Nat.le_refl _, by show (1 : Nat) < _; decide⟩
  | c + 1 => by
    obtain ⟨h1, h2, h3, h4⟩ := elN_ok (nr := nr) (nc := nc) h c
    simp only [elN]
    split
    · exact ⟨h1, h2, by omega, h4⟩
    · rename_i hne
      have := fsW_le (elN nr nc A c).1 c (nr - (elN nr nc A c).2.1) (elN nr nc A c).2.1
      exact ⟨clA_ok _ _ _ _ _ _ _ (elP_ok h1), by show _ + 1 ≤ nr; omega, by show _ + 1 ≤ c + 1; omega, mP_lt _⟩
theorem mxR_cg {I I' : HI} {A : SP} {nr nc : Nat} (hf : I' 77 = I 77) (h : mxR I A nr nc) : mxR I' A nr nc := by
  simp only [mxR, hf]
  exact h
def slM (T : SP) : SP := fun r c => sloV T r (1000 + c)
theorem slM_ok (T : SP) : okA (slM T) := fun _ _ => slo_lt (slA_lt _ _ _)
def detV (G T : SP) (x : Int32) : Int32 := if 1 ≤ x.toInt ∧ x.toInt ≤ 4 ∧ x.toInt ≤ T 0 3 ∧ x.toInt ≤ G 3 2 then (if (elN (xN x) (xN x) (slM T) (xN x)).2.1 = xN x then nI (elN (xN x) (xN x) (slM T) (xN x)).2.2 else 0) else -1
def rankV (G T : SP) : Int32 := nI (elN (T 0 3) (G 3 2) (slM T) (G 3 2)).2.1
section BJ
variable {d : Nat} {I : HI} {J : HJ} {R : HR} {A : SP} {nr nc : Nat} {G T : SP} {D : Nat → Nat} {N : Nat → List Nat} {x1 : Int32}
theorem t_eliminate {Q : Unit → HI → Prop} (hs : Stat R) (hnr : nr ≤ 20) (hnc : nc ≤ 4) (hA : okA A) (hM : mxR I A nr nc) (h : ∀ I', (∀ a, ¬ a = 76 → ¬ a = 77 → I' a = I a) → I' 76 1 = nI (elN nr nc A nc).2.1 → I' 76 2 = nI (elN nr nc A nc).2.2 → Q () I') : Wc fv (d + 3) M_X2_eliminate [.ref 76, .int (nI nr), .int (nI nc)] I J R Q := by
  refine ⟨Nat.le_of_ble_eq_true rfl, fun K hK => ?_⟩
  have loop : ∀ (m c : Nat) (I1 : HI), c + m = nc → (∀ a, ¬ a = 76 → ¬ a = 77 → I1 a = I a) → mxR I1 (elN nr nc A c).1 nr nc → I1 76 1 = nI (elN nr nc A c).2.1 → I1 76 2 = nI (elN nr nc A c).2.2 → K 12 [(0, .ref 76), (1, .int (nI nr)), (2, .int (nI nc)), (3, .int (nI c))] [] I1 J R := by
    intro m
    induction m with
    | zero =>
      intro c I1 hc hf hM1 g1 g2
      have hce : c = nc := by omega
      subst hce
      exact g_X2_eliminate_12 hK hs ⟨fun _ => h I1 hf g1 g2, fun z => absurd (nI_le (Nat.le_refl _) (by omega)) z⟩
    | succ m ih =>
      intro c I1 hc hf hM1 g1 g2
      have ih2 := ih (c + 1)
      obtain ⟨h1, h2, h3, h4⟩ := elN_ok (nr := nr) (nc := nc) hA c
      simp only [elN] at ih2
      generalize elN nr nc A c = s at h1 h2 h3 h4 hM1 g1 g2 ih2
      have hle := fsW_le s.1 c (nr - s.2.1) s.2.1
      refine g_X2_eliminate_12 hK hs ⟨fun z => absurd z (nI_ge (by omega) (by omega)), fun _ => ?_⟩
      rw [g1, nI_1]
      refine t_firstWith hs hnr hnc (by omega) h2 h1 hM1 ?_
      by_cases hn : fsW s.1 c (nr - s.2.1) s.2.1 = nr
      · rw [if_pos hn]
        rw [if_pos hn] at ih2
        exact ⟨fun z => absurd rfl z, fun _ => ih2 I1 (by omega) hf hM1 g1 g2⟩
      · rw [if_neg hn]
        rw [if_neg hn] at ih2
        have hkr : s.2.1 < nr := by omega
        refine ⟨fun _ => ?_, fun z => ?_⟩
        · have k70 : ∀ (I2 : HI) (dt : Nat), dt < 1000000007 → (∀ a, ¬ a = 76 → ¬ a = 77 → I2 a = I a) → mxR I2 (elP s.1 s.2.1 nr nc c) nr nc → I2 76 1 = nI s.2.1 → I2 76 2 = nI dt → dt = (if fsW s.1 c (nr - s.2.1) s.2.1 = s.2.1 then s.2.2 else sP 0 s.2.2) → K 70 [(0, .ref 76), (1, .int (nI nr)), (2, .int (nI nc)), (3, .int (nI c))] [] I2 J R := by
            intro I2 dt hdt hf2 hM2 e1 e2 e3
            refine g_X2_eliminate_70 hK hs ?_
            rw [e1, e2, nI_1]
            refine t_mget hs hnr hnc hkr (by omega) hM2 ?_
            refine t_times hs hdt (elP_ok h1 _ _) ?_
            refine t_clearBelow hs hnr hnc hkr (by omega) (elP_ok h1) (mxR_cg (up_ne _ _ _ _ (by decide)) hM2) (fun I4 f4 m4 => ?_)
            have e4 : I4 76 1 = nI s.2.1 := by rw [f4 76 (by decide), up_nk (by decide)]; exact e1
            have e5 : I4 76 2 = nI (mP (dt * elP s.1 s.2.1 nr nc c s.2.1 c)) := by rw [f4 76 (by decide), up_s]
            rw [e4, nI_1]
            refine ih2 _ (by omega) (fun a a1 a2 => ?_) (mxR_cg (up_ne _ _ _ _ (by decide)) m4) up_s ?_
            · rw [up_ne _ _ _ _ a1, f4 a a2, up_ne _ _ _ _ a1]
              exact hf2 a a1 a2
            · rw [up_nk (by decide), e5, e3]
          have ce : (nI (fsW s.1 c (nr - s.2.1) s.2.1) = nI s.2.1) ↔ fsW s.1 c (nr - s.2.1) s.2.1 = s.2.1 := nI_eq (by omega) (by omega)
          rw [ce]
          refine ⟨fun q => ?_, fun q => ?_⟩
          · refine k70 I1 s.2.2 h4 hf ?_ g1 g2 (by rw [if_pos q])
            simp only [elP]
            rw [if_pos q]
            exact hM1
          · refine t_swapRows hs hnr hnc (by omega) hkr h1 hM1 (fun I6 f6 m6 => ?_)
            rw [f6 76 (by decide), g2]
            refine t_minus (a := 0) hs (by decide) h4 ?_
            refine k70 _ (sP 0 s.2.2) (sP_lt _ _) (fun a a1 a2 => ?_) ?_ ?_ up_s (by rw [if_neg q])
            · rw [up_ne _ _ _ _ a1, f6 a a2]
              exact hf a a1 a2
            · refine mxR_cg (up_ne _ _ _ _ (by decide)) ?_
              simp only [elP]
              rw [if_neg q]
              exact m6
            · rw [up_nk (by decide), f6 76 (by decide)]
              exact g1
        · exfalso
          have h1' : (-1 : Int32) < 0 := by decide
          rw [← z] at h1'
          exact nI_pos (by omega) h1'
  refine g_X2_eliminate_0 hK hs ?_
  refine loop nc 0 _ (by omega) (fun a a1 a2 => ?_) (mxR_cg ?_ hM) ?_ up_s
  · rw [up_ne _ _ _ _ a1, up_ne _ _ _ _ a1]
  · rw [up_ne _ _ _ _ (by decide), up_ne _ _ _ _ (by decide)]
  · rw [up_nk (by decide), up_s]
    rfl
theorem t_fillMatrix {Q : Unit → HI → Prop} (hw : wfG G D N) (hF : finT G T) (hc : cQ I R G N T) (hnr : nr ≤ T 0 3) (hnc : nc ≤ G 3 2) (h : ∀ I', frC I I' → mxR I' (slM T) nr nc → Q () I') : Wc fv (d + 5) M_X11_fillMatrix [.ref 0, .int (nI nr), .int (nI nc)] I J R Q := by
  obtain ⟨hs, ⟨p, hp1, hp2, hp3⟩, ⟨n1, n2, n3⟩, v1, v2, v3, v4, v5, v6, v7⟩ := id hc
  have h4 := hw.2.2.2.2.2.1
  have he := hF.1.2.2.2.1
  have h20 := hF.1.2.2.2.2.1
  refine ⟨Nat.le_of_ble_eq_true rfl, fun K hK => ?_⟩
  have loop : ∀ (m c : Nat) (I1 : HI), c + m = nc → frC I I1 → mxR I1 (slM T) nr c → K 2 [(0, .ref 0), (1, .int (nI nr)), (2, .int (nI nc)), (3, .int (nI c))] [] I1 J R := by
    intro m
    induction m with
    | zero =>
      intro c I1 hcc hfr hM1
      have hce : c = nc := by omega
      subst hce
      exact g_X11_fillMatrix_2 hK hs ⟨fun _ => h I1 hfr hM1, fun z => absurd (nI_le (Nat.le_refl _) (by omega)) z⟩
    | succ m ih =>
      intro c I1 hcc hfr hM1
      refine g_X11_fillMatrix_2 hK hs ⟨fun z => absurd z (nI_ge (by omega) (by omega)), fun _ => ?_⟩
      rw [show (1000 : Int32) + nI c = nI (1000 + c) from nI_add 1000 c]
      have v51 : tpR I1 30 T (T 0 4) := (cQ_fr hfr hc).2.2.2.2.2.2.2.1
      refine e_X7_fillFirst hs (Or.inl rfl) ?_
      refine t_sfill hs (Or.inl rfl) (sc_73 hs) rfl (by decide) h4 hF v51 (by omega) (fun I2 f2 g2 => ?_)
      have hfr2 := frC_c (c := 73) (Or.inr (by decide)) (by decide) hfr f2
      have hM2 : mxR I2 (slM T) nr c := mxR_cg (f2 77 (by decide)) hM1
      have inner : ∀ (n i : Nat) (I3 : HI), i + n = nr → (∀ a, ¬ a = 77 → I3 a = I2 a) → mxR I3 (slM T) nr c → (∀ r, r < i → I3 77 (4 * r + c) = nI (slM T r c)) → K 29 [(0, .ref 0), (1, .int (nI nr)), (2, .int (nI nc)), (3, .int (nI c)), (4, .int (nI i))] [] I3 J R := by
        intro n
        induction n with
        | zero =>
          intro i I3 hi hf3 hM3 hr3
          have hie : i = nr := by omega
          subst hie
          refine g_X11_fillMatrix_29 hK hs ⟨fun _ => ?_, fun z => absurd (nI_le (Nat.le_refl _) (by omega)) z⟩
          rw [nI_1]
          refine ih (c + 1) I3 (by omega) (frC_c (c := 77) (Or.inr (by decide)) (by decide) hfr2 hf3) ?_
          intro r c' hr hc'
          by_cases hcc' : c' = c
          · subst hcc'
            exact hr3 r hr
          · exact hM3 r c' hr (by omega)
        | succ n ihn =>
          intro i I3 hi hf3 hM3 hr3
          have hfr3 := frC_c (c := 77) (Or.inr (by decide)) (by decide) hfr2 hf3
          have v43 : slR I3 27 (T 7) (T 8) (T 0 3) := (cQ_fr hfr3 hc).2.2.2.2.2.2.1
          refine g_X11_fillMatrix_29 hK hs ⟨fun z => absurd z (nI_ge (by omega) (by omega)), fun _ => ?_⟩
          refine t_sourceAt (n := T 0 3) hs (Or.inr (Or.inr (Or.inr (Or.inl rfl)))) v43.1 (by omega) (by omega) ?_
          rw [v43.2.2 i (by omega), show (1000 : Int32) + nI c = nI (1000 + c) from nI_add 1000 c]
          refine e_X7_firstOf hs ?_
          refine t_sof (n := T 0 4) (A := slA T (1000 + c) (T 0 4)) hs (sc_73 hs) rfl he (okS_n h4 (hF.2.2.2.1 i (by omega)).2) (by omega) (by simp only [rN, hf3 73 (by decide)]; exact g2) (slA_no T _ (T 0 4)) ?_
          refine t_mput (nr := 20) (nc := 4) hs (by decide) (by decide) (by omega) (by omega) ?_
          rw [nI_1]
          refine ihn (i + 1) _ (by omega) (fun a ha => (up_ne _ _ _ _ ha).trans (hf3 a ha)) ?_ ?_
          · intro r c' hr hc'
            rw [up_nk (by omega)]
            exact hM3 r c' hr hc'
          · intro r hr
            by_cases hri : r = i
            · subst hri
              rw [up_s]
              rfl
            · rw [up_nk (by omega)]
              exact hr3 r (by omega)
      exact inner nr 0 I2 (by omega) (fun _ _ => rfl) hM2 (fun r hr => absurd hr (by omega))
  exact g_X11_fillMatrix_0 hK hs (loop nc 0 I (by omega) frC_rf (fun r c _ hcc => absurd hcc (by omega)))
end BJ
