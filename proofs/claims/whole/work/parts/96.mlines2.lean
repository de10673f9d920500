/-! the reference's parser: LINES, the TEXT -/
section MD
variable {d : Nat} {I : HI} {J : HJ} {R : HR} {B : Nat → Nat} {n : Nat} {P : SP}
theorem t_mtgt {Q : Int32 → HI → Prop} (hs : Stat R) (hn : n ≤ 900) (hB : ∀ j, B j < 256) (h1 : okB n P) (hS : bS I n B P) (hq : ∀ v P1, isNm P = true → rwO P = none → (∀ r, tgS P r = r v P1) → v < 100 → ∀ I', bS I' n B (adv B n P1) → frN I I' → Q (nI v) I') (he : ∀ k, (∀ r, (if isNm P = true then (if rwO P = none then tgS P r else flt 1 P) else flt 1 P) = flt k P) → ∀ I' x, fE I' (k, P 0 2) → frN I I' → Q x I') : Wc fi (d + 5) M_X12_target [.ref 80] I J R Q := by
  refine ⟨Nat.le_of_ble_eq_true rfl, fun K hK => ?_⟩
  have hc := h1.2.2.1
  have dead63 : ∀ e I1 x, fE I1 e → (∀ x, Q x I1) → K 63 [(0, .ref 80), (1, .int x)] [] I1 J R := fun e I1 x hf hq => g_X12_target_63 hK hs ⟨fun _ => f_goOn hs hf.2.1 (hq x), fun z => absurd z hf.2.1⟩
  have dead : ∀ e I1, fE I1 e → (∀ x, Q x I1) → K 24 [(0, .ref 80)] [] I1 J R := fun e I1 hf hq => g_X12_target_24 hK hs ⟨fun _ => dead63 e I1 _ hf hq, fun z => absurd z hf.2.1⟩
  refine g_X12_target_0 hK hs ?_
  refine t_misN hs h1 hS ⟨fun z => ?_, fun z => ?_⟩
  · refine t_mwrong (k := 1) hs (by omega) hS (fun I1 hf f1 => dead _ I1 hf (fun x => he 1 (fun r => ?_) I1 x hf f1))
    rw [z, if_neg (by decide)]
  · have k1 := isNm_t z
    refine t_mrow hs h1 hS k1 ?_
    cases hr : rwO P with
    | some r =>
      have := (rwO_s hr).1
      refine ⟨fun w => absurd w (nI_m1 (k := r) (by omega)), fun _ => t_mwrong (k := 1) hs (by omega) hS (fun I1 hf f1 => dead _ I1 hf (fun x => he 1 (fun r => ?_) I1 x hf f1))⟩
      rw [z, if_pos rfl, hr, if_neg (by simp)]
    | none =>
      refine ⟨fun _ => ?_, fun w => absurd rfl w⟩
      refine g_X12_target_24 hK hs ⟨fun w => absurd hS.2.1.2.1 w, fun _ => ?_⟩
      refine t_mvar hs h1 hS k1 ?_
      cases hv : vrO P with
      | some v =>
        have := (vrO_s hv).1
        have nv : ¬ nI v = -1 := nI_m1 (by omega)
        refine ⟨fun _ => ?_, fun w => absurd w nv⟩
        refine g_X12_target_63 hK hs ⟨fun w => absurd hS.2.1.2.1 w, fun _ => ⟨fun _ => ?_, fun w => absurd w nv⟩⟩
        refine t_goOn hs hn hB h1.1.2.1 hS (fun I1 hS1 f1 => hq v P z hr (fun r => ?_) (by omega) I1 hS1 (frN_T f1))
        simp only [tgS]
        rw [hv]
      | none =>
        refine ⟨fun w => absurd rfl w, fun _ => ?_⟩
        have c14 : (I 80 14 = (8 : Int32)) ↔ P 0 7 = 8 := by rw [hS.2.2.1.2.2.2.1]; exact nI_eq (b := 8) (by omega) (by decide)
        rw [c14]
        refine ⟨fun y => ?_, fun y => ?_⟩
        · refine g_X12_target_63 hK hs ⟨fun w => absurd hS.2.1.2.1 w, fun _ => ⟨fun w => absurd rfl w, fun _ => ?_⟩⟩
          rw [hS.2.2.1.2.2.2.1, bS_w hS (Or.inl k1), nI_1]
          refine ⟨P 0 7, rfl, by omega, ?_⟩
          have hS1 := bS_nv (w := P 0 1) hS
          have e3 : nvw (P 0 1) P 0 3 = P 0 3 := by rw [nvw, up_nk (by decide), up_na (by decide)]
          refine t_goOn hs hn hB (by rw [e3]; exact h1.1.2.1) hS1 (fun I2 hS2 f2 => hq (P 0 7) (nvr P) z hr (fun r => ?_) (by omega) I2 ?_ (frN_tr (frN_f (by omega) (frN_c (by omega) (by omega) (by omega) frN_rf)) (frN_T f2)))
          · simp only [tgS]
            rw [hv]
            simp only
            rw [if_neg y]
          · exact hS2
        · refine t_mwrong (k := 2) hs (by omega) hS (fun I1 hf f1 => dead63 _ I1 _ hf (fun x => he 2 (fun r => ?_) I1 x hf f1))
          rw [z, if_pos rfl, hr, if_pos rfl]
          simp only [tgS]
          rw [hv]
          simp only
          rw [if_pos y]
theorem t_meq {op a : Nat} {Q : Unit → HI → Prop} (hs : Stat R) (hn : n ≤ 900) (hB : ∀ j, B j < 256) (h1 : okB n P) (h2 : cdP P) (h3 : dN P ≤ 1) (hS : bS I n B P) (h : rM Q I n B (eqS B n op a P)) : Wc fv (d + 42) M_X12_needs [.ref 80, .int 61] I J R (fun _ I1 => Wc fv (d + 42) M_X12_whole [.ref 80] I1 J R (fun _ I2 => Wc fv (d + 42) M_X12_writes [.ref 80, .int (nI op), .int (nI a), .int 0] I2 J R (fun _ I3 => Q () I3))) := by
  simp only [eqS, clo] at h
  refine t_mneeds (c := 61) (d := d + 37) hs hn hB (by decide) h1 hS (fun z I1 hS1 f1 => ?_) (fun z I1 hf f1 => ?_)
  · rw [z, if_pos rfl] at h
    have a1 := adv_okB (B := B) h1
    have a2 := adv_cd (B := B) (n := n) h2
    have sl := adv_s (B := B) h1 (isS_0 z)
    refine t_mE hs hn hB a1 a2 (by rw [adv_dN]; exact h3) hS1 (rM_bd (rM_mono (frN_T f1) h) (fun P2 I2 e2 hS2 f2 h' => ?_) (fun e I2 hf f2 hq => f_writes hs hf.2.1 (hq I2 hf f2)))
    obtain ⟨k1, k2, k3, k4, k5, _⟩ := eB_ok a1 a2 (by rw [adv_dN]; exact h3) e2
    have := k1.1.1
    have := k1.1.2.1
    exact t_mem (m := 0) hs (by omega) hS2 (fun I3 hS3 f3 _ => h' I3 hS3 f3)
  · rw [z, if_neg (by decide)] at h
    refine f_whole (d := d + 38) hs hf.2.1 ?_
    have hf' := fE_f (k := 29) (x := 0) (by decide) (by decide) hf
    exact f_writes hs hf'.2.1 (h _ hf' (frN_f (by omega) f1))
theorem t_mas {Q : Unit → HI → Prop} (hs : Stat R) (hn : n ≤ 900) (hB : ∀ j, B j < 256) (h1 : okL n P) (h0 : P 0 0 = 1) (hnm : isNm P = true) (hl : P 0 11 = 1) (hS : bS I n B P) (h : rM Q I n B (asS B n P)) : Wc fv (d + 43) M_X12_readAssignment [.ref 80] I J R Q := by
  refine e_X12_readAssignment hs ?_
  have hc := h1.1.2.2.1
  simp only [asS] at h
  have a1 := adv_okB (B := B) h1.1
  have a2 := adv_cd (B := B) (n := n) h1.2.1
  have a3 : dN (adv B n P) = 0 := by rw [adv_dN]; exact h1.2.2
  refine t_mrow hs h1.1 hS h0 ?_
  cases hr : rwO P with
  | some r =>
    rw [hr] at h
    simp only [clo] at h
    have hr8 := (rwO_s hr).1
    refine ⟨fun _ => ?_, fun w => absurd w (nI_m1 (k := r) (by omega))⟩
    refine t_goOn hs hn hB h1.1.1.2.1 hS (fun I1 hS1 f1 => ?_)
    have h := rM_mono (frN_T f1) h
    have deadE : ∀ e I2, fE I2 e → (∀ I3, fE I3 e → frN I2 I3 → Q () I3) → Wc fv (d + 42) M_X12_needs [.ref 80, .int 93] I2 J R (fun _ I10 => Wc fv (d + 42) M_X12_needs [.ref 80, .int 61] I10 J R (fun _ I12 => Wc fv (d + 42) M_X12_whole [.ref 80] I12 J R (fun _ I14 => Wc fv (d + 42) M_X12_writes [.ref 80, .int 8, .int (nI r), .int 0] I14 J R (fun _ I16 => Q () I16)))) := by
      intro e I2 hf hq
      refine f_needs hs hf.2.1 (f_needs hs hf.2.1 (f_whole (d := d + 38) hs hf.2.1 ?_))
      have hf' := fE_f (k := 29) (x := 0) (by decide) (by decide) hf
      exact f_writes hs hf'.2.1 (hq _ hf' (frN_f (by omega) frN_rf))
    refine t_mneeds (c := 91) (d := d + 37) hs hn hB (by decide) a1 hS1 (fun z I2 hS2 f2 => ?_) (fun z I2 hf f2 => ?_)
    · rw [z, if_pos rfl] at h
      have b1 := adv_okB (B := B) a1
      have b2 := adv_cd (B := B) (n := n) a2
      have b3 : dN (adv B n (adv B n P)) = 0 := by rw [adv_dN]; exact a3
      refine t_mE hs hn hB b1 b2 (by omega) hS2 (rM_bd (rM_mono (frN_T f2) h) (fun P3 I3 e3 hS3 f3 h' => ?_) (fun e I3 hf f3 hq => deadE e I3 hf (fun I4 hf4 f4 => hq I4 hf4 (frN_tr f3 f4))))
      obtain ⟨k1, k2, k3, k4, k5, _⟩ := eB_ok b1 b2 (by omega) e3
      refine t_mneeds (c := 93) (d := d + 37) hs hn hB (by decide) k1 hS3 (fun y I4 hS4 f4 => ?_) (fun y I4 hf f4 => ?_)
      · rw [y, if_pos rfl] at h'
        exact t_meq hs hn hB (adv_okB k1) (adv_cd k2) (by rw [adv_dN]; omega) hS4 (rM_mono (frN_T f4) h')
      · rw [y, if_neg (by decide)] at h'
        refine f_needs hs hf.2.1 (f_whole (d := d + 38) hs hf.2.1 ?_)
        have hf' := fE_f (k := 29) (x := 0) (by decide) (by decide) hf
        exact f_writes hs hf'.2.1 (h' _ hf' (frN_f (by omega) f4))
    · rw [z, if_neg (by decide)] at h
      have hf' := fE_f (k := 29) (x := 0) (by decide) (by decide) hf
      refine f_whole (d := d + 38) hs hf.2.1 (deadE _ _ hf' (fun I3 hf3 f3 => h I3 hf3 (frN_tr f2 (frN_tr (frN_f (by omega) frN_rf) f3))))
  | none =>
    rw [hr] at h
    simp only at h
    refine ⟨fun w => absurd rfl w, fun _ => ?_⟩
    refine t_mtgt (d := d + 37) hs hn hB h1.1 hS (fun v P1 _ _ hv hv2 I1 hS1 f1 => ?_) (fun k hk I1 x hf f1 => ?_)
    · rw [hv] at h
      have ok1 : okL n P1 ∧ P1 0 0 = 1 := by
        cases hvo : vrO P with
        | some v' =>
          have := hv (fun v P => .ok P)
          simp only [tgS, hvo] at this
          cases this
          exact ⟨h1, h0⟩
        | none =>
          have := hv (fun v P => .ok P)
          simp only [tgS, hvo] at this
          split at this
          · simp [flt] at this
          · cases this
            exact ⟨⟨nvr_ok h1.1 h0 (by omega) hl, nvr_cd h1.2.1, by rw [nvr_dN]; exact h1.2.2⟩, by rw [nvr_0 (by decide)]; exact h0⟩
      exact t_meq hs hn hB (adv_okB ok1.1.1) (adv_cd ok1.1.2.1) (by rw [adv_dN, ok1.1.2.2]; omega) hS1 (rM_mono f1 h)
    · have := hk (fun v P1 => eqS B n 7 v (adv B n P1))
      rw [hnm, if_pos rfl, hr, if_pos rfl] at this
      rw [this] at h
      have hf' := fE_f (k := 29) (x := 0) (by decide) (by decide) hf
      exact f_needs hs hf.2.1 (f_whole (d := d + 38) hs hf.2.1 (f_writes hs hf'.2.1 (h _ hf' (frN_f (by omega) f1))))
theorem t_mlop {Q : Unit → HI → Prop} (hs : Stat R) (hn : n ≤ 900) (hB : ∀ j, B j < 256) (h1 : okL n P) (h0 : P 0 0 = 1) (hl : P 0 11 = 1) (hS : bS I n B P) (h : rM Q I n B (lopS B n P)) : Wc fv (d + 6) M_X12_readLoop [.ref 80] I J R Q := by
  refine e_X12_readLoop hs ?_
  have hc := h1.1.2.2.1
  have c27 : (I 80 27 = (4 : Int32)) ↔ P 0 10 = 4 := by rw [hS.2.2.1.2.2.2.2.2.2.1]; exact nI_eq (b := 4) (by omega) (by decide)
  rw [c27]
  simp only [lopS] at h
  have dn : ∀ e I1 (x : Int32), fE I1 e → Q () I1 → Wc fi (d + 5) M_X12_numeral [.ref 80, .int 1, .int 20] I1 J R (fun r6 I7 => Wc fv (d + 5) M_X12_opens [.ref 80, .int 0, .int (I7 80 24)] I7 J R (fun _ I9 => Wc fv (d + 5) M_X12_writes [.ref 80, .int 10, .int x, .int r6] I9 J R (fun _ I11 => Q () I11))) := fun e I1 x hf hq => f_numeral hs hf.2.1 (f_opens hs hf.2.1 (f_writes hs hf.2.1 hq))
  refine ⟨fun z => ?_, fun z => ?_⟩
  · rw [if_neg z] at h
    have a1 := adv_okB (B := B) h1.1
    have a2 := adv_cd (B := B) (n := n) h1.2.1
    have sl := adv_s (B := B) h1.1 (by omega)
    refine t_goOn hs hn hB h1.1.1.2.1 hS (fun I1 hS1 f1 => ?_)
    have h := rM_mono (frN_T f1) h
    refine t_mtgt (d := d) hs hn hB a1 hS1 (fun v P1 q1 q2 hv hv2 I2 hS2 f2 => ?_) (fun k hk I2 x hf f2 => ?_)
    · rw [q1, if_pos rfl, q2, if_pos rfl, hv] at h
      have ok1 : okB n P1 ∧ P1 0 4 = adv B n P 0 4 ∧ P1 0 2 = adv B n P 0 2 ∧ P1 0 10 = adv B n P 0 10 := by
        cases hvo : vrO (adv B n P) with
        | some v' =>
          have := hv (fun v P => .ok P)
          simp only [tgS, hvo] at this
          cases this
          exact ⟨a1, rfl, rfl, rfl⟩
        | none =>
          have := hv (fun v P => .ok P)
          simp only [tgS, hvo] at this
          split at this
          · simp [flt] at this
          · rename_i h8
            cases this
            have := a1.2.2.1
            exact ⟨nvr_ok a1 (isNm_t q1) (by omega) (by rw [adv_f (by decide)]; exact hl), nvr_0 (by decide), nvr_0 (by decide), nvr_0 (by decide)⟩
      have h := rM_mono f2 h
      have b1 := adv_okB (B := B) ok1.1
      have bg := adv_ge (B := B) ok1.1
      have bt := ok1.1.1.1
      have b2 := b1.1.1
      have b3 := b1.1.2.1
      have bb1 := adv_okB (B := B) b1
      refine t_mnum (a := 1) (c := 20) (d := d) hs hn hB (by decide) (by decide) b1 hS2 (fun k1 k2 k3 I3 hS3 f3 => ?_) (fun k hk I3 x hf f3 => ?_)
      · simp only [numS] at h
        rw [if_pos k1, if_neg (by omega), if_pos k3, adv_em, adv_opn] at h
        have e10 : adv B n (adv B n P1) 0 10 = P 0 10 := by rw [adv_f (by decide), adv_f (by decide), ok1.2.2.2, adv_f (by decide)]
        refine t_mopn (k := 0) hs (by rw [e10]; omega) hS3 (fun I4 hS4 f4 => ?_)
        refine t_mem (op := 10) hs ?_ hS4 (fun I5 hS5 f5 _ => h I5 hS5 (frN_tr (frN_T f3) (frN_tr f4 f5)))
        rw [opn_0 (by decide), adv_f (by decide), adv_f (by decide), ok1.2.1]
        omega
      · rw [hk] at h
        exact f_opens hs hf.2.1 (f_writes hs hf.2.1 (h I3 hf f3))
    · rw [hk] at h
      exact dn _ I2 x hf (h I2 hf f2)
  · rw [if_pos z] at h
    refine t_mwrong (k := 2) hs (by omega) hS (fun I1 hf f1 => f_goOn hs hf.2.1 (f_target (d := d + 3) hs hf.2.1 (dn _ I1 0 hf (h I1 hf f1))))
theorem t_mout {Q : Unit → HI → Prop} (hs : Stat R) (hn : n ≤ 900) (hB : ∀ j, B j < 256) (h1 : okL n P) (h0 : ¬ P 0 0 = 0) (hS : bS I n B P) (h : rM Q I n B (outS B n P)) : Wc fv (d + 42) M_X12_goOn [.ref 80] I J R (fun _ I1 => Wc fv (d + 42) M_X12_whole [.ref 80] I1 J R (fun _ I2 => Wc fv (d + 42) M_X12_writes [.ref 80, .int 9, .int 0, .int 0] I2 J R (fun _ I3 => Q () I3))) := by
  have a1 := adv_okB (B := B) h1.1
  have a2 := adv_cd (B := B) (n := n) h1.2.1
  have sl := adv_s (B := B) h1.1 h0
  refine t_goOn hs hn hB h1.1.1.2.1 hS (fun I1 hS1 f1 => ?_)
  refine t_mE hs hn hB a1 a2 (by rw [adv_dN, h1.2.2]; omega) hS1 (rM_bd (rM_mono (frN_T f1) h) (fun P2 I2 e2 hS2 f2 h' => ?_) (fun e I2 hf f2 hq => f_writes hs hf.2.1 (hq I2 hf f2)))
  obtain ⟨k1, k2, k3, k4, k5, _⟩ := eB_ok a1 a2 (by rw [adv_dN, h1.2.2]; omega) e2
  have := k1.1.1
  have := k1.1.2.1
  exact t_mem (op := 9) (a := 0) (m := 0) hs (by omega) hS2 (fun I3 hS3 f3 _ => h' I3 hS3 f3)
theorem t_mif {Q : Unit → HI → Prop} (hs : Stat R) (hn : n ≤ 900) (hB : ∀ j, B j < 256) (h1 : okL n P) (h0 : ¬ P 0 0 = 0) (hS : bS I n B P) (h : rM Q I n B (ifS B n P)) : Wc fv (d + 43) M_X12_readIf [.ref 80] I J R Q := by
  refine ⟨Nat.le_of_ble_eq_true rfl, fun K hK => ?_⟩
  have hc := h1.1.2.2.1
  have dead58 : ∀ e I1 x, fE I1 e → (∀ I2, fE I2 e → frN I1 I2 → Q () I2) → K 58 [(0, .ref 80), (1, .int x)] [] I1 J R := by
    intro e I1 x hf hq
    have hf' := fE_f (k := 29) (x := 0) (by decide) (by decide) hf
    exact g_X12_readIf_58 hK hs (f_goOn hs hf.2.1 (f_whole (d := d + 38) hs hf.2.1 (f_opens hs hf'.2.1 (f_writes hs hf'.2.1 (hq _ hf' (frN_f (by omega) frN_rf))))))
  have dead2 : ∀ e I1, fE I1 e → (∀ I2, fE I2 e → frN I1 I2 → Q () I2) → Wp fb (d + 42) M_X12_isSign [.ref 80, .int 60] I1 J R (fun b5 => ((b5 = false → Wp fb (d + 42) M_X12_isSign [.ref 80, .int 61] I1 J R (fun b7 => ((b7 = true → K 58 [(0, .ref 80), (1, .int 13)] [] I1 J R) ∧ (b7 = false → Wc fv (d + 42) M_X12_wrong [.ref 80, .int 1] I1 J R (fun _ I10 => K 58 [(0, .ref 80), (1, .int 13)] [] I10 J R))))) ∧ (b5 = true → K 58 [(0, .ref 80), (1, .int 12)] [] I1 J R))) := fun e I1 hf hq => f_isSign hs hf.2.1 ⟨fun _ => f_isSign hs hf.2.1 ⟨fun z => absurd z (by decide), fun _ => f_wrong hs hf.2.1 (dead58 e I1 _ hf hq)⟩, fun z => absurd z (by decide)⟩
  refine g_X12_readIf_0 hK hs ?_
  have c27 : (I 80 27 = (4 : Int32)) ↔ P 0 10 = 4 := by rw [hS.2.2.1.2.2.2.2.2.2.1]; exact nI_eq (b := 4) (by omega) (by decide)
  rw [c27]
  simp only [ifS] at h
  refine ⟨fun z => ?_, fun z => ?_⟩
  · rw [if_neg z] at h
    have a1 := adv_okB (B := B) h1.1
    have a2 := adv_cd (B := B) (n := n) h1.2.1
    have a3 : dN (adv B n P) = 0 := by rw [adv_dN]; exact h1.2.2
    refine g_X12_readIf_13 hK hs ?_
    refine t_goOn hs hn hB h1.1.1.2.1 hS (fun I1 hS1 f1 => ?_)
    refine t_mE hs hn hB a1 a2 (by omega) hS1 (rM_bd (rM_mono (frN_T f1) h) (fun P2 I2 e2 hS2 f2 h' => ?_) (fun e I2 hf f2 hq => dead2 e I2 hf (fun I3 hf3 f3 => hq I3 hf3 (frN_tr f2 f3))))
    obtain ⟨k1, k2, k3, k4, k5, k6⟩ := eB_ok a1 a2 (by omega) e2
    have k10 : P2 0 10 < 4 := by rw [k6 10 (by omega), adv_f (by decide)]; omega
    have cont : ∀ t, (t = 12 ∨ t = 13) → ¬ P2 0 0 = 0 → rM Q I2 n B (ifC B n t P2) → K 58 [(0, .ref 80), (1, .int (nI t))] [] I2 J R := by
      intro t ht hz h'
      have b1 := adv_okB (B := B) k1
      have b2 := adv_cd (B := B) (n := n) k2
      have sl2 := adv_s (B := B) k1 hz
      refine g_X12_readIf_58 hK hs ?_
      refine t_goOn hs hn hB k1.1.2.1 hS2 (fun I3 hS3 f3 => ?_)
      refine t_mE hs hn hB b1 b2 (by rw [adv_dN]; omega) hS3 (rM_bd (rM_mono (frN_T f3) h') (fun P4 I4 e4 hS4 f4 h'' => ?_) (fun e I4 hf f4 hq => f_opens hs hf.2.1 (f_writes hs hf.2.1 (hq I4 hf f4))))
      obtain ⟨c1, c2, c3, c4, c5, c6⟩ := eB_ok b1 b2 (by rw [adv_dN]; omega) e4
      have c10 : P4 0 10 < 4 := by rw [c6 10 (by omega), adv_f (by decide)]; exact k10
      have := c1.1.1
      have := c1.1.2.1
      refine t_mopn (k := 1) hs c10 hS4 (fun I5 hS5 f5 => ?_)
      exact t_mem (a := 0) (m := 0) hs (by rw [opn_0 (by decide)]; omega) hS5 (fun I6 hS6 f6 _ => h'' I6 hS6 (frN_tr f5 f6))
    refine t_misS (c := 60) hs (by decide) k1 hS2 ⟨fun y => ?_, fun y => ?_⟩
    · rw [y, if_neg (by decide)] at h'
      simp only [clo] at h'
      refine t_misS (c := 61) hs (by decide) k1 hS2 ⟨fun y2 => ?_, fun y2 => ?_⟩
      · rw [y2, if_pos rfl] at h'
        exact cont 13 (Or.inr rfl) (isS_0 y2) h'
      · rw [y2, if_neg (by decide)] at h'
        exact t_mwrong (k := 1) hs (by omega) hS2 (fun I3 hf f3 => dead58 _ I3 _ hf (fun I4 hf4 f4 => h' I4 hf4 (frN_tr f3 f4)))
    · rw [y, if_pos rfl] at h'
      exact cont 12 (Or.inl rfl) (isS_0 y) h'
  · rw [if_pos z] at h
    refine t_mwrong (k := 2) hs (by omega) hS (fun I1 hf f1 => ?_)
    have hf' := fE_f (k := 29) (x := 0) (by decide) (by decide) hf
    exact g_X12_readIf_13 hK hs (f_goOn hs hf.2.1 (f_whole (d := d + 38) hs hf.2.1 (dead2 _ _ hf' (fun I2 hf2 f2 => h I2 hf2 (frN_tr f1 (frN_tr (frN_f (by omega) frN_rf) f2))))))
theorem t_mels {Q : Unit → HI → Prop} (hs : Stat R) (hn : n ≤ 900) (hB : ∀ j, B j < 256) (h1 : okL n P) (h0 : ¬ P 0 0 = 0) (hS : bS I n B P) (h : rM Q I n B (elsS B n P)) : Wc fv (d + 5) M_X12_readElse [.ref 80] I J R Q := by
  refine ⟨Nat.le_of_ble_eq_true rfl, fun K hK => ?_⟩
  have hc := h1.1.2.2.1
  have t2 := h1.1.1.2.1
  have t3 := h1.1.1.2.2.1 h0
  have sl := h1.1.2.1.1
  have dead : ∀ e I1, fE I1 e → Q () I1 → K 27 [(0, .ref 80)] [] I1 J R := fun e I1 hf hq => g_X12_readElse_27 hK hs (f_goOn hs hf.2.1 ⟨fun z => absurd z hf.2.1, fun _ => hq⟩)
  refine g_X12_readElse_0 hK hs ?_
  have c27 : (I 80 27 = (0 : Int32)) ↔ P 0 10 = 0 := by rw [hS.2.2.1.2.2.2.2.2.2.1]; exact nI_eq (b := 0) (by omega) (by decide)
  rw [c27]
  simp only [elsS] at h
  refine ⟨fun z => ?_, fun z => ?_⟩
  · rw [if_pos z] at h
    exact t_mwrong (k := 1) hs (by omega) hS (fun I1 hf f1 => dead _ I1 hf (h I1 hf f1))
  · rw [if_neg z] at h
    rw [hS.2.2.1.2.2.2.2.2.2.1, sub1 (show 1 ≤ P 0 10 by omega)]
    refine ⟨P 0 10 - 1, rfl, by omega, ?_⟩
    have s7 := hS.2.2.2.2.2.2 (P 0 10 - 1) (by omega)
    have bk := h1.2.1.2.2.2 (P 0 10 - 1) (by omega)
    have c1 : (nI (P 8 (P 0 10 - 1)) = (1 : Int32)) ↔ P 8 (P 0 10 - 1) = 1 := nI_eq (b := 1) (by have := bk.2.2; omega) (by decide)
    rw [s7.1, c1]
    refine ⟨fun y => ?_, fun y => ?_⟩
    · rw [if_pos y] at h
      refine g_X12_readElse_27 hK hs ?_
      refine t_goOn hs hn hB t2 hS (fun I1 hS1 f1 => ⟨fun _ => ?_, fun w => absurd hS1.2.1.2.1 w⟩)
      have e10 : adv B n P 0 10 = P 0 10 := adv_f (by decide)
      have e4 : adv B n P 0 4 = P 0 4 := adv_f (by decide)
      rw [adv_pat, adv_em, adv_up (Or.inl (by decide)), adv_up (Or.inl (by decide))] at h
      have i27 : I1 80 27 = nI (P 0 10) := by rw [hS1.2.2.1.2.2.2.2.2.2.1, e10]
      have i24 : I1 80 24 = nI (P 0 4) := by rw [hS1.2.2.1.1, e4]
      rw [i27, i24, sub1 (show 1 ≤ P 0 10 by omega)]
      refine ⟨P 0 10 - 1, rfl, by omega, ?_⟩
      have hSx : bS (up (up I1 89 (P 0 10 - 1) 2) 90 (P 0 10 - 1) (nI (P 0 4))) n B (up (up (adv B n P) 8 (P 0 10 - 1) 2) 9 (P 0 10 - 1) (P 0 4)) := by
        obtain ⟨s1, s2, s3, s4, s5, s6, s7⟩ := hS1
        have e : ∀ c, ¬ c = 89 → ¬ c = 90 → up (up I1 89 (P 0 10 - 1) 2) 90 (P 0 10 - 1) (nI (P 0 4)) c = I1 c := fun c a1 a2 => by rw [up_ne _ _ _ _ a2, up_ne _ _ _ _ a1]
        have r : ∀ c, ¬ c = 8 → ¬ c = 9 → up (up (adv B n P) 8 (P 0 10 - 1) 2) 9 (P 0 10 - 1) (P 0 4) c = adv B n P c := fun c h h2 => by rw [upc_ne h2, upc_ne h]
        refine ⟨?_, ?_, ?_, ?_, ?_, ?_, fun b hb => ?_⟩
        · rw [r 0 (by decide) (by decide)]; exact mtR_I (fun k _ _ => by rw [e 80 (by decide) (by decide)]) s1
        · rw [e 80 (by decide) (by decide), e 81 (by decide) (by decide)]; exact s2
        · rw [e 80 (by decide) (by decide), r 0 (by decide) (by decide)]; exact s3
        · rw [e 86 (by decide) (by decide), e 87 (by decide) (by decide), e 88 (by decide) (by decide), r 0 (by decide) (by decide), r 1 (by decide) (by decide), r 2 (by decide) (by decide), r 3 (by decide) (by decide)]; exact s4
        · rw [e 84 (by decide) (by decide), e 85 (by decide) (by decide), e 83 (by decide) (by decide), r 0 (by decide) (by decide), r 5 (by decide) (by decide), r 6 (by decide) (by decide), r 7 (by decide) (by decide)]; exact s5
        · rw [e 82 (by decide) (by decide), r 0 (by decide) (by decide), r 4 (by decide) (by decide)]; exact s6
        · rw [r 0 (by decide) (by decide)] at hb
          have := s7 b hb
          simp only [up_ap]
          by_cases hbb : b = P 0 10 - 1
          · rw [if_neg (by omega), if_pos ⟨trivial, hbb⟩, if_neg (by omega), if_pos ⟨trivial, hbb⟩, if_pos ⟨trivial, hbb⟩, if_pos ⟨trivial, hbb⟩]
            exact ⟨rfl, rfl⟩
          · rw [if_neg (by omega), if_neg (by omega), if_neg (by omega), if_neg (by omega), if_neg (by omega), if_neg (by omega), if_neg (by omega), if_neg (by omega)]
            exact this
      have w4 : up (up (adv B n P) 8 (P 0 10 - 1) 2) 9 (P 0 10 - 1) (P 0 4) 0 4 = P 0 4 := by rw [up_na (by decide), up_na (by decide), e4]
      have i90 : I1 90 (P 0 10 - 1) = nI (P 9 (P 0 10 - 1)) := by
        have := (hS1.2.2.2.2.2.2 (P 0 10 - 1) (by rw [e10]; omega)).2
        rw [this, adv_c (by decide)]
      generalize up (up (adv B n P) 8 (P 0 10 - 1) 2) 9 (P 0 10 - 1) (P 0 4) = P0 at h hSx w4
      refine t_mem (op := 14) (a := 0) (m := 0) hs (by rw [w4]; omega) hSx (fun I3 hS3 f3 _ => ?_)
      rw [i90, show (1000 : Int32) + nI (P 9 (P 0 10 - 1)) = nI (1000 + P 9 (P 0 10 - 1)) from nI_add 1000 _]
      refine ⟨1000 + P 9 (P 0 10 - 1), rfl, by have := bk.1; omega, ?_⟩
      rw [hS3.2.2.1.1]
      refine h _ (bS_pat hS3) (frN_c (by omega) (by omega) (by omega) (frN_tr (frN_T f1) (frN_tr (frN_c (by omega) (by omega) (by omega) (frN_c (by omega) (by omega) (by omega) frN_rf)) f3)))
    · rw [if_neg y] at h
      exact t_mwrong (k := 1) hs (by omega) hS (fun I1 hf f1 => dead _ I1 hf (h I1 hf f1))
theorem t_mend {Q : Unit → HI → Prop} (hs : Stat R) (hn : n ≤ 900) (hB : ∀ j, B j < 256) (h1 : okL n P) (h0 : ¬ P 0 0 = 0) (hS : bS I n B P) (h : rM Q I n B (endS B n P)) : Wc fv (d + 5) M_X12_readEnd [.ref 80] I J R Q := by
  refine ⟨Nat.le_of_ble_eq_true rfl, fun K hK => ?_⟩
  have hc := h1.1.2.2.1
  have t2 := h1.1.1.2.1
  have t3 := h1.1.1.2.2.1 h0
  have sl := h1.1.2.1.1
  have dead : ∀ e I1, fE I1 e → Q () I1 → K 12 [(0, .ref 80)] [] I1 J R := fun e I1 hf hq => g_X12_readEnd_12 hK hs (f_goOn hs hf.2.1 ⟨fun z => absurd z hf.2.1, fun _ => hq⟩)
  refine g_X12_readEnd_0 hK hs ?_
  have c27 : (I 80 27 = (0 : Int32)) ↔ P 0 10 = 0 := by rw [hS.2.2.1.2.2.2.2.2.2.1]; exact nI_eq (b := 0) (by omega) (by decide)
  rw [c27]
  simp only [endS] at h
  refine ⟨fun z => ?_, fun z => ?_⟩
  · rw [if_neg z] at h
    refine g_X12_readEnd_12 hK hs ?_
    refine t_goOn hs hn hB t2 hS (fun I1 hS1 f1 => ⟨fun _ => ?_, fun w => absurd hS1.2.1.2.1 w⟩)
    have e10 : adv B n P 0 10 = P 0 10 := adv_f (by decide)
    have e4 : adv B n P 0 4 = P 0 4 := adv_f (by decide)
    have i27 : I1 80 27 = nI (P 0 10) := by rw [hS1.2.2.1.2.2.2.2.2.2.1, e10]
    have i24 : I1 80 24 = nI (P 0 4) := by rw [hS1.2.2.1.1, e4]
    have s7 := hS1.2.2.2.2.2.2 (P 0 10 - 1) (by rw [e10]; omega)
    have bk := h1.2.1.2.2.2 (P 0 10 - 1) (by omega)
    rw [adv_c (by decide), adv_c (by decide)] at s7
    have c1 : (nI (P 8 (P 0 10 - 1)) = (0 : Int32)) ↔ P 8 (P 0 10 - 1) = 0 := nI_eq (b := 0) (by have := bk.2.2; omega) (by decide)
    rw [i27, i24, sub1 (show 1 ≤ P 0 10 by omega)]
    refine ⟨P 0 10 - 1, rfl, by omega, ?_⟩
    rw [s7.1, s7.2, c1]
    have hSb := bS_f (k := 27) (j := 10) (v := P 0 10 - 1) (Or.inr (Or.inr (Or.inr (Or.inr ⟨rfl, rfl, by rw [e10]; omega⟩)))) hS1
    refine ⟨fun y => ?_, fun y => ?_⟩
    · rw [if_neg y, adv_pat, adv_up (Or.inr (by decide))] at h
      rw [show (1000 : Int32) + nI (P 9 (P 0 10 - 1)) = nI (1000 + P 9 (P 0 10 - 1)) from nI_add 1000 _]
      refine ⟨1000 + P 9 (P 0 10 - 1), rfl, by have := bk.1; omega, ?_⟩
      have hp := bS_pat (i := P 9 (P 0 10 - 1)) hSb
      rw [up_nk (show ¬ (4 : Nat) = 10 by decide), e4] at hp
      exact h _ hp (frN_c (by omega) (by omega) (by omega) (frN_f (by omega) (frN_T f1)))
    · rw [if_pos y, adv_em, adv_up (Or.inr (by decide))] at h
      rw [nI_1]
      exact t_mem (op := 11) (m := 0) hs (by rw [up_nk (by decide), e4]; omega) hSb (fun I3 hS3 f3 _ => h I3 hS3 (frN_tr (frN_T f1) (frN_tr (frN_f (by omega) frN_rf) f3)))
  · rw [if_pos z] at h
    exact t_mwrong (k := 1) hs (by omega) hS (fun I1 hf f1 => dead _ I1 hf (h I1 hf f1))
end MD
