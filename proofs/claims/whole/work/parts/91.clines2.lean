/-! the class's Parser: LINES, the TEXT -/
theorem eB_ok {B : Nat → Nat} {n : Nat} {P P' : SP} (h1 : okB n P) (h2 : cdP P) (h3 : dN P ≤ 1) (h : eS B n P = .ok P') : okB n P' ∧ cdP P' ∧ dN P' = dN P + 1 ∧ P' 0 4 + P 0 2 ≤ P' 0 2 + P 0 4 ∧ P 0 4 ≤ P' 0 4 ∧ (∀ j, 5 ≤ j → P' 0 j = P 0 j) := by
  have g := eS_ok h1 h2 h3 h
  exact ⟨g.1.1, g.1.2, g.2.2.2.2.2, g.2.2.1, g.2.1, g.2.2.2.1⟩
section CG
variable {d : Nat} {I : HI} {J : HJ} {R : HR} {B : Nat → Nat} {n p : Nat} {P : SP}
theorem cS_0 {I : HI} (hS : cS I p n B P) : I 7 3 = 0 ↔ P 0 0 = 0 := by
  obtain ⟨_, _, _, hc⟩ := hS.1
  rcases hc with ⟨k, a⟩ | ⟨k, a, _⟩ | ⟨k, a, _⟩ | ⟨k, a, _⟩ | ⟨k, a, _⟩ | ⟨k, a, _⟩ | ⟨k, a, _⟩ <;> rw [a, k] <;> decide
theorem adv_s {B : Nat → Nat} {n : Nat} {P : SP} (h1 : okB n P) (h0 : ¬ P 0 0 = 0) : adv B n P 0 4 + 1 ≤ adv B n P 0 2 := by
  have := adv_ge (B := B) h1
  have := h1.1.2.2.1 h0
  have := h1.2.1.1
  rw [adv_f (by decide)]
  omega
/-- '=' and what follows -/
theorem t_ceq {K : KT} {Qk : PQ} {Q : Bool → HI → Prop} {r v : Int32} {op a : Nat} (hK : am_R M_X4_assignment (am_W (d + 29)) none R (qC fb J R Q) K) (hs : Stat R) (hp : isX5 p) (hR : R 2 1 = some p) (hn : n ≤ 900) (hB : ∀ j, B j < 256) (hop : (op = 8 ∧ ¬ r = -1 ∧ r = nI a) ∨ (op = 7 ∧ r = -1 ∧ v = nI a)) (ha : a < 100000) (h1 : okB n P) (h2 : cdP P) (h3 : dN P ≤ 1) (hS : cS I p n B P) (h : rC Q I p n B (eqS B n op a P)) : K 76 [(0, .ref 2), (1, .int r), (2, .int v)] [] I J R := by
  refine g_X4_assignment_76 hK hs ?_
  simp only [eqS, clo] at h
  refine t_isSign (c := 61) hs (by decide) h1 hS ⟨fun z => ?_, fun z => ?_⟩
  · rw [z, if_pos rfl] at h
    have a1 := adv_okB (B := B) h1
    have a2 := adv_cd (B := B) (n := n) h2
    have sl := adv_s (B := B) h1 (isS_0 z)
    refine t_adv hs hp hn hB h1 hS (fun I1 hS1 f1 => ?_)
    refine t_cE (d := d + 1) hs hp hR hn hB a1 a2 (by rw [adv_dN]; exact h3) hS1 (rC_bd (rC_mono (frP_7 f1) h) (fun P2 I2 e2 hS2 f2 h' => ⟨fun _ => ⟨p, hR, hp, ?_⟩, fun w => absurd w (by decide)⟩) (fun I2 hq => ⟨fun w => absurd w (by decide), fun _ => hq⟩))
    obtain ⟨k1, k2, k3, k4, k5, _⟩ := eB_ok a1 a2 (by rw [adv_dN]; exact h3) e2
    have := k1.1.1
    rcases hop with ⟨e, e1, e2⟩ | ⟨e, e1, e2⟩
    · subst e
      refine ⟨fun _ => ⟨fun _ => ?_, fun z => absurd z e1⟩, fun z => absurd z e1⟩
      rw [e2]
      exact t_cem (op := 8) (m := 0) hs hp hn k1 (by omega) hS2 (by decide) (by decide) ha h'
    · subst e
      refine ⟨fun z => absurd e1 z, fun _ => ⟨fun z => absurd e1 z, fun _ => ?_⟩⟩
      rw [e2]
      exact t_cem (op := 7) (m := 0) hs hp hn k1 (by omega) hS2 (by decide) (by decide) ha h'
  · rw [z, if_neg (by decide)] at h
    exact t_fl (k := 1) hs hS h
theorem brE_ok {o c : Nat} {P P3 : SP} (h1 : okB n P) (h2 : cdP P) (h3 : dN P = 0) (h : brS B n o c (fun P => eS B n (adv B n P)) P = .ok P3) : okB n P3 ∧ cdP P3 ∧ dN P3 = 1 := by
  obtain ⟨s1, h⟩ := clo_ok h
  obtain ⟨P2, e2, h⟩ := bd_ok h
  obtain ⟨s2, h⟩ := clo_ok h
  cases h
  obtain ⟨k1, k2, k3, _⟩ := eB_ok (adv_okB h1) (adv_cd h2) (by rw [adv_dN]; omega) e2
  exact ⟨adv_okB k1, adv_cd k2, by rw [adv_dN, k3, adv_dN, h3]⟩
theorem t_cas {Q : Bool → HI → Prop} (hs : Stat R) (hp : isX5 p) (hR : R 2 1 = some p) (hn : n ≤ 900) (hB : ∀ j, B j < 256) (h1 : okL n P) (h0 : P 0 0 = 1) (hl : P 0 11 = 1) (hS : cS I p n B P) (h : rC Q I p n B (asS B n P)) : Wc fb (d + 30) M_X4_assignment [.ref 2] I J R Q := by
  refine ⟨Nat.le_of_ble_eq_true rfl, fun K hK => ?_⟩
  refine g_X4_assignment_0 hK hs ?_
  have hc := h1.1.2.2.1
  simp only [asS] at h
  refine t_rowOf hs hp hR h1.1 hS h0 ?_
  cases hr : rwO P with
  | some r =>
    rw [hr] at h
    simp only at h
    rw [clo_f (X := fun P => eS B n (adv B n P)) (f := fun P3 => eqS B n 8 r P3)] at h
    have hr8 := (rwO_s hr).1
    have nr : ¬ nI r = -1 := nI_m1 (by omega)
    refine ⟨fun _ => ?_, fun w => absurd w nr⟩
    refine g_X4_assignment_33 hK hs ⟨fun _ => ?_, fun w => absurd w nr⟩
    refine t_adv hs hp hn hB h1.1 hS (fun I1 hS1 f1 => ⟨fun w => absurd w nr, fun _ => ?_⟩)
    have a1 := adv_okB (B := B) h1.1
    have a2 := adv_cd (B := B) (n := n) h1.2.1
    have a3 : dN (adv B n P) = 0 := by rw [adv_dN]; exact h1.2.2
    refine t_cbrk (o := 91) (c := 93) (dep := 0) (d := d + 27) (b := 1) hs hp hn hB (by omega) (by decide) (by decide) (F := facS B n 8) (fun P P' q1 q2 q3 q4 => (eB_ok q1 q2 q3 q4).1) (fun P I Q q1 q2 q3 q4 q5 => t_cE hs hp hR hn hB q1 q2 q3 q4 q5) a1 a2 (by omega) hS1 (rC_bd (rC_mono (frP_7 f1) h) (fun P3 I3 e3 hS3 f3 h' => ⟨fun _ => ?_, fun w => absurd w (by decide)⟩) (fun I3 hq => ⟨fun w => absurd w (by decide), fun _ => hq⟩))
    obtain ⟨k1, k2, k3⟩ := brE_ok a1 a2 a3 e3
    exact t_ceq (Qk := fun _ _ _ _ => True) hK hs hp hR hn hB (Or.inl ⟨rfl, nr, rfl⟩) (by omega) k1 k2 (by omega) hS3 h'
  | none =>
    rw [hr] at h
    simp only [tgS] at h
    refine ⟨fun w => absurd rfl w, fun _ => ?_⟩
    have go : ∀ (v : Nat) (P1 : SP) (I1 : HI), v < 100000 → okL n P1 → P1 0 0 = 1 → cS I1 p n B P1 → rC Q I1 p n B (eqS B n 7 v (adv B n P1)) → K 33 [(0, .ref 2), (1, .int (oI none))] [.int (nI v)] I1 J R := by
      intro v P1 I1 hv l1 l0 hS1 h'
      refine g_X4_assignment_33 hK hs ⟨fun w => absurd rfl w, fun _ => ⟨fun _ => ?_, fun w => absurd w (nI_m1 (by omega))⟩⟩
      refine t_adv hs hp hn hB l1.1 hS1 (fun I2 hS2 f2 => ⟨fun _ => ?_, fun w => absurd rfl w⟩)
      exact t_ceq (Qk := fun _ _ _ _ => True) hK hs hp hR hn hB (Or.inr ⟨rfl, rfl, rfl⟩) hv (adv_okB l1.1) (adv_cd l1.2.1) (by rw [adv_dN, l1.2.2]; omega) hS2 (rC_mono (frP_7 f2) h')
    refine t_variableOf (y := true) hs hp hR h1.1 hS h0 (fun v hv => ?_) (fun hv w => ?_) (fun hv _ w I1 hS1 f1 => ?_)
    · rw [hv] at h
      have := (vrO_s hv).1
      exact go v P I (by omega) h1 h0 hS h
    · rw [hv] at h
      simp only at h
      have w8 : P 0 7 = 8 := by
        rcases w with w | w
        · cases w
        · exact w
      rw [if_pos w8] at h
      exact g_X4_assignment_33 hK hs ⟨fun w => absurd rfl w, fun _ => ⟨fun w => absurd rfl w, fun _ => t_fl (k := 2) hs hS h⟩⟩
    · rw [hv] at h
      simp only at h
      rw [if_neg (by omega)] at h
      exact go (P 0 7) (nvr P) I1 (by omega) ⟨nvr_ok h1.1 h0 w hl, nvr_cd h1.2.1, by rw [nvr_dN]; exact h1.2.2⟩ (by rw [nvr_0 (by decide)]; exact h0) hS1 (rC_mono f1 h)
theorem t_clop {Q : Bool → HI → Prop} (hs : Stat R) (hp : isX5 p) (hR : R 2 1 = some p) (hn : n ≤ 900) (hB : ∀ j, B j < 256) (h1 : okL n P) (h0 : P 0 0 = 1) (hl : P 0 11 = 1) (hS : cS I p n B P) (h : rC Q I p n B (lopS B n P)) : Wc fb (d + 3) M_X4_loopLine [.ref 2] I J R Q := by
  refine e_X4_loopLine hs ?_
  have hc := h1.1.2.2.1
  rw [hS.2.2.2.1.1]
  have cl : (nI (P 0 10) < (4 : Int32)) ↔ P 0 10 < 4 := nI_ltI (b := 4) (by omega) (by decide)
  rw [cl]
  simp only [lopS] at h
  refine ⟨fun z => ?_, fun z => ?_⟩
  · rw [if_neg (by omega)] at h
    have a1 := adv_okB (B := B) h1.1
    have a2 := adv_cd (B := B) (n := n) h1.2.1
    have sl := adv_s (B := B) h1.1 (by omega)
    refine t_adv hs hp hn hB h1.1 hS (fun I1 hS1 f1 => ?_)
    have h := rC_mono (frP_7 f1) h
    refine t_isName hs a1 hS1 ⟨fun y => ?_, fun y => ?_⟩
    · rw [y, if_neg (by decide)] at h
      exact t_fl (k := 1) hs hS1 h
    · rw [y, if_pos rfl] at h
      have k1 := isNm_t y
      refine t_rowOf hs hp hR a1 hS1 k1 ?_
      cases hr : rwO (adv B n P) with
      | some r =>
        rw [hr, if_neg (by simp)] at h
        have hr8 := (rwO_s hr).1
        rw [adv_f (by decide)] at hr8
        exact ⟨fun w => absurd w (nI_m1 (k := r) (by omega)), fun _ => t_fl (k := 1) hs hS1 h⟩
      | none =>
        rw [hr, if_pos rfl] at h
        simp only [tgS] at h
        refine ⟨fun _ => ?_, fun w => absurd rfl w⟩
        have go : ∀ (v : Nat) (P1 : SP) (I2 : HI), v < 100000 → okB n P1 → P1 0 4 + 1 ≤ P1 0 2 → P1 0 10 < 4 → cS I2 p n B P1 → rC Q I2 p n B (numS 1 20 (adv B n P1) (fun P2 => .ok (adv B n (em 10 v (P2 0 1) (opn 0 P2))))) → Wc fv (d + 2) M_X6_advance [.ref 7] I2 J R (fun _ I14 => Wc fb (d + 2) M_X4_numberWithin [.ref 2, .int 1, .int 20] I14 J R (fun b15 I16 => ((b15 = true → Wc fv (d + 2) M_X4_openBlock [.ref 2, .int 0] I16 J R (fun _ I19 => (∃ p20 : Nat, (R 2 1) = some p20 ∧ isX5 p20 ∧ Wc fv (d + 2) M_X5_emit [.ref p20, .int 10, .int (nI v), .int (I19 7 4)] I19 J R (fun _ I23 => Wc fv (d + 2) M_X6_advance [.ref 7] I23 J R (fun _ I25 => Q true I25))))) ∧ (b15 = false → Q false I16)))) := by
          intro v P1 I2 hv l1 ls l10 hS2 h
          refine t_adv hs hp hn hB l1 hS2 (fun I3 hS3 f3 => ?_)
          have h := rC_mono (frP_7 f3) h
          have b1 := adv_okB (B := B) l1
          have bg := adv_ge (B := B) l1
          have bt := l1.1.1
          refine t_cnum (a := 1) (b := 20) hs (by decide) (by decide) b1 hS3 (fun e1 e2 e3 => ⟨fun _ => ?_, fun w => absurd w (by decide)⟩) (fun k hk => ?_)
          · have e : numS 1 20 (adv B n P1) (fun P2 => .ok (adv B n (em 10 v (P2 0 1) (opn 0 P2)))) = .ok (adv B n (em 10 v (adv B n P1 0 1) (opn 0 (adv B n P1)))) := by
              simp only [numS]
              rw [if_pos e1, if_neg (by omega), if_pos e3]
            rw [e] at h
            refine t_copn (k := 0) hs hp hR (by rw [adv_f (by decide)]; exact l10) hS3 (fun I4 hS4 f4 g4 => ⟨p, hR, hp, ?_⟩)
            rw [g4, (cS_2 hS3).2 e1]
            have o1 := opn_okB (k := 0) b1 (by rw [adv_f (by decide)]; exact l10)
            have b3 := b1.1.1
            refine t_cem (op := 10) hs hp hn o1 (by rw [opn_0 (by decide), opn_0 (by decide), adv_f (by decide)]; omega) hS4 (by decide) (by omega) hv (fun I5 hS5 f5 => ?_)
            refine t_adv' hs hp hn hB ?_ hS5 (fun I6 hS6 f6 => h I6 hS6 (frP_tr f4 (frP_tr f5 (frP_7 f6))))
            rw [em_0 (by decide), opn_0 (by decide)]
            exact b1.1.2.1
          · rw [hk] at h
            exact fun I4 e1 e2 e3 => ⟨fun w => absurd w (by decide), fun _ => h I4 e1 e2 e3⟩
        refine t_variableOf (y := true) hs hp hR a1 hS1 k1 (fun v hv => ?_) (fun hv w => ?_) (fun hv _ w I2 hS2 f2 => ?_)
        · rw [hv] at h
          have := (vrO_s hv).1
          rw [adv_f (by decide)] at this
          exact ⟨fun _ => go v (adv B n P) I1 (by omega) a1 sl (by rw [adv_f (by decide)]; exact z) hS1 h, fun w => absurd w (nI_m1 (by omega))⟩
        · rw [hv] at h
          simp only at h
          have w8 : adv B n P 0 7 = 8 := by
            rcases w with w | w
            · cases w
            · exact w
          rw [if_pos w8] at h
          exact ⟨fun w => absurd rfl w, fun _ => t_fl (k := 2) hs hS1 h⟩
        · rw [hv] at h
          simp only at h
          rw [if_neg (by omega)] at h
          refine ⟨fun _ => go (adv B n P 0 7) (nvr (adv B n P)) I2 (by omega) (nvr_ok a1 k1 w (by rw [adv_f (by decide)]; exact hl)) (by rw [nvr_0 (by decide), nvr_0 (by decide)]; exact sl) (by rw [nvr_0 (by decide), adv_f (by decide)]; exact z) hS2 (rC_mono f2 h), fun q => absurd q (nI_m1 (by omega))⟩
  · rw [if_pos (by omega)] at h
    exact t_fl (k := 2) hs hS h
theorem t_cout {Q : Bool → HI → Prop} (hs : Stat R) (hp : isX5 p) (hR : R 2 1 = some p) (hn : n ≤ 900) (hB : ∀ j, B j < 256) (h1 : okL n P) (h0 : ¬ P 0 0 = 0) (hS : cS I p n B P) (h : rC Q I p n B (outS B n P)) : Wc fb (d + 29) M_X4_outLine [.ref 2] I J R Q := by
  refine e_X4_outLine hs ?_
  have a1 := adv_okB (B := B) h1.1
  have a2 := adv_cd (B := B) (n := n) h1.2.1
  have sl := adv_s (B := B) h1.1 h0
  refine t_adv hs hp hn hB h1.1 hS (fun I1 hS1 f1 => ?_)
  refine t_cE hs hp hR hn hB a1 a2 (by rw [adv_dN, h1.2.2]; omega) hS1 (rC_bd (rC_mono (frP_7 f1) h) (fun P2 I2 e2 hS2 f2 h' => ⟨fun _ => ⟨p, hR, hp, ?_⟩, fun w => absurd w (by decide)⟩) (fun I2 hq => ⟨fun w => absurd w (by decide), fun _ => hq⟩))
  obtain ⟨k1, k2, k3, k4, k5, _⟩ := eB_ok a1 a2 (by rw [adv_dN, h1.2.2]; omega) e2
  have := k1.1.1
  exact t_cem (op := 9) (a := 0) (m := 0) hs hp hn k1 (by omega) hS2 (by decide) (by decide) (by decide) h'
theorem t_cif {Q : Bool → HI → Prop} (hs : Stat R) (hp : isX5 p) (hR : R 2 1 = some p) (hn : n ≤ 900) (hB : ∀ j, B j < 256) (h1 : okL n P) (h0 : ¬ P 0 0 = 0) (hS : cS I p n B P) (h : rC Q I p n B (ifS B n P)) : Wc fb (d + 29) M_X4_ifLine [.ref 2] I J R Q := by
  refine ⟨Nat.le_of_ble_eq_true rfl, fun K hK => ?_⟩
  refine g_X4_ifLine_0 hK hs ?_
  have hc := h1.1.2.2.1
  rw [hS.2.2.2.1.1]
  have cl : (nI (P 0 10) < (4 : Int32)) ↔ P 0 10 < 4 := nI_ltI (b := 4) (by omega) (by decide)
  rw [cl]
  simp only [ifS] at h
  refine ⟨fun z => ?_, fun z => ?_⟩
  · rw [if_neg (by omega)] at h
    have a1 := adv_okB (B := B) h1.1
    have a2 := adv_cd (B := B) (n := n) h1.2.1
    have sl := adv_s (B := B) h1.1 h0
    have a3 : dN (adv B n P) = 0 := by rw [adv_dN]; exact h1.2.2
    refine t_adv hs hp hn hB h1.1 hS (fun I1 hS1 f1 => ?_)
    refine t_cE hs hp hR hn hB a1 a2 (by omega) hS1 (rC_bd (rC_mono (frP_7 f1) h) (fun P2 I2 e2 hS2 f2 h' => ⟨fun _ => ?_, fun w => absurd w (by decide)⟩) (fun I2 hq => ⟨fun w => absurd w (by decide), fun _ => hq⟩))
    obtain ⟨k1, k2, k3, k4, k5, k6⟩ := eB_ok a1 a2 (by omega) e2
    have k10 : P2 0 10 < 4 := by rw [k6 10 (by omega), adv_f (by decide)]; exact z
    have kk := k1.1.1
    have cont : ∀ t, (t = 12 ∨ t = 13) → ¬ P2 0 0 = 0 → rC Q I2 p n B (ifC B n t P2) → Wc fv (d + 28) M_X6_advance [.ref 7] I2 J R (fun _ I3 => Wc fb (d + 28) M_X4_expression [.ref 2, .int 0] I3 J R (fun b4 I5 => ((b4 = true → Wc fv (d + 28) M_X4_openBlock [.ref 2, .int 1] I5 J R (fun _ I8 => (∃ p9 : Nat, (R 2 1) = some p9 ∧ isX5 p9 ∧ Wc fv (d + 28) M_X5_emit [.ref p9, .int (nI t), .int 0, .int 0] I8 J R (fun _ I12 => Q true I12)))) ∧ (b4 = false → Q false I5)))) := by
      intro t ht hz h'
      have b1 := adv_okB (B := B) k1
      have b2 := adv_cd (B := B) (n := n) k2
      have sl2 := adv_s (B := B) k1 hz
      refine t_adv hs hp hn hB k1 hS2 (fun I3 hS3 f3 => ?_)
      refine t_cE hs hp hR hn hB b1 b2 (by rw [adv_dN]; omega) hS3 (rC_bd (rC_mono (frP_7 f3) h') (fun P4 I4 e4 hS4 f4 h'' => ⟨fun _ => ?_, fun w => absurd w (by decide)⟩) (fun I4 hq => ⟨fun w => absurd w (by decide), fun _ => hq⟩))
      obtain ⟨c1, c2, c3, c4, c5, c6⟩ := eB_ok b1 b2 (by rw [adv_dN]; omega) e4
      have c10 : P4 0 10 < 4 := by rw [c6 10 (by omega), adv_f (by decide)]; exact k10
      have cc := c1.1.1
      refine t_copn (k := 1) hs hp hR c10 hS4 (fun I5 hS5 f5 _ => ⟨p, hR, hp, ?_⟩)
      exact t_cem (a := 0) (m := 0) hs hp hn (opn_okB c1 c10) (by rw [opn_0 (by decide), opn_0 (by decide)]; omega) hS5 (by omega) (by decide) (by decide) (fun I6 hS6 f6 => h'' I6 hS6 (frP_tr f5 f6))
    refine t_isSign (c := 60) hs (by decide) k1 hS2 ⟨fun y => ?_, fun y => ?_⟩
    · rw [y, if_neg (by decide)] at h'
      simp only [clo] at h'
      refine g_X4_ifLine_50 hK hs ⟨fun w => absurd rfl w, fun _ => ?_⟩
      refine t_isSign (c := 61) hs (by decide) k1 hS2 ⟨fun y2 => ?_, fun y2 => ?_⟩
      · rw [y2, if_pos rfl] at h'
        exact cont 13 (Or.inr rfl) (isS_0 y2) h'
      · rw [y2, if_neg (by decide)] at h'
        exact t_fl (k := 1) hs hS2 h'
    · rw [y, if_pos rfl] at h'
      exact g_X4_ifLine_50 hK hs ⟨fun _ => cont 12 (Or.inl rfl) (isS_0 y) h', fun w => absurd w (by decide)⟩
  · rw [if_pos (by omega)] at h
    exact t_fl (k := 2) hs hS h
theorem wfJ_op {P : SP} {i : Nat} (h : wfJ P i) : P 1 i < 16 := by
  rcases h with h | h | h | h | h | h | h | h | h | h | h <;> omega
theorem t_cels {Q : Bool → HI → Prop} (hs : Stat R) (hp : isX5 p) (hR : R 2 1 = some p) (hn : n ≤ 900) (hB : ∀ j, B j < 256) (h1 : okL n P) (h0 : ¬ P 0 0 = 0) (hS : cS I p n B P) (h : rC Q I p n B (elsS B n P)) : Wc fb (d + 2) M_X4_elseLine [.ref 2] I J R Q := by
  refine e_X4_elseLine hs ?_
  have hc := h1.1.2.2.1
  have t2 := h1.1.1.2.1
  have t3 := h1.1.1.2.2.1 h0
  have sl := h1.1.2.1.1
  obtain ⟨s1, s2, s3, s4, s5, s6, s7, s8⟩ := id hS
  rw [s4.1]
  simp only [elsS] at h
  by_cases hb : P 0 10 = 0
  · rw [if_pos hb] at h
    rw [hb]
    exact ⟨fun _ => t_fl (k := 1) hs hS h, fun w => absurd (by decide) w⟩
  · rw [if_neg hb] at h
    rw [sub1 (show 1 ≤ P 0 10 by omega)]
    refine ⟨fun w => absurd w (nI_pos (by omega)), fun _ => ⟨fun w => absurd w (nI_ge (b := 4) (by omega) (by decide)), fun _ => ⟨P 0 10 - 1, rfl, by omega, ?_⟩⟩⟩
    have s8b := s8 (P 0 10 - 1) (by omega)
    have bk := h1.2.1.2.2.2 (P 0 10 - 1) (by omega)
    have c5 : (nI (P 8 (P 0 10 - 1)) = (1 : Int32)) ↔ P 8 (P 0 10 - 1) = 1 := nI_eq (b := 1) (by have := bk.2.2; omega) (by decide)
    rw [s8b.1, s8b.2, c5]
    refine ⟨fun z => ⟨p, hR, hp, ?_⟩, fun z => ?_⟩
    · rw [if_pos z] at h
      have hx := x5_ne hp
      have e1 : up I 5 (P 0 10 - 1) 2 p 1 = nI (P 0 4) := by rw [up_na (by omega)]; exact s3.1
      rw [e1]
      have e : ∀ c, ¬ c = 6 → ¬ c = 5 → up (up I 5 (P 0 10 - 1) 2) 6 (P 0 10 - 1) (nI (P 0 4)) c = I c := fun c a1 a2 => by rw [up_ne _ _ _ _ a1, up_ne _ _ _ _ a2]
      have r : ∀ c, ¬ c = 8 → ¬ c = 9 → up (up P 8 (P 0 10 - 1) 2) 9 (P 0 10 - 1) (P 0 4) c = P c := fun c h h2 => by rw [upc_ne h2, upc_ne h]
      have hS0 : cS (up (up I 5 (P 0 10 - 1) 2) 6 (P 0 10 - 1) (nI (P 0 4))) p n B (up (up P 8 (P 0 10 - 1) 2) 9 (P 0 10 - 1) (P 0 4)) := by
        refine ⟨by rw [r 0 (by decide) (by decide)]; exact scR_I (e 7 (by decide) (by decide)) s1, ?_, ?_, ?_, ?_, ?_, ?_, fun b hb' => ?_⟩
        · rw [e 1 (by decide) (by decide)]; exact s2
        · rw [e p (by omega) (by omega), r 0 (by decide) (by decide)]; exact s3
        · rw [e 2 (by decide) (by decide), r 0 (by decide) (by decide)]; exact s4
        · rw [e (p + 1) (by omega) (by omega), r 0 (by decide) (by decide), r 1 (by decide) (by decide), r 2 (by decide) (by decide), r 3 (by decide) (by decide)]; exact s5
        · rw [e (p + 2) (by omega) (by omega), e (p + 3) (by omega) (by omega), e 4 (by decide) (by decide), r 0 (by decide) (by decide), r 5 (by decide) (by decide), r 6 (by decide) (by decide), r 7 (by decide) (by decide)]; exact s6
        · rw [e 3 (by decide) (by decide), r 0 (by decide) (by decide), r 4 (by decide) (by decide)]; exact s7
        · rw [r 0 (by decide) (by decide)] at hb'
          have := s8 b hb'
          by_cases hbb : b = P 0 10 - 1
          · simp only [up_ap]
            rw [if_neg (by omega), if_pos ⟨trivial, hbb⟩, if_neg (by omega), if_pos ⟨trivial, hbb⟩, if_pos ⟨trivial, hbb⟩, if_pos ⟨trivial, hbb⟩]
            exact ⟨rfl, rfl⟩
          · simp only [up_ap]
            rw [if_neg (by omega), if_neg (by omega), if_neg (by omega), if_neg (by omega), if_neg (by omega), if_neg (by omega), if_neg (by omega), if_neg (by omega)]
            exact this
      have o3 := cd_els h1.2.1 (by omega) (by omega) z h1.2.2
      have k0 : okB n (up (up P 8 (P 0 10 - 1) 2) 9 (P 0 10 - 1) (P 0 4)) := by
        simp only [okB]
        rw [r 0 (by decide) (by decide), r 4 (by decide) (by decide), r 5 (by decide) (by decide), r 6 (by decide) (by decide), r 7 (by decide) (by decide)]
        exact h1.1
      have f0 : frP p I (up (up I 5 (P 0 10 - 1) 2) 6 (P 0 10 - 1) (nI (P 0 4))) := frP_u (Or.inl (by decide)) (frP_u (Or.inl (by decide)) frP_rf)
      generalize up (up P 8 (P 0 10 - 1) 2) 9 (P 0 10 - 1) (P 0 4) = P0 at o3 k0 hS0 h r
      have w4 : P0 0 4 = P 0 4 := by rw [r 0 (by decide) (by decide)]
      refine t_cem (op := 14) (a := 0) (m := 0) hs hp hn k0 (by rw [r 0 (by decide) (by decide)]; omega) hS0 (by decide) (by decide) (by decide) (fun I2 hS2 f2 => ?_)
      have q1 : em 14 0 0 P0 1 (P 9 (P 0 10 - 1)) = P 1 (P 9 (P 0 10 - 1)) := by rw [em_1, w4, if_neg (by have := bk.1; omega), r 1 (by decide) (by decide)]
      have q2 : em 14 0 0 P0 2 (P 9 (P 0 10 - 1)) = P 2 (P 9 (P 0 10 - 1)) := by rw [em_2, w4, if_neg (by have := bk.1; omega), r 2 (by decide) (by decide)]
      have q3 : em 14 0 0 P0 3 (P 9 (P 0 10 - 1)) = P 3 (P 9 (P 0 10 - 1)) := by rw [em_3, w4, if_neg (by have := bk.1; omega), r 3 (by decide) (by decide)]
      have ci := h1.2.1.1 _ bk.1
      refine t_cpat hs hp (by rw [em_4, w4]; omega) (by rw [em_4, w4]; have := bk.1; omega) (by rw [q1]; exact wfJ_op ci.1) (by rw [q2]; exact ci.2.1) (by rw [q3]; exact ci.2.2.1) hS2 (fun I3 hS3 f3 _ => ?_)
      refine t_adv' hs hp hn hB ?_ hS3 (fun I4 hS4 f4 => h I4 hS4 (frP_tr f0 (frP_tr f2 (frP_tr f3 (frP_7 f4)))))
      rw [pat, up_na (by decide), em_0 (by decide), r 0 (by decide) (by decide)]
      exact t2
    · rw [if_neg z] at h
      exact t_fl (k := 1) hs hS h
theorem t_cend {Q : Bool → HI → Prop} (hs : Stat R) (hp : isX5 p) (hR : R 2 1 = some p) (hn : n ≤ 900) (hB : ∀ j, B j < 256) (h1 : okL n P) (h0 : ¬ P 0 0 = 0) (hS : cS I p n B P) (h : rC Q I p n B (endS B n P)) : Wc fb (d + 2) M_X4_endLine [.ref 2] I J R Q := by
  refine e_X4_endLine hs ?_
  have hc := h1.1.2.2.1
  have t2 := h1.1.1.2.1
  have t3 := h1.1.1.2.2.1 h0
  have sl := h1.1.2.1.1
  obtain ⟨s1, s2, s3, s4, s5, s6, s7, s8⟩ := id hS
  rw [s4.1]
  simp only [endS] at h
  by_cases hb : P 0 10 = 0
  · rw [if_pos hb] at h
    rw [hb]
    exact ⟨fun _ => t_fl (k := 1) hs hS h, fun w => absurd (by decide) w⟩
  · rw [if_neg hb] at h
    rw [sub1 (show 1 ≤ P 0 10 by omega)]
    refine ⟨fun w => absurd w (nI_pos (by omega)), fun _ => ⟨fun _ => ⟨P 0 10 - 1, rfl, by omega, ?_⟩, fun w => absurd (nI_lt (b := 4) (by omega) (by decide)) w⟩⟩
    have s8b := s8 (P 0 10 - 1) (by omega)
    have bk := h1.2.1.2.2.2 (P 0 10 - 1) (by omega)
    have ci := h1.2.1.1 _ bk.1
    have c5 : (nI (P 8 (P 0 10 - 1)) = (0 : Int32)) ↔ P 8 (P 0 10 - 1) = 0 := nI_eq (b := 0) (by have := bk.2.2; omega) (by decide)
    rw [s8b.1, s8b.2, c5, nI_1]
    refine ⟨fun z => ⟨p, hR, hp, ?_⟩, fun z => ⟨p, hR, hp, ?_⟩⟩
    · rw [if_neg z] at h
      refine t_cpat hs hp (by omega) bk.1 (wfJ_op ci.1) ci.2.1 ci.2.2.1 hS (fun I2 hS2 f2 _ => ?_)
      have hS3 := cS_2f (k := 6) (j := 10) (v := P 0 10 - 1) hp (Or.inl ⟨rfl, rfl, by rw [pat, up_na (by decide)]; omega⟩) hS2
      have eq : up (pat (P 9 (P 0 10 - 1)) P) 0 10 (P 0 10 - 1) = pat (P 9 (P 0 10 - 1)) (up P 0 10 (P 0 10 - 1)) := by
        simp only [pat]
        rw [up_nk (show ¬ (4 : Nat) = 10 by decide)]
        funext c j
        simp only [up_ap]
        by_cases h0 : c = 0 ∧ j = 10
        · rw [if_pos h0, if_neg (by omega), if_pos h0]
        · rw [if_neg h0]
          by_cases h2 : c = 2 ∧ j = P 9 (P 0 10 - 1)
          · rw [if_pos h2, if_pos h2]
          · rw [if_neg h2, if_neg h2, if_neg h0]
      rw [eq] at hS3
      refine t_adv' hs hp hn hB ?_ hS3 (fun I4 hS4 f4 => h I4 hS4 (frP_tr f2 (frP_tr (frP_u (Or.inl (by decide)) frP_rf) (frP_7 f4))))
      rw [pat, up_na (by decide), up_nk (by decide)]
      exact t2
    · rw [if_pos z] at h
      refine t_cem (op := 11) (m := 0) hs hp hn h1.1 (by omega) hS (by decide) (by decide) (by have := bk.1; omega) (fun I2 hS2 f2 => ?_)
      have hS3 := cS_2f (k := 6) (j := 10) (v := P 0 10 - 1) hp (Or.inl ⟨rfl, rfl, by rw [em_0 (by decide)]; omega⟩) hS2
      have eq : up (em 11 (P 9 (P 0 10 - 1) + 1) 0 P) 0 10 (P 0 10 - 1) = em 11 (P 9 (P 0 10 - 1) + 1) 0 (up P 0 10 (P 0 10 - 1)) := by
        have e4 : up P 0 10 (P 0 10 - 1) 0 4 = P 0 4 := up_nk (by decide)
        funext c j
        simp only [em, e4]
        simp only [up_ap]
        by_cases h0 : c = 0 ∧ j = 10
        · rw [if_pos h0, if_neg (by omega), if_neg (by omega), if_neg (by omega), if_neg (by omega), if_pos h0]
        · rw [if_neg h0]
          by_cases g0 : c = 0 ∧ j = 4
          · rw [if_pos g0, if_pos g0]
          · rw [if_neg g0, if_neg g0]
            by_cases g1 : c = 3 ∧ j = P 0 4
            · rw [if_pos g1, if_pos g1]
            · rw [if_neg g1, if_neg g1]
              by_cases g2 : c = 2 ∧ j = P 0 4
              · rw [if_pos g2, if_pos g2]
              · rw [if_neg g2, if_neg g2]
                by_cases g3 : c = 1 ∧ j = P 0 4
                · rw [if_pos g3, if_pos g3]
                · rw [if_neg g3, if_neg g3, if_neg h0]
      rw [eq] at hS3
      refine t_adv' hs hp hn hB ?_ hS3 (fun I4 hS4 f4 => h I4 hS4 (frP_tr f2 (frP_tr (frP_u (Or.inl (by decide)) frP_rf) (frP_7 f4))))
      rw [em_0 (by decide), up_nk (by decide)]
      exact t2
end CG
