/-! the class's Parser: E -/
def FPR (n b : Nat) (F : SP → RS) : Prop := ∀ P P', okB n P → cdP P → dN P ≤ b → F P = .ok P' → P 0 2 + 1 ≤ P' 0 2
theorem facG_pr {B : Nat → Nat} {n b : Nat} {X : SP → RS} (hX : XOK n b X) : FPR n b (facG B n X) := by
  intro P P' h1 h2 h3 h
  simp only [facG] at h
  have ag : ¬ P 0 0 = 0 → P 0 2 + 1 ≤ adv B n P 0 2 := fun h0 => by
    have := adv_ge (B := B) h1
    have := h1.1.2.2.1 h0
    omega
  split at h
  · rename_i hk
    split at h
    · cases h
      rw [adv_em, em_0 (by decide)]
      exact ag (by omega)
    · simp [flt] at h
  · split at h
    · rename_i hk hnm
      have h0 : ¬ P 0 0 = 0 := by have := isNm_t hnm; omega
      have g1 := adv_grw (B := B) h1 h2 h0
      split at h
      · rename_i r hr
        obtain ⟨s1, h⟩ := clo_ok h
        obtain ⟨P2, e2, h⟩ := bd_ok h
        obtain ⟨s2, h⟩ := clo_ok h
        cases h
        have g2 := hX _ _ g1.1.1 g1.1.2 (isS_0 s1) (by rw [adv_dN]; exact h3) e2
        have g3 := adv_ge (B := B) g2.1.1
        have := g2.1.1.1.1
        have := g2.2.1
        have := g2.2.2.1
        have := ag h0
        rw [em_0 (by decide)]
        omega
      · split at h
        · cases h
          rw [em_0 (by decide)]
          exact ag h0
        · simp [flt] at h
    · obtain ⟨s1, h⟩ := clo_ok h
      obtain ⟨P2, e2, h⟩ := bd_ok h
      obtain ⟨s2, h⟩ := clo_ok h
      cases h
      have g2 := hX _ _ h1 h2 (isS_0 s1) h3 e2
      have g3 := adv_ge (B := B) g2.1.1
      have := g2.1.1.1.1
      have := g2.2.1
      have := g2.2.2.1
      omega
theorem xs_ok {B : Nat → Nat} {n e : Nat} (he : e ≤ 7) : XOK n (19 - 2 * (e + 1)) (fun P => exS B n (facS B n e) (adv B n P)) := by
  intro P P' h1 h2 h0 h3 h
  have g1 := adv_grw (B := B) h1 h2 h0
  have g2 := exS_ok (fac_ok e (by omega)) (by omega) g1.1.1 g1.1.2 (by rw [adv_dN]; omega) h
  rw [adv_dN] at g2
  exact grw_tr g1 g2
theorem fac_pr {B : Nat → Nat} {n : Nat} : ∀ (e : Nat), e ≤ 8 → FPR n (19 - 2 * e) (facS B n e)
  | 0, _ => facG_pr (fun P P' _ _ _ _ h => by simp [flt] at h)
  | e + 1, he => facG_pr (xs_ok (by omega))
def cnt (s : Nat) : Nat := if s = 0 then 0 else 1
def emO (s : Nat) (P : SP) : SP := if s = 0 then P else em s 0 0 P
theorem bd_as {r : RS} {f g : SP → RS} : bd (bd r f) g = bd r (fun P => bd (f P) g) := by cases r <;> rfl
theorem op_cs (P : SP) : (isS 42 P = true ∧ opN P = 5) ∨ (isS 42 P = false ∧ isS 47 P = true ∧ opN P = 6) ∨ (isS 42 P = false ∧ isS 47 P = false ∧ isS 43 P = true ∧ opN P = 3) ∨ (isS 42 P = false ∧ isS 47 P = false ∧ isS 43 P = false ∧ isS 45 P = true ∧ opN P = 4) ∨ (isS 42 P = false ∧ isS 47 P = false ∧ isS 43 P = false ∧ isS 45 P = false ∧ opN P = 0) := by
  have f : ∀ c, ¬ (P 0 0 = 3 ∧ P 0 1 = c) → isS c P = false := fun c h => decide_eq_false h
  have t : ∀ c, (P 0 0 = 3 ∧ P 0 1 = c) → isS c P = true := fun c h => decide_eq_true h
  by_cases k : P 0 0 = 3
  · simp only [opN, if_pos k]
    by_cases h1 : P 0 1 = 42
    · exact Or.inl ⟨t _ ⟨k, h1⟩, by rw [if_pos h1]⟩
    · rw [if_neg h1]
      by_cases h2 : P 0 1 = 43
      · exact Or.inr (Or.inr (Or.inl ⟨f _ (by omega), f _ (by omega), t _ ⟨k, h2⟩, by rw [if_pos h2]⟩))
      · rw [if_neg h2]
        by_cases h3 : P 0 1 = 45
        · exact Or.inr (Or.inr (Or.inr (Or.inl ⟨f _ (by omega), f _ (by omega), f _ (by omega), t _ ⟨k, h3⟩, by rw [if_pos h3]⟩)))
        · rw [if_neg h3]
          by_cases h4 : P 0 1 = 47
          · exact Or.inr (Or.inl ⟨f _ (by omega), t _ ⟨k, h4⟩, by rw [if_pos h4]⟩)
          · exact Or.inr (Or.inr (Or.inr (Or.inr ⟨f _ (by omega), f _ (by omega), f _ (by omega), f _ (by omega), by rw [if_neg h4]⟩)))
  · exact Or.inr (Or.inr (Or.inr (Or.inr ⟨f _ (by omega), f _ (by omega), f _ (by omega), f _ (by omega), by simp only [opN, if_neg k]⟩)))
theorem pI_m1 {s : Nat} (h : s < 2 ^ 31) : (pI s = -1) ↔ s = 0 := by
  simp only [pI]
  split
  · rename_i h0; exact ⟨fun _ => h0, fun _ => rfl⟩
  · rename_i h0; exact ⟨fun q => absurd q (nI_m1 h), fun q => absurd q h0⟩
theorem isS_em {c s : Nat} {P : SP} : isS c (emO s P) = isS c P := by
  simp only [emO]
  split
  · rfl
  · simp only [isS]
    rw [em_0 (by decide), em_0 (by decide)]
section CD
variable {d : Nat} {J : HJ} {R : HR} {B : Nat → Nat} {n p b dep : Nat} {F : SP → RS}
theorem t_cexpr (hs : Stat R) (hp : isX5 p) (hR : R 2 1 = some p) (hn : n ≤ 900) (hB : ∀ j, B j < 256) (hFok : FOK n b F) (hFpr : FPR n b F) (hb : b ≤ 30)
    (hF : ∀ (P : SP) (I : HI) (Q : Bool → HI → Prop), okB n P → cdP P → dN P ≤ b → cS I p n B P → rC Q I p n B (F P) → Wc fb (d + 1) M_X4_factor [.ref 2, .int (nI dep)] I J R Q)
    {P : SP} {I : HI} {Q : Bool → HI → Prop} (h1 : okB n P) (h2 : cdP P) (h3 : dN P + 2 ≤ b) (hS : cS I p n B P) (h : rC Q I p n B (exS B n F P)) : Wc fb (d + 2) M_X4_expression [.ref 2, .int (nI dep)] I J R Q := by
  refine ⟨Nat.le_of_ble_eq_true rfl, fun K hK => ?_⟩
  generalize hD0 : dN P = D0 at h3
  have head : ∀ (u t m m' s q : Nat) (P1 : SP) (I1 : HI), t + u = 900 → okB n P1 → cdP P1 → (s = 0 ∨ s = 3 ∨ s = 4) → (q = 0 ∨ q = 5 ∨ q = 6) → dN P1 = D0 + cnt s + cnt q → 2 * t ≤ P1 0 2 → P1 0 4 + cnt s + cnt q ≤ P1 0 2 → 900 < m + P1 0 2 → 900 < m' + P1 0 2 → cS I1 p n B P1 → rC Q I1 p n B (bd (F P1) (fun P2 => bd (prL B n F m (emO q P2)) (fun P3 => smL B n F m' (emO s P3)))) → K 7 [(0, .ref 2), (1, .int (nI dep)), (2, .int (pI s)), (3, .int (pI q)), (4, .int (nI t))] [] I1 J R := by
    intro u
    induction u with
    | zero =>
      intro t m m' s q P1 I1 ht k1 k2 _ _ _ k6
      have := k1.1.1
      have := k1.1.2.1
      omega
    | succ u ih =>
      intro t m m' s q P1 I1 ht k1 k2 k3 k4 k5 k6 k7 k8 k9 hS1 hh
      have cs : cnt s ≤ 1 := by simp only [cnt]; split <;> omega
      have cq : cnt q ≤ 1 := by simp only [cnt]; split <;> omega
      have mid : ∀ (m m' : Nat) (P2 : SP) (I2 : HI), okB n P2 → cdP P2 → dN P2 = D0 + cnt s + 1 → 2 * t + 1 ≤ P2 0 2 → P2 0 4 + cnt s ≤ P2 0 2 → 900 < m + P2 0 2 → 900 < m' + P2 0 2 → cS I2 p n B P2 → rC Q I2 p n B (bd (prL B n F m P2) (fun P3 => smL B n F m' (emO s P3))) → K 42 [(0, .ref 2), (1, .int (nI dep)), (2, .int (pI s)), (3, .int (-1)), (4, .int (nI t))] [] I2 J R := by
        intro m m' P2 I2 l1 l2 l3 l4 l5 l6 l7 hS2 hh
        have t2 := l1.1.1
        have t3 := l1.1.2.1
        obtain ⟨m, rfl⟩ : ∃ k, m = k + 1 := ⟨m - 1, by omega⟩
        obtain ⟨m', rfl⟩ : ∃ k, m' = k + 1 := ⟨m' - 1, by omega⟩
        simp only [prL] at hh
        refine g_X4_expression_42 hK hs ?_
        refine t_operator hs l1 hS2 ?_
        rw [nI_1]
        have times : ∀ op, (op = 5 ∨ op = 6) → ¬ P2 0 0 = 0 → rC Q I2 p n B (bd (bd (F (adv B n P2)) (fun P1 => prL B n F m (em op 0 0 P1))) (fun P3 => smL B n F (m' + 1) (emO s P3))) → Wc fv (d + 1) M_X6_advance [.ref 7] I2 J R (fun _ I4 => K 7 [(0, .ref 2), (1, .int (nI dep)), (2, .int (pI s)), (3, .int (nI op)), (4, .int (nI (t + 1)))] [] I4 J R) := by
          intro op hop h0 hh
          rw [bd_as] at hh
          have g := adv_grw (B := B) l1 l2 h0
          have g2 := g.2.2.1
          rw [adv_f (by decide)] at g2
          refine t_adv hs hp hn hB l1 hS2 (fun I4 hS4 f4 => ?_)
          have := ih (t + 1) m (m' + 1) s op (adv B n P2) I4 (by omega) g.1.1 g.1.2 k3 (by omega) (by rw [adv_dN, l3, show cnt op = 1 from if_neg (by omega)]) (by omega) (by rw [adv_f (by decide), show cnt op = 1 from if_neg (by omega)]; omega) (by omega) (by omega) hS4 (rC_mono (frP_7 f4) (by
            rcases hop with rfl | rfl
            · exact hh
            · exact hh))
          rw [show pI op = nI op from if_neg (by omega)] at this
          exact this
        have plus : ∀ op, (op = 3 ∨ op = 4) → ¬ P2 0 0 = 0 → ∀ P3 : SP, ∀ I3, okB n P3 → cdP P3 → dN P3 = D0 + 1 → P3 0 2 = P2 0 2 → P3 0 0 = P2 0 0 → P3 0 4 ≤ P3 0 2 → cS I3 p n B P3 → rC Q I3 p n B (bd (F (adv B n P3)) (fun P1 => bd (prL B n F 901 P1) (fun P2 => smL B n F m' (em op 0 0 P2)))) → Wc fv (d + 1) M_X6_advance [.ref 7] I3 J R (fun _ I4 => K 7 [(0, .ref 2), (1, .int (nI dep)), (2, .int (nI op)), (3, .int (-1)), (4, .int (nI (t + 1)))] [] I4 J R) := by
          intro op hop h0 P3 I3 l1' l2' l3' l4' l5' l6' hS3 hh
          have g := adv_grw (B := B) l1' l2' (by rw [l5']; exact h0)
          have g2 := g.2.2.1
          rw [adv_f (by decide)] at g2
          refine t_adv hs hp hn hB l1' hS3 (fun I4 hS4 f4 => ?_)
          have := ih (t + 1) 901 m' op 0 (adv B n P3) I4 (by omega) g.1.1 g.1.2 (by omega) (Or.inl rfl) (by rw [adv_dN, l3', show cnt op = 1 from if_neg (by omega)]; rfl) (by omega) (by rw [adv_f (by decide), show cnt op = 1 from if_neg (by omega), show cnt 0 = 0 from rfl]; omega) (by omega) (by omega) hS4 (rC_mono (frP_7 f4) (by
            rcases hop with rfl | rfl
            · exact hh
            · exact hh))
          rw [show pI op = nI op from if_neg (by omega)] at this
          exact this
        have ps : (pI s = -1) ↔ s = 0 := pI_m1 (by omega)
        -- the pending sum
        have pend : ∀ (Q1 : HI → Prop), (∀ P3 I3, okB n P3 → cdP P3 → dN P3 = D0 + 1 → P3 0 2 = P2 0 2 → P3 0 0 = P2 0 0 → P3 0 4 ≤ P3 0 2 → cS I3 p n B P3 → frP p I2 I3 → P3 = emO s P2 → Q1 I3) → (s = 0 → Q1 I2) ∧ (¬ s = 0 → ∃ p10 : Nat, R 2 1 = some p10 ∧ isX5 p10 ∧ Wc fv (d + 1) M_X5_emit [.ref p10, .int (pI s), .int 0, .int 0] I2 J R (fun _ I13 => Q1 I13)) := by
          intro Q1 hq
          refine ⟨fun z => ?_, fun z => ⟨p, hR, hp, ?_⟩⟩
          · have c0 : cnt s = 0 := if_pos z
            exact hq P2 I2 l1 l2 (by rw [l3, c0]) rfl rfl (by omega) hS2 frP_rf (by rw [emO, if_pos z])
          · have c1 : cnt s = 1 := if_neg z
            rw [show pI s = nI s from if_neg z]
            refine t_cem (a := 0) (m := 0) hs hp hn l1 (by omega) hS2 (by omega) (by omega) (by omega) (fun I3 hS3 f3 => ?_)
            refine hq (em s 0 0 P2) I3 (em_okB l1 (by omega)) (cd_em l2 (by omega) (by omega) ?_ (Or.inr (Or.inr (Or.inr (Or.inl ⟨by omega, by omega, by show 2 ≤ dN P2; omega⟩))))) ?_ (em_0 (by decide)) (em_0 (by decide)) (by rw [em_4, em_0 (by decide)]; omega) hS3 f3 (by rw [emO, if_neg z])
            · show dlt s (dN P2) ≤ 40
              simp only [dlt]
              rw [if_neg (by omega), if_neg (by omega), if_pos (by omega)]
              omega
            · rw [em_dN]
              simp only [dlt]
              rw [if_neg (by omega), if_neg (by omega), if_pos (by omega)]
              omega
        have other : ∀ op, opN P2 = op → (op = 3 ∨ op = 4 ∨ op = 0) → (¬ op = 0 → ¬ P2 0 0 = 0) → rC Q I2 p n B (smL B n F (m' + 1) (emO s P2)) → ((op = 3 → isS 43 P2 = true) ∧ (op = 4 → isS 43 P2 = false ∧ isS 45 P2 = true) ∧ (op = 0 → isS 43 P2 = false ∧ isS 45 P2 = false)) → ((s = 0 → (¬ op = 0 → Wc fv (d + 1) M_X6_advance [.ref 7] I2 J R (fun _ I9 => K 7 [(0, .ref 2), (1, .int (nI dep)), (2, .int (pI op)), (3, .int (-1)), (4, .int (nI (t + 1)))] [] I9 J R)) ∧ (op = 0 → Q true I2)) ∧ (¬ s = 0 → ∃ p10 : Nat, R 2 1 = some p10 ∧ isX5 p10 ∧ Wc fv (d + 1) M_X5_emit [.ref p10, .int (pI s), .int 0, .int 0] I2 J R (fun _ I13 => (¬ op = 0 → Wc fv (d + 1) M_X6_advance [.ref 7] I13 J R (fun _ I16 => K 7 [(0, .ref 2), (1, .int (nI dep)), (2, .int (pI op)), (3, .int (-1)), (4, .int (nI (t + 1)))] [] I16 J R)) ∧ (op = 0 → Q true I13)))) := by
          intro op ho hop h0 hh hi
          refine pend (fun I3 => (¬ op = 0 → Wc fv (d + 1) M_X6_advance [.ref 7] I3 J R (fun _ I9 => K 7 [(0, .ref 2), (1, .int (nI dep)), (2, .int (pI op)), (3, .int (-1)), (4, .int (nI (t + 1)))] [] I9 J R)) ∧ (op = 0 → Q true I3)) (fun P3 I3 w1 w2 w3 w4 w5 w6 hS3 f3 w7 => ?_)
          rw [← w7] at hh
          have hh := rC_mono f3 hh
          simp only [smL] at hh
          have i43 : isS 43 P3 = isS 43 P2 := by rw [w7, isS_em]
          have i45 : isS 45 P3 = isS 45 P2 := by rw [w7, isS_em]
          rw [i43, i45] at hh
          refine ⟨fun z => ?_, fun z => ?_⟩
          · rw [show pI op = nI op from if_neg z]
            rcases hop with z3 | z4 | z0
            · rw [hi.1 z3, if_pos rfl] at hh
              refine plus op (Or.inl z3) (h0 z) P3 I3 w1 w2 w3 w4 w5 w6 hS3 ?_
              rw [z3]; exact hh
            · rw [(hi.2.1 z4).1, if_neg (by decide), (hi.2.1 z4).2, if_pos rfl] at hh
              refine plus op (Or.inr z4) (h0 z) P3 I3 w1 w2 w3 w4 w5 w6 hS3 ?_
              rw [z4]; exact hh
            · exact absurd z0 z
          · rw [(hi.2.2 z).1, if_neg (by decide), (hi.2.2 z).2, if_neg (by decide)] at hh
            exact hh I3 hS3 frP_rf
        have pe : ∀ k : Nat, k < 100 → ¬ k = 0 → ((pI (opN P2) = nI k) ↔ opN P2 = k) := by
          intro k hk hk0
          have hlt : opN P2 < 2 ^ 31 := by
            rcases op_cs P2 with ⟨_, e⟩ | ⟨_, _, e⟩ | ⟨_, _, _, e⟩ | ⟨_, _, _, _, e⟩ | ⟨_, _, _, _, e⟩ <;> omega
          simp only [pI]
          split
          · rename_i h0
            constructor
            · intro q; exact absurd q.symm (nI_m1 (by omega))
            · intro q; omega
          · exact nI_eq hlt (by omega)
        have p5 : (pI (opN P2) = (5 : Int32)) ↔ opN P2 = 5 := pe 5 (by decide) (by decide)
        have p6 : (pI (opN P2) = (6 : Int32)) ↔ opN P2 = 6 := pe 6 (by decide) (by decide)
        have pm : (pI (opN P2) = -1) ↔ opN P2 = 0 := pI_m1 (by
          rcases op_cs P2 with ⟨_, e⟩ | ⟨_, _, e⟩ | ⟨_, _, _, e⟩ | ⟨_, _, _, _, e⟩ | ⟨_, _, _, _, e⟩ <;> omega)
        rw [p5, p6, pm, ps]
        rcases op_cs P2 with ⟨i1, e⟩ | ⟨i1, i2, e⟩ | ⟨i1, i2, i3, e⟩ | ⟨i1, i2, i3, i4, e⟩ | ⟨i1, i2, i3, i4, e⟩
        · rw [i1, if_pos rfl] at hh
          refine ⟨fun _ => ?_, fun z => absurd e z⟩
          rw [show pI (opN P2) = nI 5 by rw [e]; rfl]
          exact times 5 (Or.inl rfl) (isS_0 i1) hh
        · rw [i1, if_neg (by decide), i2, if_pos rfl] at hh
          refine ⟨fun z => by omega, fun _ => ⟨fun z => absurd e z, fun _ => ?_⟩⟩
          rw [show pI (opN P2) = nI 6 by rw [e]; rfl]
          exact times 6 (Or.inr rfl) (isS_0 i2) hh
        · rw [i1, if_neg (by decide), i2, if_neg (by decide)] at hh
          exact ⟨fun z => by omega, fun _ => ⟨fun _ => other _ rfl (by omega) (fun _ => isS_0 i3) hh ⟨fun _ => i3, fun q => by omega, fun q => by omega⟩, fun z => by omega⟩⟩
        · rw [i1, if_neg (by decide), i2, if_neg (by decide)] at hh
          exact ⟨fun z => by omega, fun _ => ⟨fun _ => other _ rfl (by omega) (fun _ => isS_0 i4) hh ⟨fun q => by omega, fun q => ⟨i3, i4⟩, fun q => by omega⟩, fun z => by omega⟩⟩
        · rw [i1, if_neg (by decide), i2, if_neg (by decide)] at hh
          exact ⟨fun z => by omega, fun _ => ⟨fun _ => other _ rfl (by omega) (fun z => absurd e z) hh ⟨fun q => by omega, fun q => by omega, fun q => ⟨i3, i4⟩⟩, fun z => by omega⟩⟩
      have t2 := k1.1.1
      have t3 := k1.1.2.1
      refine g_X4_expression_7 hK hs ⟨fun z => absurd z (nI_ge (b := 900) (by omega) (by omega)), fun _ => ?_⟩
      have cs : cnt s ≤ 1 := by simp only [cnt]; split <;> omega
      have cq : cnt q ≤ 1 := by simp only [cnt]; split <;> omega
      refine hF P1 I1 _ k1 k2 (by omega) hS1 (rC_bd hh (fun P2 I2 e2 hS2 f2 h2 => ⟨fun _ => ?_, fun z => absurd z (by decide)⟩) (fun I2 hq => ⟨fun z => absurd z (by decide), fun _ => hq⟩))
      have g := hFok _ _ k1 k2 (by omega) e2
      have pr := hFpr _ _ k1 k2 (by omega) e2
      have d2 := g.2.2.2.2.2
      have g3 := g.2.2.1
      have g4 := g.1.1.1.1
      have g5 := g.1.1.1.2.1
      rw [pI_m1 (show q < 2 ^ 31 by omega)]
      refine ⟨fun z => ?_, fun z => ⟨p, hR, hp, ?_⟩⟩
      · have c0 : cnt q = 0 := if_pos z
        rw [show pI q = -1 from if_pos z]
        refine mid m m' P2 I2 g.1.1 g.1.2 (by omega) (by omega) (by omega) (by omega) (by omega) hS2 ?_
        rw [show emO q P2 = P2 from if_pos z] at h2
        exact h2
      · have c1 : cnt q = 1 := if_neg z
        rw [show pI q = nI q from if_neg z]
        refine t_cem (a := 0) (m := 0) hs hp hn g.1.1 (by omega) hS2 (by omega) (by omega) (by omega) (fun I3 hS3 f3 => ?_)
        rw [show emO q P2 = em q 0 0 P2 from if_neg z] at h2
        have hdl : ∀ D, 1 ≤ D → dlt q D = D - 1 := by
          intro D _
          simp only [dlt]
          rw [if_neg (by omega), if_neg (by omega), if_pos (by omega)]
        refine mid m m' (em q 0 0 P2) I3 (em_okB g.1.1 (by omega)) (cd_em g.1.2 (by omega) (by omega) ?_ (Or.inr (Or.inr (Or.inr (Or.inl ⟨by omega, by omega, by show 2 ≤ dN P2; omega⟩))))) ?_ ?_ ?_ ?_ ?_ hS3 (rC_mono f3 h2)
        · show dlt q (dN P2) ≤ 40
          rw [hdl _ (by omega)]
          omega
        · rw [em_dN, hdl _ (by omega)]
          omega
        · rw [em_0 (by decide)]; omega
        · rw [em_4, em_0 (by decide)]; omega
        · rw [em_0 (by decide)]; omega
        · rw [em_0 (by decide)]; omega
  have sl := h1.2.1.1
  exact g_X4_expression_0 hK hs (head 900 0 901 901 0 0 P I (by omega) h1 h2 (Or.inl rfl) (Or.inl rfl) (by rw [hD0]; rfl) (by omega) (by show P 0 4 + 0 + 0 ≤ P 0 2; omega) (by omega) (by omega) hS h)
end CD
