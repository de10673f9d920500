/-! the reference's parser: E -/
section MB
variable {d : Nat} {J : HJ} {R : HR} {B : Nat → Nat} {n b dep : Nat} {F X : SP → RS}
def PRD (B : Nat → Nat) (n : Nat) (F : SP → RS) (P : SP) : RS := bd (F P) (prL B n F 901)
theorem PRD_ok (hF : FOK n b F) (hb : b ≤ 30) {P P' : SP} (h1 : okB n P) (h2 : cdP P) (h3 : dN P + 1 ≤ b) (h : PRD B n F P = .ok P') : grw n (dN P + 1) 0 P P' := by
  obtain ⟨P1, e1, e2⟩ := bd_ok h
  have g1 := hF _ _ h1 h2 (by omega) e1
  have d1 := g1.2.2.2.2.2
  have g2 := prL_ok hF hb 901 _ _ g1.1.1 g1.1.2 (by rw [d1]; omega) (by rw [d1]; omega) e2
  rw [d1] at g2
  exact grw_tr g1 g2
theorem t_mprod (hs : Stat R) (hn : n ≤ 900) (hB : ∀ j, B j < 256) (hFok : FOK n b F) (hb : b ≤ 30)
    (hF : ∀ (P : SP) (I : HI) (Q : Unit → HI → Prop), okB n P → cdP P → dN P ≤ b → bS I n B P → I 80 29 = nI dep → rD Q I n B dep (F P) → Wc fv (d + 7) M_X12_factor [.ref 80] I J R Q)
    {P : SP} {I : HI} {Q : Unit → HI → Prop} (h1 : okB n P) (h2 : cdP P) (h3 : dN P + 1 ≤ b) (hS : bS I n B P) (h29 : I 80 29 = nI dep) (h : rD Q I n B dep (PRD B n F P)) : Wc fv (d + 8) M_X12_product [.ref 80] I J R Q := by
  refine ⟨Nat.le_of_ble_eq_true rfl, fun K hK => ?_⟩
  have dead : ∀ I1 : HI, ¬ I1 80 9 = 0 → Q () I1 → K 4 [(0, .ref 80)] [] I1 J R := fun I1 hf hq => g_X12_product_4 hK hs (f_isSign hs hf ⟨fun z => absurd z (by decide), fun _ => f_isSign hs hf ⟨fun _ => hq, fun z => absurd z (by decide)⟩⟩)
  have loop : ∀ (m : Nat) (P1 : SP) (I1 : HI), okB n P1 → cdP P1 → 1 ≤ dN P1 → dN P1 ≤ b → 900 < m + P1 0 2 → bS I1 n B P1 → I1 80 29 = nI dep → rD Q I1 n B dep (prL B n F m P1) → K 4 [(0, .ref 80)] [] I1 J R := by
    intro m
    induction m with
    | zero =>
      intro P1 I1 k1 _ _ _ k5
      have := k1.1.1
      have := k1.1.2.1
      omega
    | succ m ih =>
      intro P1 I1 k1 k2 k3 k4 k5 hS1 k29 hh
      simp only [prL] at hh
      have step : ∀ op, (op = 5 ∨ op = 6) → ¬ P1 0 0 = 0 → rD Q I1 n B dep (bd (F (adv B n P1)) (fun P2 => prL B n F m (em op 0 0 P2))) → Wc fv (d + 7) M_X12_goOn [.ref 80] I1 J R (fun _ I3 => Wc fv (d + 7) M_X12_factor [.ref 80] I3 J R (fun _ I5 => Wc fv (d + 7) M_X12_writes [.ref 80, .int (nI op), .int 0, .int 0] I5 J R (fun _ I7 => K 4 [(0, .ref 80)] [] I7 J R))) := by
        intro op hop h0 hh
        have g := adv_grw (B := B) k1 k2 h0
        refine t_goOn hs hn hB k1.1.2.1 hS1 (fun I2 hS2 f2 => ?_)
        refine hF _ I2 _ g.1.1 g.1.2 (by rw [adv_dN]; exact k4) hS2 (by rw [f2.2 29 (by decide)]; exact k29) (rD_bd (rD_mono (frN_T f2) hh) (fun P3 I3 e3 hS3 q29 f3 h' => ?_) (fun e I3 hf f3 hq => f_writes hs hf.2.1 (dead I3 hf.2.1 (hq I3 hf f3))))
        have g2 := hFok _ _ g.1.1 g.1.2 (by rw [adv_dN]; exact k4) e3
        rw [adv_dN] at g2
        have g3 := grw_em (op := op) (a := 0) (m := 0) (K' := dN P1) k1 (grw_le (g' := 0 + 1) (by omega) (grw_tr g g2)) (by omega) (by omega) (Or.inr (Or.inr (Or.inr (Or.inl ⟨by omega, by omega, by show 2 ≤ dN P3; rw [g2.2.2.2.2.2]; omega⟩)))) (by simp only [dlt]; rw [if_neg (by omega), if_neg (by omega), if_pos (by omega)]; omega) (by omega)
        have s1 := g3.1.1.2.1.1
        have s2 := g3.1.1.1.1
        have s3 := g3.1.1.1.2.1
        rw [em_4] at s1
        rw [em_0 (by decide)] at s1 s2
        rw [em_0 (by decide)] at s2 s3
        refine t_mem (a := 0) (m := 0) hs (by omega) hS3 (fun I4 hS4 f4 q4 => ?_)
        have s4 := g.2.2.1
        rw [adv_f (by decide)] at s4
        have s5 := g2.2.2.1
        have s6 := g2.2.1
        refine ih _ I4 g3.1.1 g3.1.2 (by rw [g3.2.2.2.2.2]; exact k3) (by rw [g3.2.2.2.2.2]; exact k4) (by rw [em_0 (by decide)]; omega) hS4 (by rw [q4]; exact q29) (rD_mono f4 h')
      refine g_X12_product_4 hK hs ?_
      refine t_misS (c := 42) hs (by decide) k1 hS1 ⟨fun z => ?_, fun z => ?_⟩
      · rw [z, if_pos rfl] at hh
        refine g_X12_product_22 hK hs ?_
        rw [bS_w hS1 (Or.inr (isS_t z).1), (isS_t z).2]
        exact ⟨fun w => absurd rfl w, fun _ => step 5 (Or.inl rfl) (isS_0 z) hh⟩
      · rw [z, if_neg (by decide)] at hh
        refine t_misS (c := 47) hs (by decide) k1 hS1 ⟨fun y => ?_, fun y => ?_⟩
        · rw [y, if_neg (by decide)] at hh
          exact hh I1 hS1 k29 frN_rf
        · rw [y, if_pos rfl] at hh
          refine g_X12_product_22 hK hs ?_
          rw [bS_w hS1 (Or.inr (isS_t y).1), (isS_t y).2]
          exact ⟨fun _ => step 6 (Or.inr rfl) (isS_0 y) hh, fun w => absurd w (by decide)⟩
  refine g_X12_product_0 hK hs ?_
  refine hF P I _ h1 h2 (by omega) hS h29 (rD_bd h (fun P1 I1 e1 hS1 q29 f1 h' => ?_) (fun e I1 hf f1 hq => dead I1 hf.2.1 (hq I1 hf f1)))
  have g := hFok _ _ h1 h2 (by omega) e1
  exact loop 901 P1 I1 g.1.1 g.1.2 (by rw [g.2.2.2.2.2]; omega) (by rw [g.2.2.2.2.2]; omega) (by omega) hS1 q29 h'
theorem t_msum (hs : Stat R) (hn : n ≤ 900) (hB : ∀ j, B j < 256) (hFok : FOK n b F) (hb : b ≤ 30)
    (hF : ∀ (P : SP) (I : HI) (Q : Unit → HI → Prop), okB n P → cdP P → dN P ≤ b → bS I n B P → I 80 29 = nI dep → rD Q I n B dep (F P) → Wc fv (d + 7) M_X12_factor [.ref 80] I J R Q)
    {P : SP} {I : HI} {Q : Unit → HI → Prop} (h1 : okB n P) (h2 : cdP P) (h3 : dN P + 2 ≤ b) (hS : bS I n B P) (h29 : I 80 29 = nI dep) (h : rD Q I n B dep (exS B n F P)) : Wc fv (d + 9) M_X12_sum [.ref 80] I J R Q := by
  refine ⟨Nat.le_of_ble_eq_true rfl, fun K hK => ?_⟩
  have dead : ∀ I1 : HI, ¬ I1 80 9 = 0 → Q () I1 → K 4 [(0, .ref 80)] [] I1 J R := fun I1 hf hq => g_X12_sum_4 hK hs (f_isSign hs hf ⟨fun z => absurd z (by decide), fun _ => f_isSign hs hf ⟨fun _ => hq, fun z => absurd z (by decide)⟩⟩)
  have loop : ∀ (m : Nat) (P1 : SP) (I1 : HI), okB n P1 → cdP P1 → 1 ≤ dN P1 → dN P1 + 1 ≤ b → 900 < m + P1 0 2 → bS I1 n B P1 → I1 80 29 = nI dep → rD Q I1 n B dep (smL B n F m P1) → K 4 [(0, .ref 80)] [] I1 J R := by
    intro m
    induction m with
    | zero =>
      intro P1 I1 k1 _ _ _ k5
      have := k1.1.1
      have := k1.1.2.1
      omega
    | succ m ih =>
      intro P1 I1 k1 k2 k3 k4 k5 hS1 k29 hh
      simp only [smL] at hh
      have step : ∀ op, (op = 3 ∨ op = 4) → ¬ P1 0 0 = 0 → rD Q I1 n B dep (bd (F (adv B n P1)) (fun P2 => bd (prL B n F 901 P2) (fun P2 => smL B n F m (em op 0 0 P2)))) → Wc fv (d + 8) M_X12_goOn [.ref 80] I1 J R (fun _ I3 => Wc fv (d + 8) M_X12_product [.ref 80] I3 J R (fun _ I5 => Wc fv (d + 8) M_X12_writes [.ref 80, .int (nI op), .int 0, .int 0] I5 J R (fun _ I7 => K 4 [(0, .ref 80)] [] I7 J R))) := by
        intro op hop h0 hh
        rw [← bd_as] at hh
        have g := adv_grw (B := B) k1 k2 h0
        refine t_goOn hs hn hB k1.1.2.1 hS1 (fun I2 hS2 f2 => ?_)
        refine t_mprod hs hn hB hFok hb hF g.1.1 g.1.2 (by rw [adv_dN]; exact k4) hS2 (by rw [f2.2 29 (by decide)]; exact k29) (rD_bd (rD_mono (frN_T f2) hh) (fun P3 I3 e3 hS3 q29 f3 h' => ?_) (fun e I3 hf f3 hq => f_writes hs hf.2.1 (dead I3 hf.2.1 (hq I3 hf f3))))
        have g2 := PRD_ok (B := B) hFok hb g.1.1 g.1.2 (by rw [adv_dN]; exact k4) e3
        rw [adv_dN] at g2
        have g3 := grw_em (op := op) (a := 0) (m := 0) (K' := dN P1) k1 (grw_le (g' := 0 + 1) (by omega) (grw_tr g g2)) (by omega) (by omega) (Or.inr (Or.inr (Or.inr (Or.inl ⟨by omega, by omega, by show 2 ≤ dN P3; rw [g2.2.2.2.2.2]; omega⟩)))) (by simp only [dlt]; rw [if_neg (by omega), if_neg (by omega), if_pos (by omega)]; omega) (by omega)
        have s1 := g3.1.1.2.1.1
        have s2 := g3.1.1.1.1
        have s3 := g3.1.1.1.2.1
        rw [em_4] at s1
        rw [em_0 (by decide)] at s1 s2
        rw [em_0 (by decide)] at s2 s3
        refine t_mem (a := 0) (m := 0) hs (by omega) hS3 (fun I4 hS4 f4 q4 => ?_)
        have s4 := g.2.2.1
        rw [adv_f (by decide)] at s4
        have s5 := g2.2.2.1
        have s6 := g2.2.1
        exact ih _ I4 g3.1.1 g3.1.2 (by rw [g3.2.2.2.2.2]; exact k3) (by rw [g3.2.2.2.2.2]; exact k4) (by rw [em_0 (by decide)]; omega) hS4 (by rw [q4]; exact q29) (rD_mono f4 h')
      refine g_X12_sum_4 hK hs ?_
      refine t_misS (c := 43) hs (by decide) k1 hS1 ⟨fun z => ?_, fun z => ?_⟩
      · rw [z, if_pos rfl] at hh
        refine g_X12_sum_22 hK hs ?_
        rw [bS_w hS1 (Or.inr (isS_t z).1), (isS_t z).2]
        exact ⟨fun w => absurd rfl w, fun _ => step 3 (Or.inl rfl) (isS_0 z) hh⟩
      · rw [z, if_neg (by decide)] at hh
        refine t_misS (c := 45) hs (by decide) k1 hS1 ⟨fun y => ?_, fun y => ?_⟩
        · rw [y, if_neg (by decide)] at hh
          exact hh I1 hS1 k29 frN_rf
        · rw [y, if_pos rfl] at hh
          refine g_X12_sum_22 hK hs ?_
          rw [bS_w hS1 (Or.inr (isS_t y).1), (isS_t y).2]
          exact ⟨fun _ => step 4 (Or.inr rfl) (isS_0 y) hh, fun w => absurd w (by decide)⟩
  simp only [exS] at h
  rw [← bd_as] at h
  refine g_X12_sum_0 hK hs ?_
  refine t_mprod hs hn hB hFok hb hF h1 h2 (by omega) hS h29 (rD_bd h (fun P1 I1 e1 hS1 q29 f1 h' => ?_) (fun e I1 hf f1 hq => dead I1 hf.2.1 (hq I1 hf f1)))
  have g := PRD_ok (B := B) hFok hb h1 h2 (by omega) e1
  exact loop 901 P1 I1 g.1.1 g.1.2 (by rw [g.2.2.2.2.2]; omega) (by rw [g.2.2.2.2.2]; omega) (by omega) hS1 q29 h'
/-- needs: a sign, and on -/
theorem t_mneeds {c : Nat} {P : SP} {I : HI} {Q : Unit → HI → Prop} (hs : Stat R) (hn : n ≤ 900) (hB : ∀ j, B j < 256) (hc : c < 128) (h1 : okB n P) (hS : bS I n B P) (hq : isS c P = true → ∀ I', bS I' n B (adv B n P) → frT I I' → Q () I') (he : isS c P = false → ∀ I', fE I' (1, P 0 2) → frN I I' → Q () I') : Wc fv (d + 5) M_X12_needs [.ref 80, .int (nI c)] I J R Q := by
  refine e_X12_needs hs ⟨fun z => absurd hS.2.1.2.1 z, fun _ => ?_⟩
  refine t_misS hs hc h1 hS ⟨fun z => t_goOn hs hn hB h1.1.2.1 hS (fun I1 hS1 f1 => hq z I1 hS1 f1), fun z => ?_⟩
  exact t_mwrong (k := 1) hs (by omega) hS (fun I1 hf f1 => f_goOn hs hf.2.1 (he z I1 hf f1))
/-- the bracketed E of the reference -/
def BXC (d : Nat) (J : HJ) (R : HR) (B : Nat → Nat) (n b dep : Nat) (X : SP → RS) : Prop := ∀ (c : Nat) (P : SP) (I : HI) (Q : Unit → HI → Prop), c < 128 → okB n P → cdP P → dN P ≤ b → ¬ P 0 0 = 0 → bS I n B P → I 80 29 = nI dep → rD Q I n B dep (bd (X P) (fun P2 => clo c P2 (fun P2 => .ok (adv B n P2)))) → Wc fv d M_X12_bracket [.ref 80] I J R (fun _ I1 => Wc fv d M_X12_sum [.ref 80] I1 J R (fun _ I2 => Wc fv d M_X12_needs [.ref 80, .int (nI c)] I2 J R (fun _ I3 => Q () (up I3 80 29 (I3 80 29 - 1)))))
theorem t_bx0 (hs : Stat R) : BXC (d + 5) J R B n b 8 (fun P => flt 2 P) := by
  intro c P I Q _ h1 _ _ _ hS h29 h
  refine e_X12_bracket hs ⟨fun z => absurd hS.2.1.2.1 z, fun _ => ⟨fun z => absurd h29 z, fun _ => ?_⟩⟩
  refine t_mwrong (k := 2) hs (by omega) hS (fun I1 hf f1 => ?_)
  have hf1 := fE_f (k := 29) (x := I1 80 29 + 1) (by decide) (by decide) hf
  refine f_goOn hs hf1.2.1 ?_
  refine f_sum hs hf1.2.1 (f_needs hs hf1.2.1 ?_)
  exact h _ (fE_f (by decide) (by decide) hf1) (frN_f (by omega) (frN_f (by omega) f1))
theorem t_bxS (hs : Stat R) (hn : n ≤ 900) (hB : ∀ j, B j < 256) (hd : dep < 8) {b' : Nat} (hbb : b + 2 ≤ b') (hFok : FOK n b' F) (hb : b' ≤ 30)
    (hF : ∀ (P : SP) (I : HI) (Q : Unit → HI → Prop), okB n P → cdP P → dN P ≤ b' → bS I n B P → I 80 29 = nI (dep + 1) → rD Q I n B (dep + 1) (F P) → Wc fv (d + 7) M_X12_factor [.ref 80] I J R Q) : BXC (d + 9) J R B n b dep (fun P => exS B n F (adv B n P)) := by
  intro c P I Q hc h1 h2 h3 h0 hS h29 h
  refine e_X12_bracket hs ⟨fun z => absurd hS.2.1.2.1 z, fun _ => ?_⟩
  have c8 : (nI dep = (8 : Int32)) ↔ dep = 8 := nI_eq (b := 8) (by omega) (by decide)
  rw [h29, c8, nI_1]
  refine ⟨fun _ => ?_, fun z => by omega⟩
  have a1 := adv_okB (B := B) h1
  have a2 := adv_cd (B := B) (n := n) h2
  refine t_goOn hs hn hB h1.1.2.1 (bS_29 hS) (fun I1 hS1 f1 => ?_)
  have g29 : I1 80 29 = nI (dep + 1) := by rw [f1.2 29 (by decide), up_s]
  have fr1 : frN I I1 := frN_tr (frN_f (by omega) frN_rf) (frN_T f1)
  refine t_msum hs hn hB hFok hb hF a1 a2 (by rw [adv_dN]; omega) hS1 g29 ?_
  have sub : nI (dep + 1) - 1 = nI dep := nI_pred dep
  change rD Q I n B dep (bd (exS B n F (adv B n P)) (fun P2 => clo c P2 (fun P2 => .ok (adv B n P2)))) at h
  cases hx : exS B n F (adv B n P) with
  | ok P2 =>
    rw [hx] at h
    simp only [bd, clo] at h
    intro I2 hS2 q29 f2
    have k := exS_ok hFok hb a1 a2 (by rw [adv_dN]; omega) hx
    refine t_mneeds (d := d + 4) hs hn hB hc k.1.1 hS2 (fun z I3 hS3 f3 => ?_) (fun z I3 hf3 f3 => ?_)
    · rw [z, if_pos rfl] at h
      have e29 : I3 80 29 - 1 = nI dep := by rw [f3.2 29 (by decide), q29, sub]
      rw [e29]
      exact h _ (bS_29 hS3) up_s (frN_f (by omega) (frN_tr fr1 (frN_tr f2 (frN_T f3))))
    · rw [z, if_neg (by decide)] at h
      exact h _ (fE_f (by decide) (by decide) hf3) (frN_f (by omega) (frN_tr fr1 (frN_tr f2 f3)))
  | error e =>
    rw [hx] at h
    simp only [bd] at h
    intro I2 hf2 f2
    refine f_needs (d := d + 7) hs hf2.2.1 ?_
    exact h _ (fE_f (by decide) (by decide) hf2) (frN_f (by omega) (frN_tr fr1 f2))
/-- a number of the TEXT -/
theorem t_mnum {a c : Nat} {P : SP} {I : HI} {Q : Int32 → HI → Prop} (hs : Stat R) (hn : n ≤ 900) (hB : ∀ j, B j < 256) (ha : a ≤ 9999) (hc : c ≤ 9999) (h1 : okB n P) (hS : bS I n B P) (hq : P 0 0 = 2 → a ≤ P 0 1 → P 0 1 ≤ c → ∀ I', bS I' n B (adv B n P) → frT I I' → Q (nI (P 0 1)) I') (he : ∀ k, (∀ r, numS a c P r = flt k P) → ∀ I' x, fE I' (k, P 0 2) → frN I I' → Q x I') : Wc fi (d + 5) M_X12_numeral [.ref 80, .int (nI a), .int (nI c)] I J R Q := by
  refine ⟨Nat.le_of_ble_eq_true rfl, fun K hK => ?_⟩
  obtain ⟨_, _, hm⟩ := id hS.1
  have bad : ∀ k, 1 ≤ k ∧ k ≤ 3 → (∀ r, numS a c P r = flt k P) → Wc fv (d + 4) M_X12_wrong [.ref 80, .int (nI k)] I J R (fun _ I1 => K 46 [(0, .ref 80), (1, .int (nI a))] [] I1 J R) := by
    intro k hk hr
    refine t_mwrong (d := d + 3) hs hk hS (fun I1 hf f1 => ?_)
    exact g_X12_numeral_46 hK hs ⟨fun _ => f_goOn hs hf.2.1 (he k hr I1 _ hf f1), fun z => absurd z hf.2.1⟩
  refine g_X12_numeral_0 hK hs ⟨fun _ => ?_, fun z => absurd hS.2.1.2.1 z⟩
  have nn : ¬ P 0 0 = 2 → ∀ r, numS a c P r = flt 1 P := fun k r => by simp only [numS]; rw [if_neg k]
  rcases hm with ⟨k, e⟩ | ⟨k, e, _⟩ | ⟨k, e, r, e1, e2, e3⟩ | ⟨k, e, _⟩ | ⟨k, e⟩ | ⟨k, e, _⟩
  · refine ⟨fun z => ?_, fun _ => bad 1 (by omega) (nn (by omega))⟩
    rw [e] at z; exact absurd z (by decide)
  · refine ⟨fun z => ?_, fun _ => bad 1 (by omega) (nn (by omega))⟩
    rw [e] at z; exact absurd z (by decide)
  · refine ⟨fun _ => ?_, fun z => absurd e z⟩
    rw [e1, nI_ltI (by omega) (by omega), nI_leI (by omega) (by omega)]
    refine ⟨fun z => bad 2 (by omega) (fun r' => ?_), fun z => ⟨fun y => ?_, fun y => bad 2 (by omega) (fun r' => ?_)⟩⟩
    · simp only [numS]
      rw [if_pos k, if_pos (by omega)]
    · refine g_X12_numeral_46 hK hs ⟨fun w => absurd hS.2.1.2.1 w, fun _ => ?_⟩
      refine t_goOn hs hn hB h1.1.2.1 hS (fun I1 hS1 f1 => ?_)
      rw [e1, show r = P 0 1 by omega]
      exact hq k (by omega) (by omega) I1 hS1 f1
    · simp only [numS]
      rw [if_pos k, if_neg (by omega), if_neg (by omega)]
  · refine ⟨fun z => ?_, fun _ => bad 1 (by omega) (nn (by omega))⟩
    rw [e] at z; exact absurd z (by decide)
  · refine ⟨fun z => ?_, fun _ => bad 1 (by omega) (nn (by omega))⟩
    rw [e] at z; exact absurd z (by decide)
  · refine ⟨fun z => ?_, fun _ => bad 1 (by omega) (nn (by omega))⟩
    rw [e] at z; exact absurd z (by decide)
theorem t_mfac (hs : Stat R) (hn : n ≤ 900) (hB : ∀ j, B j < 256) (hX : XOK n b X) (hBX : BXC (d + 5) J R B n b dep X) (hBX6 : BXC (d + 6) J R B n b dep X)
    {P : SP} {I : HI} {Q : Unit → HI → Prop} (h1 : okB n P) (h2 : cdP P) (h3 : dN P ≤ b) (hS : bS I n B P) (h29 : I 80 29 = nI dep) (h : rD Q I n B dep (facG B n X P)) : Wc fv (d + 7) M_X12_factor [.ref 80] I J R Q := by
  have t2 := h1.1.1
  have t3 := h1.1.2.1
  have sl := h1.2.1.1
  have hc := h1.2.2.1
  simp only [facG] at h
  refine e_X12_factor hs ⟨fun _ => ?_, fun z => absurd hS.2.1.2.1 z⟩
  have k7 : (I 80 7 = (1 : Int32)) ↔ P 0 0 = 2 := by
    obtain ⟨_, _, hm⟩ := id hS.1
    rcases hm with ⟨k, e⟩ | ⟨k, e, _⟩ | ⟨k, e, _⟩ | ⟨k, e, _⟩ | ⟨k, e⟩ | ⟨k, e, _⟩ <;> rw [k, e] <;> decide
  rw [k7]
  refine ⟨fun z => ?_, fun z => ?_⟩
  · rw [if_neg z] at h
    refine t_misS (c := 40) hs (by decide) h1 hS ⟨fun y => ?_, fun y => ?_⟩
    · refine t_misN hs h1 hS ⟨fun w => ?_, fun w => ?_⟩
      · rw [w, if_neg (by decide)] at h
        simp only [clo] at h
        rw [y, if_neg (by decide)] at h
        exact t_mwrong (k := 1) hs (by omega) hS h
      · rw [w, if_pos rfl] at h
        have k1 := isNm_t w
        refine ⟨Nat.le_of_ble_eq_true rfl, fun K hK => ?_⟩
        refine g_X12_named_0 hK hs ?_
        refine t_mrow hs h1 hS k1 (t_mvar hs h1 hS k1 ?_)
        have a1 := adv_okB (B := B) h1
        have a2 := adv_cd (B := B) (n := n) h2
        have sl1 := adv_s (B := B) h1 (by omega)
        have a1t := a1.1.1
        have a1u := a1.1.2.1
        cases hr : rwO P with
        | some r =>
          rw [hr] at h
          simp only [clo] at h
          have hr8 := (rwO_s hr).1
          have nr : ¬ nI r = -1 := nI_m1 (by omega)
          refine ⟨fun _ => ?_, fun q => absurd q nr⟩
          refine g_X12_named_33 hK hs ?_
          refine t_goOn hs hn hB h1.1.2.1 hS (fun I1 hS1 f1 => ⟨fun _ => ?_, fun q => absurd q nr⟩)
          have g29 : I1 80 29 = nI dep := by rw [f1.2 29 (by decide)]; exact h29
          have h := rD_mono (frN_T f1) h
          refine t_misS (c := 91) hs (by decide) a1 hS1 ⟨fun q => ?_, fun q => ?_⟩
          · rw [q, if_pos rfl] at h
            have ad : dN (adv B n P) ≤ b := by rw [adv_dN]; exact h3
            refine hBX 93 (adv B n P) I1 (fun _ I2 => Wc fv (d + 5) M_X12_writes [.ref 80, .int 2, .int (nI r), .int 0] I2 J R (fun _ I3 => Q () I3)) (by decide) a1 a2 ad (isS_0 q) hS1 g29 ?_
            cases hx : X (adv B n P) with
            | ok P2 =>
              rw [hx] at h
              simp only [bd] at h ⊢
              have g2 := hX _ _ a1 a2 (isS_0 q) ad hx
              have s3 := g2.1.1.1.1
              have s4 := g2.2.2.1
              have s5 := g2.2.1
              by_cases q2 : isS 93 P2 = true
              · rw [q2, if_pos rfl] at h
                simp only [clo]
                rw [q2, if_pos rfl]
                intro I2 hS2 q29 f2
                have b1 := adv_okB (B := B) g2.1.1
                have b2 := b1.1.1
                have b3 := b1.1.2.1
                have b4 := adv_s (B := B) g2.1.1 (isS_0 q2)
                exact t_mem (op := 2) (m := 0) hs (by omega) hS2 (fun I3 hS3 f3 e3 => h I3 hS3 (by rw [e3]; exact q29) (frN_tr f2 f3))
              · rw [if_neg q2] at h
                simp only [clo]
                rw [if_neg q2]
                intro I2 hf f2
                exact f_writes hs hf.2.1 (h I2 hf f2)
            | error e =>
              rw [hx] at h
              simp only [bd] at h ⊢
              intro I2 hf f2
              exact f_writes hs hf.2.1 (h I2 hf f2)
          · rw [q, if_neg (by decide)] at h
            exact t_mwrong (k := 1) hs (by omega) hS1 h
        | none =>
          rw [hr] at h
          simp only at h
          refine ⟨fun q => absurd rfl q, fun _ => ?_⟩
          cases hv : vrO P with
          | some v =>
            rw [hv] at h
            simp only at h
            have hv8 := (vrO_s hv).1
            refine ⟨fun _ => ?_, fun q => absurd q (nI_m1 (by omega))⟩
            refine g_X12_named_33 hK hs ?_
            refine t_goOn hs hn hB h1.1.2.1 hS (fun I1 hS1 f1 => ⟨fun q => absurd rfl q, fun _ => ?_⟩)
            exact t_mem (op := 1) (m := 0) hs (by omega) hS1 (fun I3 hS3 f3 e3 => h I3 hS3 (by rw [e3, f1.2 29 (by decide)]; exact h29) (frN_tr (frN_T f1) f3))
          | none =>
            rw [hv] at h
            simp only at h
            refine ⟨fun q => absurd rfl q, fun _ => ?_⟩
            refine t_mwrong (k := 1) hs (by omega) hS (fun I1 hf f1 => ?_)
            refine g_X12_named_33 hK hs ?_
            exact f_goOn hs hf.2.1 ⟨fun q => absurd rfl q, fun _ => f_writes hs hf.2.1 (h I1 hf f1)⟩
    · have hnm : isNm P = false := by
        have := (isS_t y).1
        simp [isNm, this]
      rw [hnm, if_neg (by decide)] at h
      simp only [clo] at h
      rw [y, if_pos rfl] at h
      exact hBX6 41 P I (fun _ I3 => Q () I3) (by decide) h1 h2 h3 (isS_0 y) hS h29 h
  · rw [if_pos z] at h
    have hnn : ∀ k, numS 0 9999 P (fun P => .ok (adv B n (em 0 (P 0 1) 0 P))) = flt k P → (if P 0 1 ≤ 9999 then (.ok (adv B n (em 0 (P 0 1) 0 P)) : RS) else flt 2 P) = flt k P := by
      intro k hk
      simp only [numS] at hk
      rw [if_pos z, if_neg (by omega)] at hk
      exact hk
    have ak := h1.1.2.2.1 (show ¬ P 0 0 = 0 by omega)
    have a1 := adv_okB (B := B) h1
    have a1t := a1.1.1
    have a1u := a1.1.2.1
    refine t_mnum (a := 0) (c := 9999) (d := d + 1) hs hn hB (by decide) (by decide) h1 hS (fun _ _ y I1 hS1 f1 => ?_) (fun k hk I1 x hf f1 => ?_)
    · rw [if_pos y, adv_em] at h
      exact t_mem (op := 0) (m := 0) hs (by rw [adv_f (by decide)]; omega) hS1 (fun I3 hS3 f3 e3 => h I3 hS3 (by rw [e3, f1.2 29 (by decide)]; exact h29) (frN_tr (frN_T f1) f3))
    · rw [hnn k (hk _)] at h
      exact f_writes hs hf.2.1 (h I1 hf f1)
theorem t_mfacS (hs : Stat R) (hn : n ≤ 900) (hB : ∀ j, B j < 256) : ∀ (e : Nat), e ≤ 8 → ∀ (d : Nat) (P : SP) (I : HI) (Q : Unit → HI → Prop), okB n P → cdP P → dN P ≤ 19 - 2 * e → bS I n B P → I 80 29 = nI (8 - e) → rD Q I n B (8 - e) (facS B n e P) → Wc fv (d + 4 * e + 7) M_X12_factor [.ref 80] I J R Q
  | 0, _ => fun d P I Q h1 h2 h3 hS h29 h => t_mfac (dep := 8) (X := fun P => flt 2 P) (b := 19) hs hn hB (fun P P' _ _ _ _ h => by simp [flt] at h) (t_bx0 hs) (t_bx0 (d := d + 1) hs) h1 h2 h3 hS h29 h
  | e + 1, he => by
    intro d P I Q h1 h2 h3 hS h29 h
    have ih := t_mfacS hs hn hB e (by omega)
    have e8 : 8 - (e + 1) + 1 = 8 - e := by omega
    refine t_mfac (d := d + 4 * (e + 1)) (dep := 8 - (e + 1)) (X := fun P => exS B n (facS B n e) (adv B n P)) (b := 19 - 2 * (e + 1)) hs hn hB (xs_ok (by omega)) ?_ ?_ h1 h2 h3 hS h29 h
    · have := t_bxS (d := d + 4 * e) (J := J) (dep := 8 - (e + 1)) (b := 19 - 2 * (e + 1)) (b' := 19 - 2 * e) hs hn hB (by omega) (by omega) (fac_ok e (by omega)) (by omega) (by rw [e8]; exact ih d)
      exact this
    · have := t_bxS (d := d + 1 + 4 * e) (J := J) (dep := 8 - (e + 1)) (b := 19 - 2 * (e + 1)) (b' := 19 - 2 * e) hs hn hB (by omega) (by omega) (fac_ok e (by omega)) (by omega) (by rw [e8]; exact ih (d + 1))
      rw [show d + 1 + 4 * e + 9 = d + 4 * (e + 1) + 6 by omega] at this
      exact this
/-- a whole E -/
theorem t_mE (hs : Stat R) (hn : n ≤ 900) (hB : ∀ j, B j < 256) {P : SP} {I : HI} {Q : Unit → HI → Prop} (h1 : okB n P) (h2 : cdP P) (h3 : dN P ≤ 1) (hS : bS I n B P) (h : rM Q I n B (eS B n P)) : Wc fv (d + 42) M_X12_whole [.ref 80] I J R Q := by
  refine e_X12_whole hs ?_
  refine t_msum (d := d + 32) (dep := 0) (b := 3) hs hn hB (fac_ok 8 (by omega)) (by omega) (t_mfacS hs hn hB 8 (by omega) d) h1 h2 (by omega) (bS_29 hS) up_s ?_
  have h : rM Q I n B (exS B n (facS B n 8) P) := h
  cases hx : exS B n (facS B n 8) P with
  | ok P2 =>
    rw [hx] at h
    exact fun I2 a _ c => h I2 a (frN_tr (frN_f (by omega) frN_rf) c)
  | error e =>
    rw [hx] at h
    exact fun I2 a c => h I2 a (frN_tr (frN_f (by omega) frN_rf) c)
end MB
