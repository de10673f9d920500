/-! the reference's parser: a LINE, the TEXT -/
section ME2
variable {d : Nat} {I : HI} {J : HJ} {R : HR} {B : Nat → Nat} {n : Nat} {P : SP}
def liS (B : Nat → Nat) (n : Nat) (P : SP) : RS := bd (lnS B n P) (fun P1 => clo 59 P1 (fun P1 => .ok (up (adv B n P1) 0 5 (P1 0 5 + 1))))
theorem t_mline {Q : Unit → HI → Prop} (hs : Stat R) (hn : n ≤ 900) (hB : ∀ j, B j < 256) (h1 : okL n P) (h0 : ¬ P 0 0 = 0) (hS : bS I n B P) (h : rM Q I n B (liS B n P)) : Wc fv (d + 44) M_X12_readLine [.ref 80] I J R Q := by
  refine ⟨Nat.le_of_ble_eq_true rfl, fun K hK => ?_⟩
  have hc := h1.1.2.2.1
  have hL := late_ok h1
  have hl0 : up P 0 11 1 0 0 = P 0 0 := up_nk (by decide)
  have hl1 : up P 0 11 1 0 11 = 1 := up_s
  have hSl : bS (up I 80 28 1) n B (up P 0 11 1) := bS_f (k := 28) (j := 11) (v := 1) (Or.inr (Or.inr (Or.inr (Or.inl ⟨rfl, rfl⟩)))) hS
  have fl0 : frN I (up I 80 28 1) := frN_f (by omega) frN_rf
  have dead172 : ∀ e I1, fE I1 e → (∀ I2, fE I2 e → frN I1 I2 → Q () I2) → K 172 [(0, .ref 80)] [] I1 J R := fun e I1 hf hq => g_X12_readLine_172 hK hs ⟨fun _ => f_goOn hs hf.2.1 (hq _ (fE_f (by decide) (by decide) hf) (frN_f (by omega) frN_rf)), fun z => absurd z hf.2.1⟩
  have dead76 : ∀ e I1 x, fE I1 e → (∀ I2, fE I2 e → frN I1 I2 → Q () I2) → K 76 [(0, .ref 80), (1, .int x)] [] I1 J R := fun e I1 x hf hq => g_X12_readLine_76 hK hs ⟨fun _ => dead172 e I1 hf hq, fun z => absurd z hf.2.1⟩
  have fin : ∀ (P1 : SP) (I1 : HI), okB n P1 → bS I1 n B P1 → rM Q I1 n B (clo 59 P1 (fun P1 => .ok (up (adv B n P1) 0 5 (P1 0 5 + 1)))) → K 172 [(0, .ref 80)] [] I1 J R := by
    intro P1 I1 k1 hS1 h'
    simp only [clo] at h'
    refine g_X12_readLine_172 hK hs ⟨fun w => absurd hS1.2.1.2.1 w, fun _ => ?_⟩
    refine t_misS (c := 59) hs (by decide) k1 hS1 ⟨fun y => ?_, fun y => ?_⟩
    · rw [y, if_pos rfl] at h'
      refine t_goOn hs hn hB k1.1.2.1 hS1 (fun I2 hS2 f2 => ?_)
      have i3 : I2 80 3 = nI (P1 0 5) := by rw [hS2.2.2.1.2.1, adv_f (by decide)]
      rw [i3, nI_1]
      exact h' _ (bS_f (k := 3) (j := 5) (Or.inl ⟨rfl, rfl⟩) hS2) (frN_f (by omega) (frN_T f2))
    · rw [y, if_neg (by decide)] at h'
      exact t_mwrong (k := 1) hs (by omega) hS1 (fun I2 hf f2 => f_goOn hs hf.2.1 (h' _ (fE_f (by decide) (by decide) hf) (frN_f (by omega) f2)))
  have go : ∀ (I0 : HI) (r : RS), frN I I0 → lnS B n P = r → rM (fun _ I8 => K 172 [(0, .ref 80)] [] I8 J R) I0 n B r := by
    intro I0 r f0 hr
    have h := rM_mono f0 h
    simp only [liS] at h
    rw [hr] at h
    exact rM_bd h (fun P1 I1 e1 hS1 f1 h' => fin P1 I1 (lnS_ok h1 hn h0 (hr.trans e1)).1.1 hS1 h') (fun e I1 hf f1 hq => dead172 e I1 hf (fun I2 hf2 f2 => hq I2 hf2 (frN_tr f1 f2)))
  have bad : lnS B n P = flt 1 P → ∀ I0, fE I0 (1, P 0 2) → frN I I0 → ∀ x, K 76 [(0, .ref 80), (1, .int x)] [] I0 J R := by
    intro hr I0 hf f0 x
    simp only [liS] at h
    rw [hr] at h
    exact dead76 _ I0 x hf (fun I2 hf2 f2 => h I2 hf2 (frN_tr f0 f2))
  have badW : lnS B n P = flt 1 P → Wc fv (d + 43) M_X12_wrong [.ref 80, .int 1] I J R (fun _ I7 => ((¬ (I7 80 9) = 0 → K 76 [(0, .ref 80), (1, .int (I7 80 8))] [] I7 J R) ∧ ((I7 80 9) = 0 → (((I7 80 8) = 257 → K 44 [(0, .ref 80), (1, .int (I7 80 8))] [] I7 J R) ∧ (¬ (I7 80 8) = 257 → (((I7 80 8) = 13550 → K 44 [(0, .ref 80), (1, .int (I7 80 8))] [] I7 J R) ∧ (¬ (I7 80 8) = 13550 → ((¬ (I7 80 8) = 900000 → K 76 [(0, .ref 80), (1, .int (I7 80 8))] [] I7 J R) ∧ ((I7 80 8) = 900000 → K 44 [(0, .ref 80), (1, .int (I7 80 8))] [] I7 J R))))))))) := fun hr => t_mwrong (k := 1) (d := d + 42) hs (by omega) hS (fun I1 hf f1 => ⟨fun _ => bad hr I1 hf f1 _, fun z => absurd z hf.2.1⟩)
  refine g_X12_readLine_0 hK hs ?_
  obtain ⟨_, _, hm⟩ := id hS.1
  rcases hm with ⟨k, e⟩ | ⟨k, e, e8⟩ | ⟨k, e, _⟩ | ⟨k, e, _⟩ | ⟨k, e⟩ | ⟨k, e, e8⟩
  · exact absurd k h0
  · refine ⟨fun _ => ⟨fun w => absurd hS.2.1.2.1 w, fun _ => ?_⟩, fun w => absurd e w⟩
    have hw := h1.1.1.2.2.2.2.1 k
    rw [e8]
    have ee : ∀ x : Nat, x < 1000000 → ((nI (P 0 1) = nI x) ↔ P 0 1 = x) := fun x hx => nI_eq (by omega) (by omega)
    have e1 : (nI (P 0 1) = (257 : Int32)) ↔ P 0 1 = 257 := ee 257 (by decide)
    have e2 : (nI (P 0 1) = (13550 : Int32)) ↔ P 0 1 = 13550 := ee 13550 (by decide)
    have e3 : (nI (P 0 1) = (247552 : Int32)) ↔ P 0 1 = 247552 := ee 247552 (by decide)
    have e4 : (nI (P 0 1) = (249 : Int32)) ↔ P 0 1 = 249 := ee 249 (by decide)
    have e5 : (nI (P 0 1) = (107681 : Int32)) ↔ P 0 1 = 107681 := ee 107681 (by decide)
    have e6 : (nI (P 0 1) = (4027 : Int32)) ↔ P 0 1 = 4027 := ee 4027 (by decide)
    have e7 : (nI (P 0 1) = (11522 : Int32)) ↔ P 0 1 = 11522 := ee 11522 (by decide)
    have e9 : (nI (P 0 1) = (900000 : Int32)) ↔ P 0 1 = 900000 := ee 900000 (by decide)
    rw [e1, e2, e9]
    refine ⟨fun z => ?_, fun z1 => ⟨fun z => ?_, fun z2 => ⟨fun _ => ?_, fun w => by omega⟩⟩⟩
    · refine g_X12_readLine_44 hK hs ?_
      rw [e1]
      refine ⟨fun w => absurd z w, fun _ => t_min (d := d + 37) hs hn hB h1 hS (go I _ frN_rf ?_)⟩
      simp only [lnS]
      rw [if_neg (by omega), if_pos k, if_pos z]
    · refine g_X12_readLine_44 hK hs ?_
      rw [e1, e9]
      refine ⟨fun _ => ⟨fun _ => t_mrowL (d := d + 37) (y := false) hs hn hB h1 hS (go I _ frN_rf ?_), fun w => by omega⟩, fun w => by omega⟩
      simp only [lnS]
      rw [if_neg (by omega), if_pos k, if_neg z1, if_pos z]
      rfl
    · refine g_X12_readLine_76 hK hs ⟨fun w => absurd hS.2.1.2.1 w, fun _ => ?_⟩
      rw [e3, e4, e5, e6, e7]
      refine ⟨fun y3 => ⟨fun y4 => ⟨fun y5 => ⟨fun y6 => ⟨fun y7 => ?_, fun y => ?_⟩, fun y => ?_⟩, fun y => ?_⟩, fun y => ?_⟩, fun y => ?_⟩
      · refine t_mas (d := d) hs hn hB hL (by rw [hl0]; exact k) ?_ hl1 hSl (go _ _ fl0 ?_)
        · simp only [isNm]
          rw [up_nk (by decide), up_nk (by decide), k, show ownW (P 0 1) = false from decide_eq_false (by omega)]
          rfl
        · simp only [lnS]
          rw [if_neg (by omega), if_pos k, if_neg z1, if_neg z2, if_neg y3, if_neg y4, if_neg y5, if_neg y6, if_neg y7]
      · refine t_mout (d := d + 1) (Q := fun _ I8 => K 172 [(0, .ref 80)] [] I8 J R) hs hn hB hL (by rw [hl0]; exact h0) hSl (go _ _ fl0 ?_)
        simp only [lnS]
        rw [if_neg (by omega), if_pos k, if_neg z1, if_neg z2, if_neg y3, if_neg y4, if_neg y5, if_neg y6, if_pos y]
      · refine t_mend (d := d + 38) hs hn hB hL (by rw [hl0]; exact h0) hSl (go _ _ fl0 ?_)
        simp only [lnS]
        rw [if_neg (by omega), if_pos k, if_neg z1, if_neg z2, if_neg y3, if_neg y4, if_neg y5, if_pos y]
      · refine t_mels (d := d + 38) hs hn hB hL (by rw [hl0]; exact h0) hSl (go _ _ fl0 ?_)
        simp only [lnS]
        rw [if_neg (by omega), if_pos k, if_neg z1, if_neg z2, if_neg y3, if_neg y4, if_pos y]
      · refine t_mif (d := d) hs hn hB hL (by rw [hl0]; exact h0) hSl (go _ _ fl0 ?_)
        simp only [lnS]
        rw [if_neg (by omega), if_pos k, if_neg z1, if_neg z2, if_neg y3, if_pos y]
      · refine t_mlop (d := d + 37) hs hn hB hL (by rw [hl0]; exact k) hl1 hSl (go _ _ fl0 ?_)
        simp only [lnS]
        rw [if_neg (by omega), if_pos k, if_neg z1, if_neg z2, if_pos y]
  · refine ⟨fun w => ?_, fun _ => badW (by simp only [lnS]; rw [if_neg (by omega), if_neg (by omega)])⟩
    rw [e] at w; exact absurd w (by decide)
  · refine ⟨fun w => ?_, fun _ => badW (by simp only [lnS]; rw [if_neg (by omega), if_neg (by omega)])⟩
    rw [e] at w; exact absurd w (by decide)
  · refine ⟨fun w => ?_, fun _ => badW (by simp only [lnS]; rw [if_neg (by omega), if_neg (by omega)])⟩
    rw [e] at w; exact absurd w (by decide)
  · refine ⟨fun _ => ⟨fun w => absurd hS.2.1.2.1 w, fun _ => ?_⟩, fun w => absurd e w⟩
    rw [e8]
    refine ⟨fun w => absurd w (by decide), fun _ => ⟨fun w => absurd w (by decide), fun _ => ⟨fun w => absurd rfl w, fun _ => ?_⟩⟩⟩
    refine g_X12_readLine_44 hK hs ⟨fun _ => ⟨fun w => absurd rfl w, fun _ => t_mrowL (d := d + 37) (y := true) hs hn hB h1 hS (go I _ frN_rf ?_)⟩, fun w => absurd w (by decide)⟩
    simp only [lnS]
    rw [if_pos k]
    rfl
theorem t_mreadText {Q : Unit → HI → Prop} (hs : Stat R) (hn : n ≤ 900) (hB : ∀ j, B j < 256) (hb : ∀ j, j < n → I 81 j = nI (B j)) (h : rM Q I n B (paS B n)) : Wc fv (d + 45) M_X12_readText [.ref 80, .int (nI n)] I J R Q := by
  refine ⟨Nat.le_of_ble_eq_true rfl, fun K hK => ?_⟩
  have dead : ∀ e I1, fE I1 e → Q () I1 → K 23 [(0, .ref 80)] [] I1 J R := fun e I1 hf hq => g_X12_readText_23 hK hs ⟨fun _ => ⟨fun _ => hq, fun _ => f_wrong hs hf.2.1 hq⟩, fun z => absurd z hf.2.1⟩
  have loop : ∀ (m : Nat) (P1 : SP) (I1 : HI), okL n P1 → 900 < m + P1 0 2 → bS I1 n B P1 → frN I I1 → rM Q I1 n B (lsS B n m P1) → K 23 [(0, .ref 80)] [] I1 J R := by
    intro m
    induction m with
    | zero =>
      intro P1 I1 k1 k2
      have := k1.1.1.1
      have := k1.1.1.2.1
      omega
    | succ m ih =>
      intro P1 I1 k1 k2 hS1 f1 h
      have hc := k1.1.2.2.1
      simp only [lsS] at h
      refine g_X12_readText_23 hK hs ⟨fun w => absurd hS1.2.1.2.1 w, fun _ => ?_⟩
      have c7 : (I1 80 7 = (3 : Int32)) ↔ P1 0 0 = 0 := by
        obtain ⟨_, _, hm⟩ := id hS1.1
        rcases hm with ⟨k, e⟩ | ⟨k, e, _⟩ | ⟨k, e, _⟩ | ⟨k, e, _⟩ | ⟨k, e⟩ | ⟨k, e, _⟩ <;> rw [k, e] <;> decide
      have c27 : (I1 80 27 ≤ (0 : Int32)) ↔ P1 0 10 = 0 := by rw [hS1.2.2.1.2.2.2.2.2.2.1, show (0 : Int32) = nI 0 from rfl, nI_leI (by omega) (by decide)]; omega
      rw [c7, c27]
      refine ⟨fun z => ?_, fun z => ?_⟩
      · rw [if_pos z] at h
        refine ⟨fun y => ?_, fun y => ?_⟩
        · rw [if_pos y] at h
          exact h I1 hS1 frN_rf
        · rw [if_neg y] at h
          exact t_mwrong (k := 1) hs (by omega) hS1 h
      · rw [if_neg z] at h
        refine t_mline (d := d) hs hn hB k1 z hS1 ?_
        simp only [liS]
        cases hl : lnS B n P1 with
        | error e =>
          rw [hl] at h
          simp only [bd] at h ⊢
          exact fun I2 hf f2 => dead e I2 hf (h I2 hf f2)
        | ok P2 =>
          rw [hl] at h
          simp only [bd, clo] at h ⊢
          have l := lnS_ok k1 hn z hl
          by_cases y : isS 59 P2 = true
          · rw [if_pos y] at h ⊢
            obtain ⟨m1, m2⟩ := nxt_ok (B := B) l.1 y
            have := l.2.1
            exact fun I2 hS2 f2 => ih _ I2 m1 (by omega) hS2 (frN_tr f1 f2) (rM_mono f2 h)
          · rw [if_neg y] at h ⊢
            exact fun I2 hf f2 => dead _ I2 hf (h I2 hf f2)
  refine g_X12_readText_0 hK hs ?_
  refine e_X12_freshText hs ?_
  have q0 : ∀ k, (k = 3 ∨ k = 14 ∨ k = 15 ∨ k = 19 ∨ k = 20 ∨ k = 24 ∨ k = 27 ∨ k = 28 ∨ k = 5 ∨ k = 9) → up (up (up (up (up (up (up (up (up (up (up I 80 4 (nI n)) 80 5 0) 80 9 0) 80 3 0) 80 14 0) 80 15 0) 80 19 0) 80 20 0) 80 24 0) 80 27 0) 80 28 0 80 k = 0 := by
    intro k hk
    rcases hk with rfl | rfl | rfl | rfl | rfl | rfl | rfl | rfl | rfl | rfl <;> simp [up_ap]
  have q4 : up (up (up (up (up (up (up (up (up (up (up I 80 4 (nI n)) 80 5 0) 80 9 0) 80 3 0) 80 14 0) 80 15 0) 80 19 0) 80 20 0) 80 24 0) 80 27 0) 80 28 0 80 4 = nI n := by simp [up_ap]
  have qc : ∀ c, ¬ c = 80 → up (up (up (up (up (up (up (up (up (up (up I 80 4 (nI n)) 80 5 0) 80 9 0) 80 3 0) 80 14 0) 80 15 0) 80 19 0) 80 20 0) 80 24 0) 80 27 0) 80 28 0 c = I c := fun c hc => by
    rw [up_ne _ _ _ _ hc, up_ne _ _ _ _ hc, up_ne _ _ _ _ hc, up_ne _ _ _ _ hc, up_ne _ _ _ _ hc, up_ne _ _ _ _ hc, up_ne _ _ _ _ hc, up_ne _ _ _ _ hc, up_ne _ _ _ _ hc, up_ne _ _ _ _ hc, up_ne _ _ _ _ hc]
  have qf : frN I (up (up (up (up (up (up (up (up (up (up (up I 80 4 (nI n)) 80 5 0) 80 9 0) 80 3 0) 80 14 0) 80 15 0) 80 19 0) 80 20 0) 80 24 0) 80 27 0) 80 28 0) := frN_f (by omega) (frN_f (by omega) (frN_f (by omega) (frN_f (by omega) (frN_f (by omega) (frN_f (by omega) (frN_f (by omega) (frN_f (by omega) (frN_f (by omega) (frN_f (by omega) (frN_f (by omega) frN_rf))))))))))
  generalize up (up (up (up (up (up (up (up (up (up (up I 80 4 (nI n)) 80 5 0) 80 9 0) 80 3 0) 80 14 0) 80 15 0) 80 19 0) 80 20 0) 80 24 0) 80 27 0) 80 28 0 = I2 at q0 q4 qc qf
  have hb2 : ∀ j, j < n → I2 81 j = nI (B j) := by rw [qc 81 (by decide)]; exact hb
  refine t_token (p := 0) hs hn (by omega) q4 (q0 5 (by decide)) hb2 hB (fun I3 f3 g3 => ?_)
  have hS3 : bS I3 n B (adv B n (fun _ _ => 0)) := by
    refine ⟨mtR_cg (fun j hj => adv_t hj) g3, ?_, ?_, ?_, ?_, ?_, ?_⟩
    · rw [f3.2 4 (by decide), f3.2 9 (by decide), f3.1 81 (by decide)]
      exact ⟨q4, q0 9 (by decide), hb2⟩
    · rw [f3.2 24 (by decide), f3.2 3 (by decide), f3.2 15 (by decide), f3.2 14 (by decide), f3.2 19 (by decide), f3.2 20 (by decide), f3.2 27 (by decide), f3.2 28 (by decide), adv_f (by decide), adv_f (by decide), adv_f (by decide), adv_f (by decide), adv_f (by decide), adv_f (by decide), adv_f (by decide), adv_f (by decide)]
      exact ⟨q0 24 (by decide), q0 3 (by decide), q0 15 (by decide), q0 14 (by decide), q0 19 (by decide), q0 20 (by decide), q0 27 (by decide), q0 28 (by decide)⟩
    · rw [adv_f (by decide)]; exact fun i hi => absurd hi (Nat.not_lt_zero _)
    · rw [adv_f (by decide)]; exact fun i hi => absurd hi (Nat.not_lt_zero _)
    · rw [adv_f (by decide)]; exact fun i hi => absurd hi (Nat.not_lt_zero _)
    · rw [adv_f (by decide)]; exact fun i hi => absurd hi (Nat.not_lt_zero _)
  exact loop 901 _ I3 beg_ok (by omega) hS3 (frN_tr qf (frN_T f3)) (rM_mono (frN_tr qf (frN_T f3)) h)
/-- the program begins -/
theorem t_mbegins {Q : Unit → HI → HJ → Prop} (hs : Stat R) (hw : wfG (GP P) (dpF (P 1)) (nlF (P 1))) (hS : bS I n B P) (h : ∀ I' J', rQ I' J' R (GP P) (theRun (GP P) (fun _ => 0)) → (∀ j, j < 4 → J' 91 j = lN 0) → (∀ a, ¬ a = 80 → (a < 84 ∨ 108 < a) → I' a = I a) → (∀ k, (k < 30 ∨ 61 < k) → I' 80 k = I 80 k) → (∀ a, (a < 91 ∨ 108 < a) → J' a = J a) → Q () I' J') : Wd fv (d + 6) M_X12_begins [.ref 80] I J R Q := by
  refine ⟨Nat.le_of_ble_eq_true rfl, fun K hK => ?_⟩
  obtain ⟨s1, s2, s3, s4, s5, s6, s7⟩ := hS
  have h900 : P 0 4 ≤ 900 := hw.2.2.2.2.1
  have h4 : P 0 6 ≤ 4 := hw.2.2.2.2.2.1
  have h6 : P 0 8 ≤ 6 := hw.2.2.2.2.2.2.2.2.1
  -- what has been done to I
  have run : ∀ (m i : Nat) (I1 : HI) (J1 : HJ), i + m = 4 → pM I1 (GP P) → (∀ j, j < i → J1 91 j = lN 0) → (∀ a, ¬ a = 80 → (a < 84 ∨ 88 < a) → I1 a = I a) → (∀ k, (k < 30 ∨ 35 < k) → I1 80 k = I 80 k) → (∀ a, ¬ a = 91 → J1 a = J a) → K 160 [(0, .ref 80), (1, .int (nI i))] [] I1 J1 R := by
    intro m
    induction m with
    | zero =>
      intro i I1 J1 hi k1 k2 k3 k4 k5
      have : i = 4 := by omega
      subst this
      refine g_X12_begins_160 hK hs ⟨fun _ => ?_, fun z => absurd (by decide) z⟩
      refine t_runs (inp := fun _ => 0) hs hw k1 (fun j _ => by decide) (fun j hj => k2 j (by have : GP P 3 2 = P 0 6 := rfl; omega)) (fun I' J' g1 g2 g3 => ?_)
      refine h I' J' ⟨hs, pM_fr g3 k1, g1, g2⟩ (fun j hj => by rw [g3.2.2 91 (by decide)]; exact k2 j hj) (fun a a1 a2 => (g3.1 a a1 (by omega)).trans (k3 a a1 (by omega))) (fun k hk => (g3.2.1 k (by omega)).trans (k4 k (by omega))) (fun a ha => (g3.2.2 a (by omega)).trans (k5 a (by omega)))
    | succ m ih =>
      intro i I1 J1 hi k1 k2 k3 k4 k5
      refine g_X12_begins_160 hK hs ⟨fun z => absurd z (nI_ge (b := 4) (by omega) (by decide)), fun _ => ⟨i, rfl, by omega, ?_⟩⟩
      rw [nI_1]
      refine ih (i + 1) I1 _ (by omega) k1 (fun j hj => ?_) k3 k4 (fun a ha => (up_ne _ _ _ _ ha).trans (k5 a ha))
      by_cases hji : j = i
      · rw [hji, up_s]; rfl
      · rw [up_nk hji]; exact k2 j (by omega)
  have rows : ∀ (m i : Nat) (I1 : HI), i + m = P 0 8 → (I1 80 35 = nI (P 0 4) ∧ I1 80 30 = nI (P 0 5) ∧ I1 80 31 = nI (P 0 6) ∧ I1 80 32 = nI (P 0 7) ∧ I1 80 33 = nI (P 0 8) ∧ I1 80 34 = nI (P 0 9)) → (∀ j, j < P 0 4 → I1 86 j = nI (P 1 j) ∧ I1 87 j = nI (P 2 j) ∧ I1 88 j = nI (P 3 j)) → (∀ r, r < i → I1 84 r = nI (P 6 r) ∧ I1 85 r = nI (P 7 r)) → (∀ r, 6 ≤ r → I1 84 r = I 84 r ∧ I1 85 r = I 85 r) → (∀ a, ¬ a = 80 → (a < 84 ∨ 88 < a) → I1 a = I a) → (∀ k, (k < 30 ∨ 35 < k) → I1 80 k = I 80 k) → K 114 [(0, .ref 80), (1, .int (nI i))] [] I1 J R := by
    intro m
    induction m with
    | zero =>
      intro i I1 hi k1 k2 k3 k4 k5 k6
      have : i = P 0 8 := by omega
      subst this
      refine g_X12_begins_114 hK hs ?_
      rw [k6 19 (by decide), s3.2.2.2.2.1]
      refine ⟨fun _ => run 4 0 I1 J rfl ⟨k1.1, k1.2.1, k1.2.2.1, k1.2.2.2.1, k1.2.2.2.2.1, k1.2.2.2.2.2, k2, k3⟩ (fun j hj => absurd hj (by omega)) k5 k6 (fun _ _ => rfl), fun z => absurd (nI_le (Nat.le_refl _) (by omega)) z⟩
    | succ m ih =>
      intro i I1 hi k1 k2 k3 k4 k5 k6
      refine g_X12_begins_114 hK hs ?_
      rw [k6 19 (by decide), s3.2.2.2.2.1, show (6 : Int32) + nI i = nI (6 + i) from nI_add 6 i, nI_1]
      refine ⟨fun z => absurd z (nI_ge (by omega) (by omega)), fun _ => ⟨6 + i, rfl, by omega, i, rfl, by omega, ?_⟩⟩
      have s5i := s5 i (by omega)
      rw [(k4 (6 + i) (by omega)).1, s5i.1, (k4 (6 + i) (by omega)).2, s5i.2.1]
      refine ih (i + 1) _ (by omega) ?_ (fun j hj => ?_) (fun r hr => ?_) (fun r hr => ?_) (fun a a1 a2 => ?_) (fun k hk => ?_)
      · rw [up_na (by decide), up_na (by decide), up_na (by decide), up_na (by decide), up_na (by decide), up_na (by decide), up_na (by decide), up_na (by decide), up_na (by decide), up_na (by decide), up_na (by decide), up_na (by decide)]; exact k1
      · rw [up_na (by decide), up_na (by decide), up_na (by decide), up_na (by decide), up_na (by decide), up_na (by decide)]; exact k2 j hj
      · simp only [up_ap]
        by_cases hri : r = i
        · rw [if_neg (by omega), if_pos ⟨trivial, hri⟩, if_pos ⟨trivial, hri⟩, hri]
          exact ⟨rfl, rfl⟩
        · rw [if_neg (by omega), if_neg (by omega), if_neg (by omega), if_neg (by omega)]
          exact k3 r (by omega)
      · simp only [up_ap]
        rw [if_neg (by omega), if_neg (by omega), if_neg (by omega), if_neg (by omega)]
        exact k4 r hr
      · rw [up_ne _ _ _ _ (by omega), up_ne _ _ _ _ (by omega)]; exact k5 a a1 a2
      · rw [up_na (by decide), up_na (by decide)]; exact k6 k hk
  have code : ∀ (m i : Nat) (I1 : HI), i + m = P 0 4 → (I1 80 35 = nI (P 0 4) ∧ I1 80 30 = nI (P 0 5) ∧ I1 80 31 = nI (P 0 6) ∧ I1 80 32 = nI (P 0 7) ∧ I1 80 33 = nI (P 0 8) ∧ I1 80 34 = nI (P 0 9)) → (∀ j, j < i → I1 86 j = nI (P 1 j) ∧ I1 87 j = nI (P 2 j) ∧ I1 88 j = nI (P 3 j)) → (∀ j, 1000 ≤ j → I1 86 j = I 86 j ∧ I1 87 j = I 87 j ∧ I1 88 j = I 88 j) → (∀ a, ¬ a = 80 → (a < 86 ∨ 88 < a) → I1 a = I a) → (∀ k, (k < 30 ∨ 35 < k) → I1 80 k = I 80 k) → K 50 [(0, .ref 80), (1, .int (nI i))] [] I1 J R := by
    intro m
    induction m with
    | zero =>
      intro i I1 hi k1 k2 k4 k5 k6
      have : i = P 0 4 := by omega
      subst this
      refine g_X12_begins_50 hK hs ?_
      rw [k6 24 (by decide), s3.1]
      refine ⟨fun _ => rows (P 0 8) 0 I1 (by omega) k1 k2 (fun r hr => absurd hr (by omega)) (fun r _ => by rw [k5 84 (by decide) (by decide), k5 85 (by decide) (by decide)]; exact ⟨rfl, rfl⟩) (fun a a1 a2 => k5 a a1 (by omega)) k6, fun z => absurd (nI_le (Nat.le_refl _) (by omega)) z⟩
    | succ m ih =>
      intro i I1 hi k1 k2 k4 k5 k6
      refine g_X12_begins_50 hK hs ?_
      rw [k6 24 (by decide), s3.1, show (1000 : Int32) + nI i = nI (1000 + i) from nI_add 1000 i, nI_1]
      refine ⟨fun z => absurd z (nI_ge (by omega) (by omega)), fun _ => ⟨1000 + i, rfl, by omega, i, rfl, by omega, ?_⟩⟩
      have s4i := s4 i (by omega)
      have k4i := k4 (1000 + i) (by omega)
      rw [k4i.1, s4i.1, k4i.2.1, s4i.2.1, k4i.2.2, s4i.2.2]
      refine ih (i + 1) _ (by omega) ?_ (fun j hj => ?_) (fun j hj => ?_) (fun a a1 a2 => ?_) (fun k hk => ?_)
      · have e : ∀ k, up (up (up I1 86 i (nI (P 1 i))) 87 i (nI (P 2 i))) 88 i (nI (P 3 i)) 80 k = I1 80 k := fun k => by rw [up_na (by decide), up_na (by decide), up_na (by decide)]
        rw [e, e, e, e, e, e]; exact k1
      · simp only [up_ap]
        by_cases hji : j = i
        · rw [if_neg (by omega), if_neg (by omega), if_pos ⟨trivial, hji⟩, if_neg (by omega), if_pos ⟨trivial, hji⟩, if_pos ⟨trivial, hji⟩, hji]
          exact ⟨rfl, rfl, rfl⟩
        · rw [if_neg (by omega), if_neg (by omega), if_neg (by omega), if_neg (by omega), if_neg (by omega), if_neg (by omega), if_neg (by omega), if_neg (by omega), if_neg (by omega)]
          exact k2 j (by omega)
      · simp only [up_ap]
        rw [if_neg (by omega), if_neg (by omega), if_neg (by omega), if_neg (by omega), if_neg (by omega), if_neg (by omega), if_neg (by omega), if_neg (by omega), if_neg (by omega)]
        exact k4 j hj
      · rw [up_ne _ _ _ _ (by omega), up_ne _ _ _ _ (by omega), up_ne _ _ _ _ (by omega)]; exact k5 a a1 a2
      · rw [up_na (by decide), up_na (by decide), up_na (by decide)]; exact k6 k hk
  refine g_X12_begins_0 hK hs ?_
  refine code (P 0 4) 0 _ (by omega) ?_ (fun j hj => absurd hj (by omega)) (fun j _ => ?_) (fun a a1 _ => ?_) (fun k hk => ?_)
  · simp [up_ap, s3.1, s3.2.1, s3.2.2.1, s3.2.2.2.1, s3.2.2.2.2.1, s3.2.2.2.2.2.1]
  · simp [up_ap]
  · rw [up_ne _ _ _ _ a1, up_ne _ _ _ _ a1, up_ne _ _ _ _ a1, up_ne _ _ _ _ a1, up_ne _ _ _ _ a1, up_ne _ _ _ _ a1]
  · rw [up_nk (by omega), up_nk (by omega), up_nk (by omega), up_nk (by omega), up_nk (by omega), up_nk (by omega)]
end ME2
