/-! cost of the reference -/
theorem hb_bit {T : SP} {k s : Nat} : hbM T (2 ^ k) s = (sbT (T 18) s).testBit k := by
  simp only [hbM]
  cases hb : (sbT (T 18) s).testBit k
  · rw [decide_eq_true (and_bit.mpr hb)]; rfl
  · rw [decide_eq_false (fun q => by rw [and_bit.mp q] at hb; cases hb)]; rfl
def alM (T : SP) (j : Nat) : Bool := !decide (T 18 j = 0)
def alS (T : SP) (s : Nat) : Bool := !decide (sbT (T 18) s = 0)
theorem sb_lt {G T : SP} {s : Nat} (h4 : G 3 2 ≤ 4) (hF : finT G T) (hs : okS G (T 0 4) s) : sbT (T 18) s < 16 := by
  have he := hF.1.2.2.2.1
  have hp : 2 ^ G 3 2 ≤ 2 ^ 4 := Nat.pow_le_pow_right (by decide) h4
  simp only [sbT]
  rcases hs with h0 | h0 | h0
  · rw [if_pos h0]; decide
  · rw [if_neg (by omega), if_neg (by omega)]
    have := t18_lt h4 he hF.2.2.2.2.1 (T 0 4) s (Nat.le_refl _) h0
    omega
  · rw [if_neg (by omega), if_pos h0.1]
    exact pw16 (by omega)
theorem hb_15 {G T : SP} {s : Nat} (h4 : G 3 2 ≤ 4) (hF : finT G T) (hs : okS G (T 0 4) s) : hbM T 15 s = alS T s := by
  simp only [hbM, alS]
  rw [a15 _ (sb_lt h4 hF hs)]
theorem z00 (a : Nat) : nI a + (0 + 0) = nI a := nI_add a 0
theorem z01 (a : Nat) : nI a + (0 + 1) = nI (a + 1) := nI_add a 1
theorem z10 (a : Nat) : nI a + (1 + 0) = nI (a + 1) := nI_add a 1
theorem z11 (a : Nat) : nI a + (1 + 1) = nI (a + 2) := nI_add a 2
section BB
variable {d : Nat} {I : HI} {J : HJ} {R : HR} {o : Nat} {G T : SP} {D : Nat → Nat} {N : Nat → List Nat} {inp : Nat → Nat} {x1 x2 x3 : Int32}
theorem t_isAlive {s n : Nat} {Q : Bool → Prop} (hs : Stat R) (h4 : G 3 2 ≤ 4) (hn : n ≤ 400) (hok : okS G n s) (hM : mkR I 111 (alM T) n) (h : Q (alS T s)) : Wp fb (d + 1) M_X12_isAlive [.ref 80, .int (sI s)] I J R Q := by
  refine e_X12_isAlive hs ?_
  rcases hok with h0 | h0 | h0
  · subst h0
    rw [show alS T 5000 = false from rfl] at h
    exact ⟨fun hc => absurd hc (by decide), fun _ => ⟨fun _ => h, fun hc => absurd (by decide) hc⟩⟩
  · rw [sI_n (by omega)]
    have e : sbT (T 18) s = T 18 s := by
      simp only [sbT]
      rw [if_neg (by omega), if_neg (by omega)]
    have e2 : alS T s = alM T s := by simp only [alS, alM, e]
    rw [e2] at h
    refine ⟨fun hc => absurd hc (nI_ge (b := 1000) (by omega) (by omega)), fun _ => ⟨fun hc => absurd hc (nI_pos (by omega)), fun _ => ⟨s, rfl, by omega, ?_⟩⟩⟩
    rw [mkR_z hM h0]
    refine ⟨fun hb => ?_, fun hb => ?_⟩
    · rw [hb] at h; exact h
    · rw [Bool.not_eq_false] at hb; rw [hb] at h; exact h
  · rw [sI_n (by omega)]
    have e : sbT (T 18) s = 2 ^ (s - 1000) := by
      simp only [sbT]
      rw [if_neg (by omega), if_pos h0.1]
    have e2 : alS T s = true := by
      have := Nat.two_pow_pos (s - 1000)
      simp only [alS, e]
      rw [decide_eq_false (by omega)]
      rfl
    rw [e2] at h
    exact ⟨fun _ => h, fun hc => absurd (nI_le (a := 1000) h0.1 (by omega)) hc⟩
theorem t_mforward {k : Nat} {Q : Int32 → HI → Prop} (hw : wfG G D N) (hF : finT G T) (hr : rQ I J R G T) (h80 : I 80 0 = 0) (hk : k < 4) (h : ∀ I', frA I I' J J → Q (nI (smN (cst T (2 ^ k)) (T 0 4))) I') : Wc fi (d + 3) M_X12_forward [.ref 80, .int (nI k)] I J R Q := by
  have hs := hr.1
  have h4 := hw.2.2.2.2.2.1
  have he := hF.1.2.2.2.1
  have hf0 : frA I I J J := ⟨fun _ _ _ => rfl, fun _ _ => rfl, h80, fun _ _ => rfl⟩
  refine ⟨Nat.le_of_ble_eq_true rfl, fun K hK => ?_⟩
  refine g_X12_forward_0 hK hs ?_
  rw [show (1000 : Int32) + nI k = nI (1000 + k) from nI_add 1000 k]
  refine t_laysOn hs h4 hF hr.2.2.1 (by omega) (fun I1 f1 mm => ?_)
  have hfr := frA_c (c := 109) (by decide) (by decide) hf0 f1
  obtain ⟨hs1, hP1, ⟨⟨a44, a47, a54, a56, a57, a61⟩, ⟨b99, b100⟩, ⟨b101, b102⟩, ⟨b103, b104⟩, ⟨b105, b106⟩, ⟨b92, b98, b93, b94, b95, b96, b97⟩, b107, b108⟩, hst⟩ := rQ_fr hfr hr
  have c5 : ∀ i, i < T 0 4 → ((I1 92 i = 5) ↔ T 9 i = 5) := fun i hi => by
    have := (hF.2.2.2.2.1 i hi).2.1
    rw [b92 i hi]
    exact nI_eq (b := 5) (by omega) (by decide)
  have c6 : ∀ i, i < T 0 4 → ((I1 92 i = 6) ↔ T 9 i = 6) := fun i hi => by
    have := (hF.2.2.2.2.1 i hi).2.1
    rw [b92 i hi]
    exact nI_eq (b := 6) (by omega) (by decide)
  have k89 : ∀ (acc i : Nat) (u w : Bool), i < T 0 4 → (¬ T 9 i = 6 → K 13 [(0, .ref 80), (1, .int (nI k)), (2, .int (nI acc)), (3, .int (nI (i + 1)))] [] I1 J R) → (T 9 i = 6 → K 13 [(0, .ref 80), (1, .int (nI k)), (2, .int (nI (acc + (if (u || w) = true then 1 + b2n w else 0)))), (3, .int (nI (i + 1)))] [] I1 J R) → K 89 [(0, .ref 80), (1, .int (nI k)), (2, .int (nI acc)), (3, .int (nI i)), (4, .int (b2i u)), (5, .int (b2i w))] [] I1 J R := by
    intro acc i u w hi g1 g2
    refine g_X12_forward_89 hK hs ⟨i, rfl, by omega, ?_⟩
    rw [c6 i hi, z00, z01, z10, z11, nI_1]
    refine ⟨g1, fun e6 => ?_⟩
    have g := g2 e6
    cases u <;> cases w
    · exact ⟨fun hc => absurd hc (by decide), fun _ => ⟨fun _ => ⟨fun _ => g, fun hc => absurd hc (by decide)⟩, fun hc => absurd hc (by decide)⟩⟩
    · exact ⟨fun hc => absurd hc (by decide), fun _ => ⟨fun hc => absurd hc (by decide), fun _ => ⟨fun hc => absurd hc (by decide), fun _ => g⟩⟩⟩
    · exact ⟨fun _ => ⟨fun _ => g, fun hc => absurd hc (by decide)⟩, fun hc => absurd hc (by decide)⟩
    · exact ⟨fun _ => ⟨fun hc => absurd hc (by decide), fun _ => g⟩, fun hc => absurd hc (by decide)⟩
  have loop : ∀ m i, i + m = T 0 4 → K 13 [(0, .ref 80), (1, .int (nI k)), (2, .int (nI (smN (cst T (2 ^ k)) i))), (3, .int (nI i))] [] I1 J R := by
    intro m
    induction m with
    | zero =>
      intro i hi
      have hie : i = T 0 4 := by omega
      subst hie
      refine g_X12_forward_13 hK hs ?_
      rw [a44]
      exact ⟨fun _ => h I1 hfr, fun hc => absurd (nI_le (Nat.le_refl _) (by omega)) hc⟩
    | succ m ih =>
      intro i hi
      have nx := ih (i + 1) (by omega)
      simp only [smN, cst] at nx
      have hE := hF.2.2.2.2.1 i (by omega)
      have o14 := okS_mono (show i ≤ T 0 4 by omega) hE.2.2.2.2.2.2.1
      have o15 := okS_mono (show i ≤ T 0 4 by omega) hE.2.2.2.2.2.2.2.1
      refine g_X12_forward_13 hK hs ?_
      rw [a44, show (1000 : Int32) + nI k = nI (1000 + k) from nI_add 1000 k]
      refine ⟨fun hc => absurd hc (nI_ge (by omega) (by omega)), fun _ => ⟨i, rfl, by omega, ?_⟩⟩
      rw [b96 i (by omega), b97 i (by omega), c5 i (by omega)]
      refine t_isOn (T := T) (n := T 0 4) hs he (okS_n h4 o14) (by omega) mm ?_
      refine t_isOn (T := T) (n := T 0 4) hs he (okS_n h4 o15) (by omega) mm ?_
      have f14 := fw_sb hk h4 hF o14
      have f15 := fw_sb hk h4 hF o15
      rw [← hb_bit] at f14 f15
      simp only [fwT] at f14 f15
      rw [f14, f15]
      refine ⟨fun e5 => ?_, fun e5 => ?_⟩
      · rw [if_neg e5] at nx
        refine k89 _ i _ _ (by omega) (fun e6 => ?_) (fun e6 => ?_)
        · rw [if_neg e6, Nat.add_zero] at nx
          exact nx
        · rw [if_pos e6] at nx
          exact nx
      · rw [if_pos e5] at nx
        rw [z00, z01, z10, z11]
        have e6 : ¬ T 9 i = 6 := by omega
        generalize hbM T (2 ^ k) (T 14 i) = u at nx ⊢
        generalize hbM T (2 ^ k) (T 15 i) = w at nx ⊢
        cases u <;> cases w
        · exact ⟨fun _ => ⟨fun _ => k89 _ i _ _ (by omega) (fun _ => nx) (fun q => absurd q e6), fun hc => absurd hc (by decide)⟩, fun hc => absurd hc (by decide)⟩
        · exact ⟨fun _ => ⟨fun hc => absurd hc (by decide), fun _ => k89 _ i _ _ (by omega) (fun _ => nx) (fun q => absurd q e6)⟩, fun hc => absurd hc (by decide)⟩
        · exact ⟨fun hc => absurd hc (by decide), fun _ => ⟨fun _ => k89 _ i _ _ (by omega) (fun _ => nx) (fun q => absurd q e6), fun hc => absurd hc (by decide)⟩⟩
        · exact ⟨fun hc => absurd hc (by decide), fun _ => ⟨fun hc => absurd hc (by decide), fun _ => k89 _ i _ _ (by omega) (fun _ => nx) (fun q => absurd q e6)⟩⟩
  exact loop (T 0 4) 0 (by omega)
theorem t_mbackward {k : Nat} {Q : Int32 → HI → Prop} (hw : wfG G D N) (hF : finT G T) (hr : rQ I J R G T) (h80 : I 80 0 = 0) (hk : k < T 0 3) (h : ∀ I', frA I I' J J → Q (nI (smN (fun j => if bkT T (T 8 k) j = true then cst T 15 j else 0) (T 0 4))) I') : Wc fi (d + 3) M_X12_backward [.ref 80, .int (nI k)] I J R Q := by
  have hs := hr.1
  have h4 := hw.2.2.2.2.2.1
  have he := hF.1.2.2.2.1
  have hf0 : frA I I J J := ⟨fun _ _ _ => rfl, fun _ _ => rfl, h80, fun _ _ => rfl⟩
  refine ⟨Nat.le_of_ble_eq_true rfl, fun K hK => ?_⟩
  have sum : ∀ (I1 : HI), frA I I1 J J → mkR I1 109 (bkT T (T 8 k)) (T 0 4) → mkR I1 111 (alM T) (T 0 4) → ∀ m i, i + m = T 0 4 → K 62 [(0, .ref 80), (2, .int (nI (smN (fun j => if bkT T (T 8 k) j = true then cst T 15 j else 0) i))), (3, .int (nI i))] [] I1 J R := by
    intro I1 hfr mm ma
    obtain ⟨hs1, hP1, ⟨⟨a44, a47, a54, a56, a57, a61⟩, ⟨b99, b100⟩, ⟨b101, b102⟩, ⟨b103, b104⟩, ⟨b105, b106⟩, ⟨b92, b98, b93, b94, b95, b96, b97⟩, b107, b108⟩, hst⟩ := rQ_fr hfr hr
    have c5 : ∀ i, i < T 0 4 → ((I1 92 i = 5) ↔ T 9 i = 5) := fun i hi => by
      have := (hF.2.2.2.2.1 i hi).2.1
      rw [b92 i hi]
      exact nI_eq (b := 5) (by omega) (by decide)
    have c6 : ∀ i, i < T 0 4 → ((I1 92 i = 6) ↔ T 9 i = 6) := fun i hi => by
      have := (hF.2.2.2.2.1 i hi).2.1
      rw [b92 i hi]
      exact nI_eq (b := 6) (by omega) (by decide)
    have k149 : ∀ (acc i : Nat) (w : Bool), i < T 0 4 → (¬ T 9 i = 6 → K 62 [(0, .ref 80), (2, .int (nI acc)), (3, .int (nI (i + 1)))] [] I1 J R) → (T 9 i = 6 → K 62 [(0, .ref 80), (2, .int (nI (acc + (1 + b2n w)))), (3, .int (nI (i + 1)))] [] I1 J R) → K 149 [(0, .ref 80), (2, .int (nI acc)), (3, .int (nI i)), (5, .int (b2i w))] [] I1 J R := by
      intro acc i w hi g1 g2
      refine g_X12_backward_149 hK hs ⟨i, rfl, by omega, ?_⟩
      rw [c6 i hi, z10, z11, nI_1]
      refine ⟨g1, fun e6 => ?_⟩
      have g := g2 e6
      cases w
      · exact ⟨fun _ => g, fun hc => absurd hc (by decide)⟩
      · exact ⟨fun hc => absurd hc (by decide), fun _ => g⟩
    intro m
    induction m with
    | zero =>
      intro i hi
      have hie : i = T 0 4 := by omega
      subst hie
      refine g_X12_backward_62 hK hs ?_
      rw [a44]
      exact ⟨fun _ => h I1 hfr, fun hc => absurd (nI_le (Nat.le_refl _) (by omega)) hc⟩
    | succ m ih =>
      intro i hi
      have nx := ih (i + 1) (by omega)
      simp only [smN] at nx
      have hE := hF.2.2.2.2.1 i (by omega)
      have o14 := okS_mono (show i ≤ T 0 4 by omega) hE.2.2.2.2.2.2.1
      have o15 := okS_mono (show i ≤ T 0 4 by omega) hE.2.2.2.2.2.2.2.1
      refine g_X12_backward_62 hK hs ?_
      rw [a44, nI_1]
      refine ⟨fun hc => absurd hc (nI_ge (by omega) (by omega)), fun _ => ⟨i, rfl, by omega, ?_⟩⟩
      rw [mkR_z mm (by omega), mkR_z ma (by omega), b96 i (by omega), b97 i (by omega), c5 i (by omega)]
      refine ⟨fun hb => ?_, fun hb => ?_⟩
      · rw [hb, if_neg (by decide), Nat.add_zero] at nx
        exact nx
      · rw [Bool.not_eq_false] at hb
        rw [hb, if_pos rfl] at nx
        simp only [cst, hb_15 h4 hF o14, hb_15 h4 hF o15] at nx
        refine ⟨fun al => ?_, fun al => ?_⟩
        · refine t_isAlive (T := T) (n := T 0 4) hs h4 he o14 ma ?_
          refine t_isAlive (T := T) (n := T 0 4) hs h4 he o15 ma ?_
          have hor : (alS T (T 14 i) || alS T (T 15 i)) = true := by
            rw [Bool.not_eq_false] at al
            have t0 : ¬ T 18 i = 0 := fun q => by simp [alM, q] at al
            rw [hE.2.2.2.2.2.2.2.2] at t0
            by_cases q1 : sbT (T 18) (T 14 i) = 0
            · have q2 : ¬ sbT (T 18) (T 15 i) = 0 := fun q2 => t0 (by rw [q1, q2]; rfl)
              simp [alS, q2]
            · simp [alS, q1]
          rw [hor, if_pos rfl] at nx
          refine ⟨fun e5 => ?_, fun e5 => ?_⟩
          · rw [if_neg e5] at nx
            refine k149 _ i _ (by omega) (fun e6 => ?_) (fun e6 => ?_)
            · rw [if_neg e6, Nat.add_zero] at nx
              exact nx
            · rw [if_pos e6] at nx
              exact nx
          · rw [if_pos e5] at nx
            rw [z00, z01, z10, z11]
            have e6 : ¬ T 9 i = 6 := by omega
            clear hor
            generalize alS T (T 14 i) = u at nx ⊢
            generalize alS T (T 15 i) = w at nx ⊢
            cases u <;> cases w
            · exact ⟨fun _ => ⟨fun _ => k149 _ i _ (by omega) (fun _ => nx) (fun q => absurd q e6), fun hc => absurd hc (by decide)⟩, fun hc => absurd hc (by decide)⟩
            · exact ⟨fun _ => ⟨fun hc => absurd hc (by decide), fun _ => k149 _ i _ (by omega) (fun _ => nx) (fun q => absurd q e6)⟩, fun hc => absurd hc (by decide)⟩
            · exact ⟨fun hc => absurd hc (by decide), fun _ => ⟨fun _ => k149 _ i _ (by omega) (fun _ => nx) (fun q => absurd q e6), fun hc => absurd hc (by decide)⟩⟩
            · exact ⟨fun hc => absurd hc (by decide), fun _ => ⟨fun hc => absurd hc (by decide), fun _ => k149 _ i _ (by omega) (fun _ => nx) (fun q => absurd q e6)⟩⟩
        · have t0 : T 18 i = 0 := by
            by_cases q : T 18 i = 0
            · exact q
            · simp [alM, q] at al
          rw [hE.2.2.2.2.2.2.2.2] at t0
          have tt := (or_z (a := sbT (T 18) (T 14 i)) (b := sbT (T 18) (T 15 i)) (m := 15)).mp (by rw [t0]; rfl)
          rw [a15 _ (sb_lt h4 hF o14), a15 _ (sb_lt h4 hF o15)] at tt
          have z1 : alS T (T 14 i) = false := by simp [alS, tt.1]
          have z2 : alS T (T 15 i) = false := by simp [alS, tt.2]
          rw [z1, z2] at nx
          by_cases e5 : T 9 i = 5
          · rw [if_pos e5] at nx
            exact nx
          · rw [if_neg e5] at nx
            by_cases e6 : T 9 i = 6
            · rw [if_pos e6] at nx
              exact nx
            · rw [if_neg e6] at nx
              exact nx
  obtain ⟨hs1, hP1, ⟨⟨a44, a47, a54, a56, a57, a61⟩, ⟨b99, b100⟩, ⟨b101, b102⟩, ⟨b103, b104⟩, ⟨b105, b106⟩, ⟨b92, b98, b93, b94, b95, b96, b97⟩, b107, b108⟩, hst⟩ := id hr
  have alive : ∀ (m i : Nat) (I1 : HI), i + m = T 0 4 → (∀ a, ¬ a = 111 → I1 a = I a) → mkR I1 111 (alM T) i → K 2 [(0, .ref 80), (1, .int (nI k)), (2, .int (nI i))] [] I1 J R := by
    intro m
    induction m with
    | zero =>
      intro i I1 hi hf ma
      have hie : i = T 0 4 := by omega
      subst hie
      have hfr := frA_c (c := 111) (by decide) (by decide) hf0 hf
      refine g_X12_backward_2 hK hs ?_
      rw [hf 80 (by decide), a44]
      refine ⟨fun _ => ?_, fun hc => absurd (nI_le (Nat.le_refl _) (by omega)) hc⟩
      refine t_laysBack hs h4 hF (rQ_fr hfr hr).2.2.1 hk (fun I2 f2 mm => ?_)
      exact sum I2 (frA_c (c := 109) (by decide) (by decide) hfr f2) mm (mkR_cg (f2 111 (by decide)) ma) (T 0 4) 0 (by omega)
    | succ m ih =>
      intro i I1 hi hf ma
      have hE := hF.2.2.2.2.1 i (by omega)
      have o14 := hE.2.2.2.2.2.2.1
      have o15 := hE.2.2.2.2.2.2.2.1
      refine g_X12_backward_2 hK hs ?_
      rw [hf 80 (by decide), a44, hf 96 (by decide), hf 97 (by decide), nI_1]
      refine ⟨fun hc => absurd hc (nI_ge (by omega) (by omega)), fun _ => ⟨i, rfl, by omega, ?_⟩⟩
      rw [b96 i (by omega), b97 i (by omega)]
      have fin : ∀ b : Bool, b = (alS T (T 14 i) || alS T (T 15 i)) → K 2 [(0, .ref 80), (1, .int (nI k)), (2, .int (nI (i + 1)))] [] (up I1 111 i (if b = true then 1 else 0)) J R := by
        intro b hb
        refine ih (i + 1) _ (by omega) (fun a ha => (up_ne _ _ _ _ ha).trans (hf a ha)) ?_
        have hb2 : b = alM T i := by
          rw [hb]
          simp only [alM, alS]
          rw [hE.2.2.2.2.2.2.2.2]
          by_cases q1 : sbT (T 18) (T 14 i) = 0
          · by_cases q2 : sbT (T 18) (T 15 i) = 0
            · simp [q1, q2]
            · simp [q1, q2]
          · have q3 : ¬ (sbT (T 18) (T 14 i) ||| sbT (T 18) (T 15 i)) = 0 := fun q => q1 (by
              have := (or_z (a := sbT (T 18) (T 14 i)) (b := sbT (T 18) (T 15 i)) (m := 15)).mp (by rw [q]; rfl)
              rw [a15 _ (sb_lt h4 hF (okS_mono (show i ≤ T 0 4 by omega) o14))] at this
              exact this.1)
            rw [decide_eq_false q1, decide_eq_false q3]
            rfl
        have := mkR_push (b := b) ma
        intro j hj
        rw [this j hj]
        by_cases hji : j = i
        · simp [hji, hb2]
        · simp [hji]
      refine t_isAlive (T := T) (n := i) hs h4 (by omega) o14 ma ⟨fun hb => ?_, fun hb => ?_⟩
      · exact fin true (by rw [hb]; rfl)
      · refine t_isAlive (T := T) (n := i) hs h4 (by omega) o15 ma ⟨fun hb2 => ?_, fun hb2 => ?_⟩
        · exact fin false (by rw [hb, hb2]; rfl)
        · exact fin true (by rw [hb, hb2]; rfl)
  exact g_X12_backward_0 hK hs (alive (T 0 4) 0 I (by omega) (fun _ _ => rfl) (fun j hj => absurd hj (by omega)))
theorem frA_tr {I I1 I2 : HI} {J J1 J2 : HJ} (h : frA I I1 J J1) (h' : frA I1 I2 J1 J2) : frA I I2 J J2 := ⟨fun a a1 a2 => (h'.1 a a1 a2).trans (h.1 a a1 a2), fun k hk => (h'.2.1 k hk).trans (h.2.1 k hk), h'.2.2.1, fun a ha => (h'.2.2.2 a ha).trans (h.2.2.2 a ha)⟩
theorem m_cost {Q : Int32 → HI → Prop} (hw : wfG G D N) (hF : finT G T) (hr : rQ I J R G T) (h : ∀ I', frA I I' J J → Q (costV G T x1 x2) I') : Wc fi (d + 4) M_X12_cost [.ref 80, .int x1, .int x2] I J R Q := by
  have hs := hr.1
  have h4 := hw.2.2.2.2.2.1
  have he := hF.1.2.2.2.1
  have h20 := hF.1.2.2.2.2.1
  have hf0 : frA I (up I 80 0 0) J J := frA_0
  have hr0 := rQ_fr hf0 hr
  refine e_X12_cost hs ?_
  simp only [costV] at h
  refine ⟨fun e0 => ⟨fun e1 => ?_, fun e1 => ?_⟩, fun e0 => ?_⟩
  · rw [if_neg e0, if_neg e1] at h
    exact h _ hf0
  · rw [if_neg e0, if_pos e1] at h
    refine t_isOut hs hF hr0.2.2.1 ⟨fun hb => ?_, fun hb => ?_⟩
    · rw [hb, if_neg (by decide)] at h
      exact h _ hf0
    · rw [hb, if_pos rfl] at h
      obtain ⟨k, ck, c0, c2⟩ := in_ex (by omega) hb
      rw [c2] at h
      rw [ck]
      exact t_mbackward hw hF hr0 up_s c0 (fun I' g => h I' (frA_tr hf0 g))
  · rw [if_pos e0] at h
    refine t_isInput hs h4 hr0.2.1.2.2.1 ⟨fun hb => ?_, fun hb => ?_⟩
    · rw [hb, if_neg (by decide)] at h
      exact h _ hf0
    · rw [hb, if_pos rfl] at h
      obtain ⟨k, ck, c0, c2⟩ := in_ex (by omega) hb
      rw [c2] at h
      rw [ck]
      exact t_mforward hw hF hr0 up_s (by omega) (fun I' g => h I' (frA_tr hf0 g))
end BB
