/-! second, turned: both sides -/
def secondV (G T : SP) (x1 x2 x3 : Int32) : Int32 := if inN x1 (T 0 3) = true then (if inN x2 (G 3 2) = true then (if inN x3 (G 3 2) = true then nI (secT T (xN x1) (xN x2) (xN x3)) else -1) else -1) else -1
def tnT (T : SP) (k u : Nat) (U : Nat → Int32) : Nat → Nat
  | 0 => 0
  | n + 1 => mP (tnT T k u U n + mP (secT T k u n * zP (U n).toInt))
def tnS (T : SP) (k u : Nat) (U : Nat → Int32) : Nat → Nat
  | 0 => 0
  | n + 1 => tnS T k u U n + mP (secT T k u n * zP (U n).toInt)
theorem tn_eq (T : SP) (k u : Nat) (U : Nat → Int32) : ∀ n, mP (tnS T k u U n) = tnT T k u U n
  | 0 => rfl
  | n + 1 => by
    have := tn_eq T k u U n
    simp only [tnS, tnT]
    rw [← this]
    simp only [mP]
    omega
theorem tnT_lt (T : SP) (k u : Nat) (U : Nat → Int32) : ∀ n, tnT T k u U n < 1000000007
  | 0 => by show (0 : Nat) < _; decide
  | n + 1 => mP_lt _
theorem tnS_le (T : SP) (k u : Nat) (U : Nat → Int32) : ∀ n, tnS T k u U n ≤ n * 1000000007
  | 0 => Nat.le_refl _
  | n + 1 => by
    have := tnS_le T k u U n
    have h2 := mP_lt (secT T k u n * zP (U n).toInt)
    simp only [tnS]
    omega
def U4 (x3 x4 x5 x6 : Int32) (j : Nat) : Int32 := if j = 0 then x3 else if j = 1 then x4 else if j = 2 then x5 else x6
def turnedV (G T : SP) (x1 x2 x3 x4 x5 x6 : Int32) : Int32 := if inN x1 (T 0 3) = true then (if inN x2 (G 3 2) = true then nI (tnT T (xN x1) (xN x2) (U4 x3 x4 x5 x6) (G 3 2)) else -1) else -1
theorem secT_lt (T : SP) (k u w : Nat) : secT T k u w < 1000000007 := scA_lt _ _ _ _ _
section BH
variable {d : Nat} {I : HI} {J : HJ} {R : HR} {o : Nat} {G T : SP} {D : Nat → Nat} {N : Nat → List Nat} {inp : Nat → Nat} {x1 x2 x3 x4 x5 x6 : Int32}
theorem c_second {Q : Int32 → HI → Prop} (hw : wfG G D N) (hF : finT G T) (hc : cQ I R G N T) (h : ∀ I', frC I I' → Q (secondV G T x1 x2 x3) I') : Wc fi (d + 6) M_X11_second [.ref 0, .int x1, .int x2, .int x3] I J R Q := by
  obtain ⟨hs, ⟨p, hp1, hp2, hp3⟩, ⟨n1, n2, n3⟩, v1, v2, v3, v4, v5, v6, v7⟩ := id hc
  have h4 := hw.2.2.2.2.2.1
  have h20 := hF.1.2.2.2.2.1
  refine e_X11_second hs ?_
  simp only [secondV] at h
  refine t_hasOut (T := T) hs hF v4.1 ⟨fun hb => ?_, fun hb => ?_⟩
  · rw [hb, if_neg (by decide)] at h
    exact h I frC_rf
  · rw [hb, if_pos rfl] at h
    obtain ⟨k, ck, c0, c2⟩ := in_ex (by omega) hb
    refine t_hasInput hs h4 hp1 hp2 hp3.2.2.1 ⟨fun hi => ?_, fun hi => ?_⟩
    · rw [hi, if_neg (by decide)] at h
      exact h I frC_rf
    · rw [hi, if_pos rfl] at h
      obtain ⟨k2, ck2, c02, c22⟩ := in_ex (by omega) hi
      refine t_hasInput hs h4 hp1 hp2 hp3.2.2.1 ⟨fun hj => ?_, fun hj => ?_⟩
      · rw [hj, if_pos rfl] at h
        obtain ⟨k3, ck3, c03, c23⟩ := in_ex (by omega) hj
        rw [c2, c22, c23] at h
        rw [ck, ck2, ck3]
        exact t_secondSlope hw hF hc c0 (by omega) (by omega) h
      · rw [hj, if_neg (by decide)] at h
        exact h I frC_rf
theorem m_second {Q : Int32 → HI → HJ → Prop} (hw : wfG G D N) (hF : finT G T) (hr : rQ I J R G T) (h : ∀ I' J', frA I I' J J' → Q (secondV G T x1 x2 x3) I' J') : Wd fi (d + 5) M_X12_second [.ref 80, .int x1, .int x2, .int x3] I J R Q := by
  have hs := hr.1
  have h4 := hw.2.2.2.2.2.1
  have he := hF.1.2.2.2.1
  have h20 := hF.1.2.2.2.2.1
  have hf0 : frA I (up I 80 0 0) J J := frA_0
  have hr0 := rQ_fr hf0 hr
  refine e_X12_second hs ?_
  simp only [secondV] at h
  refine t_isOut hs hF hr0.2.2.1 ⟨fun hb => ?_, fun hb => ?_⟩
  · rw [hb, if_neg (by decide)] at h
    exact h _ _ hf0
  · rw [hb, if_pos rfl] at h
    obtain ⟨k, ck, c0, c2⟩ := in_ex (by omega) hb
    refine t_isInput hs h4 hr0.2.1.2.2.1 ⟨fun hi => ?_, fun hi => ?_⟩
    · rw [hi, if_neg (by decide)] at h
      exact h _ _ hf0
    · rw [hi, if_pos rfl] at h
      obtain ⟨k2, ck2, c02, c22⟩ := in_ex (by omega) hi
      refine t_isInput hs h4 hr0.2.1.2.2.1 ⟨fun hj => ?_, fun hj => ?_⟩
      · rw [hj, if_neg (by decide)] at h
        exact h _ _ hf0
      · rw [hj, if_pos rfl] at h
        obtain ⟨k3, ck3, c03, c23⟩ := in_ex (by omega) hj
        rw [c2, c22, c23] at h
        rw [ck, ck2, ck3]
        refine t_secondBy hw hF hr0 up_s c0 (by omega) (by omega) (fun J' g => ?_)
        rw [lN_i]
        exact h _ _ (frA_tr hf0 g)
theorem c_turned {Q : Int32 → HI → Prop} (hw : wfG G D N) (hF : finT G T) (hc : cQ I R G N T) (h : ∀ I', frC I I' → Q (turnedV G T x1 x2 x3 x4 x5 x6) I') : Wc fi (d + 6) M_X11_turned [.ref 0, .int x1, .int x2, .int x3, .int x4, .int x5, .int x6] I J R Q := by
  obtain ⟨hs, ⟨p, hp1, hp2, hp3⟩, ⟨n1, n2, n3⟩, v1, v2, v3, v4, v5, v6, v7⟩ := id hc
  have h4 := hw.2.2.2.2.2.1
  have h20 := hF.1.2.2.2.2.1
  refine ⟨Nat.le_of_ble_eq_true rfl, fun K hK => ?_⟩
  refine g_X11_turned_0 hK hs ?_
  simp only [turnedV] at h
  refine t_hasOut (T := T) hs hF v4.1 ⟨fun hb => ?_, fun hb => ?_⟩
  · rw [hb, if_neg (by decide)] at h
    exact h I frC_rf
  · rw [hb, if_pos rfl] at h
    obtain ⟨k, ck, c0, c2⟩ := in_ex (by omega) hb
    refine t_hasInput hs h4 hp1 hp2 hp3.2.2.1 ⟨fun hi => ?_, fun hi => ?_⟩
    · rw [hi, if_pos rfl] at h
      obtain ⟨k2, ck2, c02, c22⟩ := in_ex (by omega) hi
      rw [c2, c22] at h
      have loop : ∀ (m i : Nat) (I1 : HI), i + m = G 3 2 → frC I I1 → K 24 [(0, .ref 0), (1, .int x1), (2, .int x2), (3, .int x3), (4, .int x4), (5, .int x5), (6, .int x6), (7, .int (nI (tnT T k k2 (U4 x3 x4 x5 x6) i))), (8, .int (nI i))] [] I1 J R := by
        intro m
        induction m with
        | zero =>
          intro i I1 hi hfr
          have hie : i = G 3 2 := by omega
          subst hie
          obtain ⟨hs', ⟨p', hp1', hp2', hp3'⟩, _⟩ := cQ_fr hfr hc
          refine g_X11_turned_24 hK hs ⟨p', hp1', hp2', ?_⟩
          rw [hp3'.2.2.1]
          exact ⟨fun _ => h I1 hfr, fun hc => absurd (nI_le (Nat.le_refl _) (by omega)) hc⟩
        | succ m ih =>
          intro i I1 hi hfr
          have hc1 := cQ_fr hfr hc
          obtain ⟨hs', ⟨p', hp1', hp2', hp3'⟩, _⟩ := id hc1
          have k69 : K 69 [(0, .ref 0), (1, .int x1), (2, .int x2), (3, .int x3), (4, .int x4), (5, .int x5), (6, .int x6), (7, .int (nI (tnT T k k2 (U4 x3 x4 x5 x6) i))), (8, .int (nI i))] [.int (U4 x3 x4 x5 x6 i)] I1 J R := by
            refine g_X11_turned_69 hK hs ?_
            have ss := t_secondSlope (d := d) (J := J) (k := k) (u := k2) (w := i) (Q := fun r1 I2 => Wp fi (d + 5) M_X3_of [.int (U4 x3 x4 x5 x6 i)] I2 J R (fun r3 => Wp fi (d + 5) M_X3_times [.int r1, .int r3] I2 J R (fun r4 => Wp fi (d + 5) M_X3_plus [.int (nI (tnT T k k2 (U4 x3 x4 x5 x6) i)), .int r4] I2 J R (fun r5 => K 24 [(0, .ref 0), (1, .int x1), (2, .int x2), (3, .int x3), (4, .int x4), (5, .int x5), (6, .int x6), (7, .int r5), (8, .int (nI i + 1))] [] I2 J R)))) hw hF hc1 c0 (by omega) (by omega) (fun I2 g2 => ?_)
            · rw [← ck, ← ck2] at ss
              exact ss
            · refine t_of hs (t_times hs (secT_lt _ _ _ _) (zP_lt _) (t_plus hs (tnT_lt _ _ _ _ _) (mP_lt _) ?_))
              rw [nI_1]
              exact ih (i + 1) I2 (by omega) (frC_tr hfr g2)
          refine g_X11_turned_24 hK hs ⟨p', hp1', hp2', ?_⟩
          rw [hp3'.2.2.1]
          refine ⟨fun hc => absurd hc (nI_ge (by omega) (by omega)), fun _ => ?_⟩
          have ci : ∀ j : Nat, j < 10 → ((nI i = nI j) ↔ i = j) := fun j hj => nI_eq (by omega) (by omega)
          simp only [U4] at k69
          refine ⟨fun q0 => ⟨fun q1 => ⟨fun q2 => ?_, fun q2 => ?_⟩, fun q1 => ?_⟩, fun q0 => ?_⟩
          · rw [if_neg (fun z => q0 ((ci 0 (by decide)).mpr z)), if_neg (fun z => q1 ((ci 1 (by decide)).mpr z)), if_neg (fun z => q2 ((ci 2 (by decide)).mpr z))] at k69
            exact k69
          · rw [if_neg (fun z => q0 ((ci 0 (by decide)).mpr z)), if_neg (fun z => q1 ((ci 1 (by decide)).mpr z)), if_pos ((ci 2 (by decide)).mp q2)] at k69
            exact k69
          · rw [if_neg (fun z => q0 ((ci 0 (by decide)).mpr z)), if_pos ((ci 1 (by decide)).mp q1)] at k69
            exact k69
          · rw [if_pos ((ci 0 (by decide)).mp q0)] at k69
            exact k69
      exact loop (G 3 2) 0 I (by omega) frC_rf
    · rw [hi, if_neg (by decide)] at h
      exact h I frC_rf
theorem i2l (x : Int32) : (Int32.toInt64 x).toInt = x.toInt := by simp
theorem m_turned {Q : Int32 → HI → HJ → Prop} (hw : wfG G D N) (hF : finT G T) (hr : rQ I J R G T) (h : ∀ I' J', frA I I' J J' → Q (turnedV G T x1 x2 x3 x4 x5 x6) I' J') : Wd fi (d + 5) M_X12_turned [.ref 80, .int x1, .int x2, .int x3, .int x4, .int x5, .int x6] I J R Q := by
  have hs := hr.1
  have h4 := hw.2.2.2.2.2.1
  have he := hF.1.2.2.2.1
  have h20 := hF.1.2.2.2.2.1
  have hf0 : frA I (up I 80 0 0) J J := frA_0
  have hr0 := rQ_fr hf0 hr
  refine ⟨Nat.le_of_ble_eq_true rfl, fun K hK => ?_⟩
  refine g_X12_turned_0 hK hs ?_
  simp only [turnedV] at h
  refine t_isOut hs hF hr0.2.2.1 ⟨fun hb => ?_, fun hb => ?_⟩
  · rw [hb, if_neg (by decide)] at h
    exact h _ _ hf0
  · rw [hb, if_pos rfl] at h
    obtain ⟨k, ck, c0, c2⟩ := in_ex (by omega) hb
    refine t_isInput hs h4 hr0.2.1.2.2.1 ⟨fun hi => ?_, fun hi => ?_⟩
    · rw [hi, if_pos rfl] at h
      obtain ⟨k2, ck2, c02, c22⟩ := in_ex (by omega) hi
      rw [c2, c22] at h
      have loop : ∀ (m i : Nat) (J1 : HJ), i + m = G 3 2 → frA I (up I 80 0 0) J J1 → K 29 [(0, .ref 80), (1, .int x1), (2, .int x2), (3, .int x3), (4, .int x4), (5, .int x5), (6, .int x6), (7, .long (lN (tnS T k k2 (U4 x3 x4 x5 x6) i))), (9, .int (nI i))] [] (up I 80 0 0) J1 R := by
        intro m
        induction m with
        | zero =>
          intro i J1 hi hfr
          have hie : i = G 3 2 := by omega
          subst hie
          have hle := tnS_le T k k2 (U4 x3 x4 x5 x6) (G 3 2)
          refine g_X12_turned_29 hK hs ?_
          rw [(rQ_fr hfr hr).2.1.2.2.1, cPL, pk_lRem (by omega) (by decide) (by decide), lN_i]
          refine ⟨fun _ => ?_, fun hc => absurd (nI_le (Nat.le_refl _) (by omega)) hc⟩
          rw [← tn_eq] at h
          exact h _ _ hfr
        | succ m ih =>
          intro i J1 hi hfr
          have hr1 := rQ_fr hfr hr
          have k71 : K 71 [(0, .ref 80), (1, .int x1), (2, .int x2), (3, .int x3), (4, .int x4), (5, .int x5), (6, .int x6), (7, .long (lN (tnS T k k2 (U4 x3 x4 x5 x6) i))), (9, .int (nI i))] [.int (U4 x3 x4 x5 x6 i)] (up I 80 0 0) J1 R := by
            refine g_X12_turned_71 hK hs ?_
            have ss := t_secondBy (d := d) (k := k) (u := k2) (w := i) (Q := fun r1 I2 J3 => Wp fl (d + 4) M_X12_left [.long (Int32.toInt64 (U4 x3 x4 x5 x6 i))] I2 J3 R (fun r4 => K 29 [(0, .ref 80), (1, .int x1), (2, .int x2), (3, .int x3), (4, .int x4), (5, .int x5), (6, .int x6), (7, .long (lN (tnS T k k2 (U4 x3 x4 x5 x6) i) + ((r1 * r4) - (r1 * r4) / (1000000007 : Int64) * (1000000007 : Int64)))), (9, .int (nI i + 1))] [] I2 J3 R)) hw hF hr1 up_s c0 (by omega) (by omega) (fun J3 g3 => ?_)
            · rw [← ck, ← ck2] at ss
              exact ss
            · have b1 := (U4 x3 x4 x5 x6 i).toInt_lt
              have b2 := (U4 x3 x4 x5 x6 i).le_toInt
              refine t_left hs (by rw [i2l]; omega) (by rw [i2l]; omega) ?_
              have l1 := secT_lt T k k2 i
              have l2 := zP_lt (U4 x3 x4 x5 x6 i).toInt
              have mb : secT T k k2 i * zP (U4 x3 x4 x5 x6 i).toInt < 1000000007 * 1000000007 := Nat.mul_lt_mul_of_lt_of_le l1 (by omega) (by decide)
              rw [i2l, lN_mul, cPL, pk_lRem (by omega) (by decide) (by decide), lN_add, nI_1]
              exact ih (i + 1) J3 (by omega) (frA_tr hfr g3)
          refine g_X12_turned_29 hK hs ?_
          rw [hr1.2.1.2.2.1]
          refine ⟨fun hc => absurd hc (nI_ge (by omega) (by omega)), fun _ => ?_⟩
          have ci : ∀ j : Nat, j < 10 → ((nI i = nI j) ↔ i = j) := fun j hj => nI_eq (by omega) (by omega)
          simp only [U4] at k71
          refine ⟨fun q0 => ⟨fun q1 => ⟨fun q2 => ?_, fun q2 => ?_⟩, fun q1 => ?_⟩, fun q0 => ?_⟩
          · rw [if_neg (fun z => q0 ((ci 0 (by decide)).mpr z)), if_neg (fun z => q1 ((ci 1 (by decide)).mpr z)), if_neg (fun z => q2 ((ci 2 (by decide)).mpr z))] at k71
            exact k71
          · rw [if_neg (fun z => q0 ((ci 0 (by decide)).mpr z)), if_neg (fun z => q1 ((ci 1 (by decide)).mpr z)), if_pos ((ci 2 (by decide)).mp q2)] at k71
            exact k71
          · rw [if_neg (fun z => q0 ((ci 0 (by decide)).mpr z)), if_pos ((ci 1 (by decide)).mp q1)] at k71
            exact k71
          · rw [if_pos ((ci 0 (by decide)).mp q0)] at k71
            exact k71
      exact loop (G 3 2) 0 J (by omega) hf0
    · rw [hi, if_neg (by decide)] at h
      exact h _ _ hf0
end BH
