/-! entry: both sides -/
def oonN (T : SP) (x j : Nat) : Nat := if (decide (T 8 j = x) || fwT T x (T 8 j)) = true then 1 else 0
def entryV (T : SP) (x1 x2 : Int32) : Int32 := if inN x1 (T 0 4) = true then (if x2 = 0 then nI (T 9 (xN x1)) else if x2 = 1 then nI (T 11 (xN x1)) else if x2 = 2 then nI (T 12 (xN x1)) else if x2 = 3 then nI (T 13 (xN x1)) else if x2 = 4 then sI (T 14 (xN x1)) else if x2 = 5 then sI (T 15 (xN x1)) else if x2 = 6 then nI (T 10 (xN x1)) else if x2 = 7 then nI (smN (oonN T (xN x1)) (T 0 3)) else if x2 = 8 then nI (T 18 (xN x1)) else -10) else -10
theorem fw_xx {G T : SP} {x s : Nat} (h4 : G 3 2 ≤ 4) (hF : finT G T) (hx : x < T 0 4) (hs : okS G (T 0 4) s) : (decide (s < 400) && fwT T x s) = (decide (s = x) || fwT T x s) := by
  have he := hF.1.2.2.2.1
  simp only [okS] at hs
  by_cases hsx : s = x
  · subst hsx
    have : fwT T s s = true := by
      simp only [fwT]
      have e1 := fwM_at T s (s + 1) s (T 0 4 - (s + 1)) (by omega)
      rw [show s + 1 + (T 0 4 - (s + 1)) = T 0 4 by omega] at e1
      rw [e1]
      show (if s = s then _ else _) = true
      rw [if_pos rfl, decide_eq_true rfl]
      rfl
    rw [this, decide_eq_true (show s < 400 by omega), Bool.or_true]
    rfl
  · rw [decide_eq_false hsx, Bool.false_or]
    by_cases h400 : s < 400
    · rw [decide_eq_true h400, Bool.true_and]
    · rw [decide_eq_false h400, Bool.false_and]
      exact (fwM_no _ _ _ _ (by omega)).symm
/-- the bits of a, those below n -/
def orB (a : Nat) : Nat → Nat
  | 0 => 0
  | n + 1 => orB a n ||| (if a.testBit n = true then 2 ^ n else 0)
theorem orB_bit (a : Nat) : ∀ (n i : Nat), (orB a n).testBit i = (decide (i < n) && a.testBit i)
  | 0, i => by simp [orB]
  | n + 1, i => by
    simp only [orB]
    rw [Nat.testBit_or, orB_bit a n i]
    by_cases hi : i = n
    · subst hi
      rw [decide_eq_false (Nat.lt_irrefl i), Bool.false_and, Bool.false_or, decide_eq_true (Nat.lt_succ_self i), Bool.true_and]
      cases a.testBit i
      · simp
      · simp [Nat.testBit_two_pow]
    · have hz : (if a.testBit n = true then 2 ^ n else 0).testBit i = false := by
        cases a.testBit n
        · simp
        · simp [Nat.testBit_two_pow]
          omega
      rw [hz, Bool.or_false]
      by_cases h1 : i < n
      · rw [decide_eq_true h1, decide_eq_true (by omega)]
      · rw [decide_eq_false h1, decide_eq_false (by omega)]
theorem orB_all {a n : Nat} (h : a < 2 ^ n) : orB a n = a := by
  apply Nat.eq_of_testBit_eq
  intro i
  rw [orB_bit]
  by_cases hi : i < n
  · rw [decide_eq_true hi, Bool.true_and]
  · rw [decide_eq_false hi, Bool.false_and]
    exact (Nat.testBit_lt_two_pow (Nat.lt_of_lt_of_le h (Nat.pow_le_pow_right (by decide) (by omega)))).symm
section BC
variable {d : Nat} {I : HI} {J : HJ} {R : HR} {o : Nat} {G T : SP} {D : Nat → Nat} {N : Nat → List Nat} {inp : Nat → Nat} {x1 x2 x3 : Int32}
theorem t_outsThat {x : Nat} {Q : Int32 → HI → Prop} (hw : wfG G D N) (hF : finT G T) (hc : cQ I R G N T) (hx : x < T 0 4) (h : ∀ I', frC I I' → Q (nI (smN (oonN T x) (T 0 3))) I') : Wc fi (d + 3) M_X11_outsThatHangOn [.ref 0, .int (nI x)] I J R Q := by
  obtain ⟨hs, ⟨p, hp1, hp2, hp3⟩, ⟨n1, n2, n3⟩, v1, v2, v3, v4, v5, v6, v7⟩ := id hc
  have h4 := hw.2.2.2.2.2.1
  have he := hF.1.2.2.2.1
  have h20 := hF.1.2.2.2.2.1
  refine ⟨Nat.le_of_ble_eq_true rfl, fun K hK => ?_⟩
  refine g_X11_outsThatHangOn_0 hK hs ?_
  refine t_markForward hs (Or.inl rfl) h4 hF v5 hx (fun I1 f1 mm => ?_)
  have hfr := frC_c (c := 40) (Or.inl rfl) (by decide) (frC_rf (I := I)) f1
  have v4' : slR I1 27 (T 7) (T 8) (T 0 3) := (cQ_fr hfr hc).2.2.2.2.2.2.1
  have loop : ∀ m i, i + m = T 0 3 → K 15 [(0, .ref 0), (2, .int (nI (smN (oonN T x) i))), (3, .int (nI i))] [] I1 J R := by
    intro m
    induction m with
    | zero =>
      intro i hi
      have hie : i = T 0 3 := by omega
      subst hie
      refine g_X11_outsThatHangOn_15 hK hs ?_
      rw [v4'.1]
      exact ⟨fun _ => h I1 hfr, fun hc => absurd (nI_le (Nat.le_refl _) (by omega)) hc⟩
    | succ m ih =>
      intro i hi
      have nx := ih (i + 1) (by omega)
      simp only [smN] at nx
      have hok := (hF.2.2.2.1 i (by omega)).2
      refine g_X11_outsThatHangOn_15 hK hs ?_
      rw [v4'.1, nI_1, nI_1]
      refine ⟨fun hc => absurd hc (nI_ge (by omega) (by omega)), fun _ => ?_⟩
      refine t_sourceAt (n := T 0 3) hs (Or.inr (Or.inr (Or.inr (Or.inl rfl)))) v4'.1 (by omega) (by omega) ?_
      rw [v4'.2.2 i (by omega)]
      refine t_isMarked (M := fwT T x) hs (Or.inl rfl) (okN_S h4 he hok) mm ?_
      rw [fw_xx h4 hF hx hok]
      refine ⟨fun hb => ?_, fun hb => ?_⟩
      · rw [show oonN T x i = 0 by simp only [oonN, hb]; rfl, Nat.add_zero] at nx
        exact nx
      · rw [show oonN T x i = 1 by simp only [oonN, hb]; rfl] at nx
        exact nx
  exact loop (T 0 3) 0 (by omega)
theorem c_entry {Q : Int32 → HI → Prop} (hw : wfG G D N) (hF : finT G T) (hc : cQ I R G N T) (h : ∀ I', frC I I' → Q (entryV T x1 x2) I') : Wc fi (d + 4) M_X11_entry [.ref 0, .int x1, .int x2] I J R Q := by
  obtain ⟨hs, ⟨p, hp1, hp2, hp3⟩, ⟨n1, n2, n3⟩, v1, v2, v3, v4, v5, v6, v7⟩ := id hc
  obtain ⟨p0, p1, p2, p3, p4, p5, p6, p7, p8, p9⟩ := id v5
  have h4 := hw.2.2.2.2.2.1
  have he := hF.1.2.2.2.1
  refine e_X11_entry hs ?_
  simp only [entryV] at h
  refine t_hasEntry (T := T) hs hF p0 ⟨fun hb => ?_, fun hb => ?_⟩
  · rw [hb, if_pos rfl] at h
    obtain ⟨k, ck, c0, c2⟩ := in_ex (by omega) hb
    rw [c2] at h
    refine ⟨fun e0 => ⟨k, ck, by omega, ?_⟩, fun e0 => ⟨fun e1 => ⟨k, ck, by omega, ?_⟩, fun e1 => ⟨fun e2 => ⟨k, ck, by omega, ?_⟩, fun e2 => ⟨fun e3 => ⟨k, ck, by omega, ?_⟩, fun e3 => ⟨fun e4 => ⟨k, ck, by omega, ?_⟩, fun e4 => ⟨fun e5 => ⟨k, ck, by omega, ?_⟩, fun e5 => ⟨fun e6 => ⟨k, ck, by omega, ?_⟩, fun e6 => ⟨fun e7 => ?_, fun e7 => ⟨fun e8 => ⟨k, ck, by omega, ?_⟩, fun e8 => ?_⟩⟩⟩⟩⟩⟩⟩⟩⟩
    · rw [if_pos e0] at h; rw [show I 31 k = _ from p1 k c0]; exact h I frC_rf
    · rw [if_neg e0, if_pos e1] at h; rw [show I 33 k = _ from p3 k c0]; exact h I frC_rf
    · rw [if_neg e0, if_neg e1, if_pos e2] at h; rw [show I 34 k = _ from p4 k c0]; exact h I frC_rf
    · rw [if_neg e0, if_neg e1, if_neg e2, if_pos e3] at h; rw [show I 35 k = _ from p5 k c0]; exact h I frC_rf
    · rw [if_neg e0, if_neg e1, if_neg e2, if_neg e3, if_pos e4] at h; rw [show I 36 k = _ from p6 k c0]; exact h I frC_rf
    · rw [if_neg e0, if_neg e1, if_neg e2, if_neg e3, if_neg e4, if_pos e5] at h; rw [show I 37 k = _ from p7 k c0]; exact h I frC_rf
    · rw [if_neg e0, if_neg e1, if_neg e2, if_neg e3, if_neg e4, if_neg e5, if_pos e6] at h; rw [show I 32 k = _ from p2 k c0]; exact h I frC_rf
    · rw [if_neg e0, if_neg e1, if_neg e2, if_neg e3, if_neg e4, if_neg e5, if_neg e6, if_pos e7] at h
      rw [ck]
      exact t_outsThat hw hF hc c0 h
    · rw [if_neg e0, if_neg e1, if_neg e2, if_neg e3, if_neg e4, if_neg e5, if_neg e6, if_neg e7, if_pos e8] at h; rw [show I 39 k = _ from p9 k c0]; exact h I frC_rf
    · rw [if_neg e0, if_neg e1, if_neg e2, if_neg e3, if_neg e4, if_neg e5, if_neg e6, if_neg e7, if_neg e8] at h; exact h I frC_rf
  · rw [hb, if_neg (by decide)] at h
    exact h I frC_rf
theorem t_outsOn {x : Nat} {Q : Int32 → HI → Prop} (hw : wfG G D N) (hF : finT G T) (hr : rQ I J R G T) (h80 : I 80 0 = 0) (hx : x < T 0 4) (h : ∀ I', frA I I' J J → Q (nI (smN (oonN T x) (T 0 3))) I') : Wc fi (d + 3) M_X12_outsOn [.ref 80, .int (nI x)] I J R Q := by
  have hs := hr.1
  have h4 := hw.2.2.2.2.2.1
  have he := hF.1.2.2.2.1
  have h20 := hF.1.2.2.2.2.1
  have hf0 : frA I I J J := ⟨fun _ _ _ => rfl, fun _ _ => rfl, h80, fun _ _ => rfl⟩
  refine ⟨Nat.le_of_ble_eq_true rfl, fun K hK => ?_⟩
  refine g_X12_outsOn_0 hK hs ?_
  refine t_laysOn hs h4 hF hr.2.2.1 (by omega) (fun I1 f1 mm => ?_)
  have hfr := frA_c (c := 109) (by decide) (by decide) hf0 f1
  have hr1 := (rQ_fr hfr hr).2.2.1
  have loop : ∀ m i, i + m = T 0 3 → K 9 [(0, .ref 80), (1, .int (nI x)), (2, .int (nI (smN (oonN T x) i))), (3, .int (nI i))] [] I1 J R := by
    intro m
    induction m with
    | zero =>
      intro i hi
      have hie : i = T 0 3 := by omega
      subst hie
      refine g_X12_outsOn_9 hK hs ?_
      rw [hr1.1.2.2.1]
      exact ⟨fun _ => h I1 hfr, fun hc => absurd (nI_le (Nat.le_refl _) (by omega)) hc⟩
    | succ m ih =>
      intro i hi
      have nx := ih (i + 1) (by omega)
      simp only [smN] at nx
      have hok := (hF.2.2.2.1 i (by omega)).2
      refine g_X12_outsOn_9 hK hs ?_
      rw [hr1.1.2.2.1, nI_z, nI_1, nI_1]
      refine ⟨fun hc => absurd hc (nI_ge (by omega) (by omega)), fun _ => ⟨i, rfl, by omega, ?_⟩⟩
      rw [hr1.2.2.2.2.1.2 i (by omega)]
      refine t_isOn (T := T) (n := T 0 4) hs he (okS_n h4 hok) (by omega) mm ⟨fun hb => ?_, fun hb => ?_⟩
      · rw [show oonN T x i = 0 by simp only [oonN, fwT, hb]; rfl, Nat.add_zero] at nx
        exact nx
      · rw [show oonN T x i = 1 by simp only [oonN, fwT, hb]; rfl] at nx
        exact nx
  exact loop (T 0 3) 0 (by omega)
theorem t_inputsOf {x : Nat} {Q : Int32 → HI → Prop} (hw : wfG G D N) (hF : finT G T) (hr : rQ I J R G T) (h80 : I 80 0 = 0) (hx : x < T 0 4) (h : ∀ I', frA I I' J J → Q (nI (T 18 x)) I') : Wc fi (d + 3) M_X12_inputsOf [.ref 80, .int (nI x)] I J R Q := by
  have hs := hr.1
  have h4 := hw.2.2.2.2.2.1
  have he := hF.1.2.2.2.1
  have hf0 : frA I I J J := ⟨fun _ _ _ => rfl, fun _ _ => rfl, h80, fun _ _ => rfl⟩
  refine ⟨Nat.le_of_ble_eq_true rfl, fun K hK => ?_⟩
  have hall : orB (T 18 x) (G 3 2) = T 18 x := orB_all (t18_lt h4 he hF.2.2.2.2.1 (T 0 4) x (Nat.le_refl _) hx)
  have loop : ∀ (m i : Nat) (I1 : HI), i + m = G 3 2 → frA I I1 J J → K 4 [(0, .ref 80), (1, .int (nI x)), (2, .int (nI (orB (T 18 x) i))), (3, .int (nI i))] [] I1 J R := by
    intro m
    induction m with
    | zero =>
      intro i I1 hi hfr
      have hie : i = G 3 2 := by omega
      subst hie
      refine g_X12_inputsOf_4 hK hs ?_
      rw [(rQ_fr hfr hr).2.1.2.2.1, hall]
      exact ⟨fun _ => h I1 hfr, fun hc => absurd (nI_le (Nat.le_refl _) (by omega)) hc⟩
    | succ m ih =>
      intro i I1 hi hfr
      refine g_X12_inputsOf_4 hK hs ?_
      rw [(rQ_fr hfr hr).2.1.2.2.1, nI_1, shl1 (by omega), or_nI, show (1000 : Int32) + nI i = nI (1000 + i) from nI_add 1000 i]
      refine ⟨fun hc => absurd hc (nI_ge (by omega) (by omega)), fun _ => ?_⟩
      refine t_laysOn hs h4 hF (rQ_fr hfr hr).2.2.1 (by omega) (fun I2 f2 mm => ⟨x, rfl, by omega, ?_⟩)
      have nx := ih (i + 1) I2 (by omega) (frA_c (c := 109) (by decide) (by decide) hfr f2)
      simp only [orB] at nx
      have hbit : fwT T (1000 + i) x = (T 18 x).testBit i := fwM_bit (by omega) h4 he hF.2.2.2.2.1 (T 0 4) x (Nat.le_refl _) hx
      rw [mkR_z mm hx, hbit]
      refine ⟨fun hb => ?_, fun hb => ?_⟩
      · rw [hb, if_neg (by decide), Nat.or_zero] at nx
        exact nx
      · rw [Bool.not_eq_false] at hb
        rw [hb, if_pos rfl] at nx
        exact nx
  exact g_X12_inputsOf_0 hK hs (loop (G 3 2) 0 I (by omega) hf0)
theorem m_entry {Q : Int32 → HI → Prop} (hw : wfG G D N) (hF : finT G T) (hr : rQ I J R G T) (h : ∀ I', frA I I' J J → Q (entryV T x1 x2) I') : Wc fi (d + 4) M_X12_entry [.ref 80, .int x1, .int x2] I J R Q := by
  have hs := hr.1
  have he := hF.1.2.2.2.1
  have hf0 : frA I (up I 80 0 0) J J := frA_0
  have hr0 := rQ_fr hf0 hr
  obtain ⟨hs1, hP1, ⟨⟨a44, a47, a54, a56, a57, a61⟩, ⟨b99, b100⟩, ⟨b101, b102⟩, ⟨b103, b104⟩, ⟨b105, b106⟩, ⟨b92, b98, b93, b94, b95, b96, b97⟩, b107, b108⟩, hst⟩ := id hr
  refine e_X12_entry hs ?_
  simp only [entryV] at h
  refine t_isEntry hs hF hr0.2.2.1 ⟨fun hb => ?_, fun hb => ?_⟩
  · rw [hb, if_pos rfl] at h
    obtain ⟨k, ck, c0, c2⟩ := in_ex (by omega) hb
    rw [c2] at h
    refine ⟨fun e0 => ⟨k, ck, by omega, ?_⟩, fun e0 => ⟨fun e1 => ⟨k, ck, by omega, ?_⟩, fun e1 => ⟨fun e2 => ⟨k, ck, by omega, ?_⟩, fun e2 => ⟨fun e3 => ⟨k, ck, by omega, ?_⟩, fun e3 => ⟨fun e4 => ⟨k, ck, by omega, ?_⟩, fun e4 => ⟨fun e5 => ⟨k, ck, by omega, ?_⟩, fun e5 => ⟨fun e6 => ⟨k, ck, by omega, ?_⟩, fun e6 => ⟨fun e7 => ?_, fun e7 => ⟨fun e8 => ?_, fun e8 => ?_⟩⟩⟩⟩⟩⟩⟩⟩⟩
    · rw [if_pos e0] at h; rw [b92 k c0]; exact h _ hf0
    · rw [if_neg e0, if_pos e1] at h; rw [b93 k c0, lN_i]; exact h _ hf0
    · rw [if_neg e0, if_neg e1, if_pos e2] at h; rw [b94 k c0, lN_i]; exact h _ hf0
    · rw [if_neg e0, if_neg e1, if_neg e2, if_pos e3] at h; rw [b95 k c0, lN_i]; exact h _ hf0
    · rw [if_neg e0, if_neg e1, if_neg e2, if_neg e3, if_pos e4] at h; rw [b96 k c0]; exact h _ hf0
    · rw [if_neg e0, if_neg e1, if_neg e2, if_neg e3, if_neg e4, if_pos e5] at h; rw [b97 k c0]; exact h _ hf0
    · rw [if_neg e0, if_neg e1, if_neg e2, if_neg e3, if_neg e4, if_neg e5, if_pos e6] at h; rw [b98 k c0]; exact h _ hf0
    · rw [if_neg e0, if_neg e1, if_neg e2, if_neg e3, if_neg e4, if_neg e5, if_neg e6, if_pos e7] at h
      rw [ck]
      exact t_outsOn hw hF hr0 up_s c0 (fun I' g => h I' (frA_tr hf0 g))
    · rw [if_neg e0, if_neg e1, if_neg e2, if_neg e3, if_neg e4, if_neg e5, if_neg e6, if_neg e7, if_pos e8] at h
      rw [ck]
      exact t_inputsOf hw hF hr0 up_s c0 (fun I' g => h I' (frA_tr hf0 g))
    · rw [if_neg e0, if_neg e1, if_neg e2, if_neg e3, if_neg e4, if_neg e5, if_neg e6, if_neg e7, if_neg e8] at h; exact h _ hf0
  · rw [hb, if_neg (by decide)] at h
    exact h _ hf0
end BC
