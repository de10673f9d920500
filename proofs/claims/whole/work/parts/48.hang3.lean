/-! which ENTRIES HANG, for the reference -/
theorem sI_lt0 {s : Nat} (h : s ≤ 5000) : (sI s < 0) ↔ s = 5000 := by
  by_cases h5 : s = 5000
  · subst h5
    exact ⟨fun _ => rfl, fun _ => by decide⟩
  · rw [sI_n h5]
    exact ⟨fun hc => absurd hc (nI_pos (by omega)), fun hc => absurd hc h5⟩
theorem sI_eq {s x : Nat} (h : s ≤ 5000) (hx : x < 5000) : (sI s = nI x) ↔ s = x := by
  by_cases h5 : s = 5000
  · subst h5
    refine ⟨fun hc => ?_, fun hc => by omega⟩
    exfalso
    have h1 : sI 5000 < 0 := by decide
    rw [hc] at h1
    exact nI_pos (by omega) h1
  · rw [sI_n h5]
    exact nI_eq (by omega) (by omega)
section HC
variable {d : Nat} {I : HI} {J : HJ} {R : HR} {G T : SP} {L : List Nat}
theorem t_isOn {s x n : Nat} {Q : Bool → Prop} (hs : Stat R) (hn : n ≤ 400) (hN : s < n ∨ (1000 ≤ s ∧ s ≤ 5000)) (hx : x < 5000) (hM : mkR I 109 (fwM T x n) n) (h : Q (decide (s = x) || fwM T x n s)) : Wp fb (d + 1) M_X12_isOn [.ref 80, .int (sI s), .int (nI x)] I J R Q := by
  refine e_X12_isOn hs ?_
  rw [sI_eq (by omega) hx, sI_lt0 (by omega)]
  refine ⟨fun hc => ?_, fun hc => ?_⟩
  · rw [decide_eq_true hc, Bool.true_or] at h
    exact h
  · rw [decide_eq_false hc, Bool.false_or] at h
    refine ⟨fun h5 => ?_, fun h5 => ?_⟩
    · rw [fwM_no _ _ _ _ (by omega)] at h
      exact h
    · rw [sI_n h5]
      rcases hN with h4 | h4
      · refine ⟨fun hc => absurd hc (nI_ge (b := 1000) (by omega) (by omega)), fun _ => ⟨s, rfl, by omega, ?_⟩⟩
        rw [mkR_z hM h4]
        refine ⟨fun hc => ?_, fun hc => ?_⟩
        · rw [hc] at h; exact h
        · rw [Bool.not_eq_false] at hc; rw [hc] at h; exact h
      · rw [fwM_no _ _ _ _ (by omega)] at h
        exact ⟨fun _ => h, fun hc => absurd (nI_le (a := 1000) (by omega) (by omega)) hc⟩
theorem okS_n {e s : Nat} (h4 : G 3 2 ≤ 4) (h : okS G e s) : s < e ∨ (1000 ≤ s ∧ s ≤ 5000) := by
  simp only [okS] at h
  omega
theorem t_laysOn {x : Nat} {Q : Unit → HI → Prop} (hs : Stat R) (h4 : G 3 2 ≤ 4) (hF : finT G T) (hM : qM I J T L) (hx : x < 5000) (h : ∀ I', (∀ a, ¬ a = 109 → I' a = I a) → mkR I' 109 (fwT T x) (T 0 4) → Q () I') : Wc fv (d + 2) M_X12_laysOn [.ref 80, .int (nI x)] I J R Q := by
  refine ⟨Nat.le_of_ble_eq_true rfl, fun K hK => ?_⟩
  have he := hF.1.2.2.2.1
  have hE := hF.2.2.2.2.1
  obtain ⟨⟨a44, a47, a54, a56, a57, a61⟩, ⟨b99, b100⟩, ⟨b101, b102⟩, ⟨b103, b104⟩, ⟨b105, b106⟩, ⟨b92, b98, b93, b94, b95, b96, b97⟩, b107, b108⟩ := id hM
  have loop : ∀ (m i : Nat) (I1 : HI), i + m = T 0 4 → (∀ a, ¬ a = 109 → I1 a = I a) → mkR I1 109 (fwM T x i) i → K 2 [(0, .ref 80), (1, .int (nI x)), (2, .int (nI i))] [] I1 J R := by
    intro m
    induction m with
    | zero =>
      intro i I1 hi hf hm
      have hie : i = T 0 4 := by omega
      refine g_X12_laysOn_2 hK hs ?_
      rw [hf 80 (by decide), a44, hie]
      refine ⟨fun _ => h I1 hf ?_, fun hc => absurd (nI_le (Nat.le_refl _) (by omega)) hc⟩
      rw [hie] at hm
      exact hm
    | succ m ih =>
      intro i I1 hi hf hm
      have hEi := hE i (by omega)
      have o14 := hEi.2.2.2.2.2.2.1
      have o15 := hEi.2.2.2.2.2.2.2.1
      refine g_X12_laysOn_2 hK hs ?_
      have cx : (nI i = nI x) ↔ i = x := nI_eq (by omega) (by omega)
      rw [hf 80 (by decide), a44, cx, nI_1]
      have fin : ∀ b : Bool, b = (decide (i = x) || (decide (T 14 i = x) || fwM T x i (T 14 i)) || (decide (T 15 i = x) || fwM T x i (T 15 i))) → K 2 [(0, .ref 80), (1, .int (nI x)), (2, .int (nI (i + 1)))] [] (up I1 109 i (if b = true then 1 else 0)) J R := by
        intro b hb
        refine ih (i + 1) _ (by omega) (fun a ha => (up_ne _ _ _ _ ha).trans (hf a ha)) ?_
        have := mkR_push (b := b) hm
        rw [hb] at this ⊢
        exact this
      refine ⟨fun hc => absurd hc (nI_ge (by omega) (by omega)), fun _ => ⟨fun hc => ⟨i, rfl, by omega, ?_⟩, fun hc => ⟨i, rfl, by omega, ?_⟩⟩⟩
      · exact fin true (by rw [decide_eq_true hc]; rfl)
      · rw [hf 96 (by decide), hf 97 (by decide), b96 i (by omega), b97 i (by omega)]
        refine t_isOn hs (by omega) (okS_n h4 o14) hx hm ⟨fun hb => ?_, fun hb => ?_⟩
        · exact fin true (by rw [decide_eq_false hc, hb]; rfl)
        · refine t_isOn hs (by omega) (okS_n h4 o15) hx hm ⟨fun hb2 => ?_, fun hb2 => ?_⟩
          · exact fin false (by rw [decide_eq_false hc, hb, hb2]; rfl)
          · exact fin true (by rw [decide_eq_false hc, hb, hb2]; rfl)
  exact g_X12_laysOn_0 hK hs (loop (T 0 4) 0 I (by omega) (fun _ _ => rfl) (fun j hj => absurd hj (by omega)))
theorem t_laysBack {k : Nat} {Q : Unit → HI → Prop} (hs : Stat R) (h4 : G 3 2 ≤ 4) (hF : finT G T) (hM : qM I J T L) (hk : k < T 0 3) (h : ∀ I', (∀ a, ¬ a = 109 → I' a = I a) → mkR I' 109 (bkT T (T 8 k)) (T 0 4) → Q () I') : Wc fv (d + 1) M_X12_laysBack [.ref 80, .int (nI k)] I J R Q := by
  refine ⟨Nat.le_of_ble_eq_true rfl, fun K hK => ?_⟩
  have he := hF.1.2.2.2.1
  have h3 := hF.1.2.2.2.2.1
  have hE := hF.2.2.2.2.1
  have hok := (hF.2.2.2.1 k hk).2
  have hN := okS_n h4 hok
  obtain ⟨⟨a44, a47, a54, a56, a57, a61⟩, ⟨b99, b100⟩, ⟨b101, b102⟩, ⟨b103, b104⟩, ⟨b105, b106⟩, ⟨b92, b98, b93, b94, b95, b96, b97⟩, b107, b108⟩ := id hM
  have loop2 : ∀ (i : Nat) (I1 : HI) (M : Nat → Bool), i ≤ T 0 4 → (∀ a, ¬ a = 109 → I1 a = I a) → mkR I1 109 M (T 0 4) → bkF T i M = bkT T (T 8 k) → K 44 [(0, .ref 80), (2, .int (nI i - 1))] [] I1 J R := by
    intro i
    induction i with
    | zero =>
      intro I1 M hi hf hm hb
      refine g_X12_laysBack_44 hK hs ⟨fun _ => h I1 hf ?_, fun hc => absurd nI_01 hc⟩
      rw [← hb]
      exact hm
    | succ i ih =>
      intro I1 M hi hf hm hb
      rw [nI_s1]
      have hEi := hE i (by omega)
      have o14 := okS_n h4 hEi.2.2.2.2.2.2.1
      have o15 := okS_n h4 hEi.2.2.2.2.2.2.2.1
      refine g_X12_laysBack_44 hK hs ⟨fun hc => absurd hc (nI_pos (by omega)), fun _ => ⟨i, rfl, by omega, ?_⟩⟩
      rw [mkR_z hm (by omega), m1]
      simp only [bkF] at hb
      refine ⟨fun hc => ?_, fun hc => ?_⟩
      · rw [Bool.not_eq_false] at hc
        rw [if_pos hc] at hb
        have k93 : ∀ (I2 : HI), (∀ a, ¬ a = 109 → I2 a = I a) → mkR I2 109 (seM M (T 14 i)) (T 0 4) → K 93 [(0, .ref 80), (2, .int (nI i))] [] I2 J R := by
          intro I2 f2 m2
          refine g_X12_laysBack_93 hK hs ⟨i, rfl, by omega, ?_⟩
          rw [f2 97 (by decide), b97 i (by omega), m1, sI_lt0 (by omega)]
          refine ⟨fun h5 => ih I2 _ (by omega) f2 (mkR_no (by omega) m2) hb, fun h5 => ?_⟩
          rw [sI_n h5]
          rcases o15 with q | q
          · refine ⟨fun hc => absurd hc (nI_ge (b := 1000) (by omega) (by omega)), fun _ => ⟨T 15 i, rfl, by omega, ?_⟩⟩
            exact ih _ _ (by omega) (fun a ha => (up_ne _ _ _ _ ha).trans (f2 a ha)) (mkR_se m2) hb
          · exact ⟨fun _ => ih I2 _ (by omega) f2 (mkR_no (by omega) m2) hb, fun hc => absurd (nI_le (a := 1000) (by omega) (by omega)) hc⟩
        rw [hf 96 (by decide), b96 i (by omega), sI_lt0 (by omega)]
        refine ⟨fun h5 => k93 I1 hf (mkR_no (by omega) hm), fun h5 => ?_⟩
        rw [sI_n h5]
        rcases o14 with q | q
        · refine ⟨fun hc => absurd hc (nI_ge (b := 1000) (by omega) (by omega)), fun _ => ⟨T 14 i, rfl, by omega, ?_⟩⟩
          exact k93 _ (fun a ha => (up_ne _ _ _ _ ha).trans (hf a ha)) (mkR_se hm)
        · exact ⟨fun _ => k93 I1 hf (mkR_no (by omega) hm), fun hc => absurd (nI_le (a := 1000) (by omega) (by omega)) hc⟩
      · rw [if_neg (by rw [hc]; decide)] at hb
        exact ih I1 M (by omega) hf hm hb
  have loop1 : ∀ (m i : Nat) (I1 : HI), i + m = T 0 4 → (∀ a, ¬ a = 109 → I1 a = I a) → mkR I1 109 (seM (fun _ => false) (T 8 k)) i → K 2 [(0, .ref 80), (1, .int (nI k)), (2, .int (nI i))] [] I1 J R := by
    intro m
    induction m with
    | zero =>
      intro i I1 hi hf hm
      have hie : i = T 0 4 := by omega
      refine g_X12_laysBack_2 hK hs ?_
      rw [hf 80 (by decide), a44, hie]
      refine ⟨fun _ => ?_, fun hc => absurd (nI_le (Nat.le_refl _) (by omega)) hc⟩
      rw [hie] at hm
      exact loop2 (T 0 4) I1 _ (Nat.le_refl _) hf hm rfl
    | succ m ih =>
      intro i I1 hi hf hm
      refine g_X12_laysBack_2 hK hs ?_
      rw [hf 80 (by decide), a44, hf 106 (by decide), nI_1]
      refine ⟨fun hc => absurd hc (nI_ge (by omega) (by omega)), fun _ => ⟨k, rfl, by omega, ?_⟩⟩
      rw [b106 k hk, eq_comm (a := nI i), sI_eq (by omega) (by omega)]
      have fin : ∀ b : Bool, b = decide (i = T 8 k) → K 2 [(0, .ref 80), (1, .int (nI k)), (2, .int (nI (i + 1)))] [] (up I1 109 i (if b = true then 1 else 0)) J R := by
        intro b hb
        refine ih (i + 1) _ (by omega) (fun a ha => (up_ne _ _ _ _ ha).trans (hf a ha)) ?_
        have h1 := mkR_push (b := b) hm
        intro j hj
        rw [h1 j hj]
        by_cases hji : j = i
        · subst hji
          simp [seM, hb]
        · simp [hji]
      exact ⟨fun hc => ⟨i, rfl, by omega, fin false (decide_eq_false (fun q => hc q.symm)).symm⟩, fun hc => ⟨i, rfl, by omega, fin true (decide_eq_true hc.symm).symm⟩⟩
  exact g_X12_laysBack_0 hK hs (loop1 (T 0 4) 0 I (by omega) (fun _ _ => rfl) (fun j hj => absurd hj (by omega)))
end HC
