/-! hangs, back of the reference -/
theorem mkR_01 {I : HI} {a n k : Nat} {M : Nat → Bool} (h : mkR I a M n) (hk : k < n) : I a k = 0 ∨ I a k = 1 := by
  rw [h k hk]
  cases M k
  · exact Or.inl rfl
  · exact Or.inr rfl
theorem mkR_cg {I I' : HI} {a n : Nat} {M : Nat → Bool} (hf : I' a = I a) (h : mkR I a M n) : mkR I' a M n := by
  simp only [mkR, hf]
  exact h
theorem in_ex {x : Int32} {n : Nat} (hn : n < 2 ^ 31) (h : inN x n = true) : ∃ k, x = nI k ∧ k < n ∧ xN x = k := by
  rcases xc x n hn with ⟨_, c1⟩ | ⟨_, _, _, c3⟩ | ⟨k, ck, c0, c1, c2, _⟩
  · rw [c1] at h; cases h
  · rw [c3] at h; cases h
  · exact ⟨k, ck, c0, c2⟩
section AW
variable {d : Nat} {I : HI} {J : HJ} {R : HR} {G T : SP} {D : Nat → Nat} {N : Nat → List Nat} {inp : Nat → Nat} {x1 x2 x3 : Int32}
theorem m_hangs {Q : Int32 → HI → Prop} (hw : wfG G D N) (hF : finT G T) (hr : rQ I J R G T) (h : ∀ I', frA I I' J J → Q (hangsV G T x1 x2 x3) I') : Wc fi (d + 3) M_X12_hangs [.ref 80, .int x1, .int x2, .int x3] I J R Q := by
  have hs := hr.1
  have h4 := hw.2.2.2.2.2.1
  have he := hF.1.2.2.2.1
  have h20 := hF.1.2.2.2.2.1
  have hf0 : frA I (up I 80 0 0) J J := frA_0
  have hr0 := rQ_fr hf0 hr
  have e44 : ∀ I', frA I I' J J → I' 80 44 = nI (T 0 4) := fun I' q => (rQ_fr q hr).2.2.1.1.1
  refine ⟨Nat.le_of_ble_eq_true rfl, fun K hK => ?_⟩
  have loop0 : ∀ (s : Nat) (I1 : HI), frA I I1 J J → mkR I1 109 (bkT T s) (T 0 4) → Q (nI (smN (hg0 T s) (T 0 4))) I1 → ∀ m i, i + m = T 0 4 → K 52 [(0, .ref 80), (4, .int (nI (smN (hg0 T s) i))), (5, .int (nI i))] [] I1 J R := by
    intro s I1 hf hm hq m
    induction m with
    | zero =>
      intro i hi
      have hie : i = T 0 4 := by omega
      subst hie
      refine g_X12_hangs_52 hK hs ?_
      rw [e44 I1 hf]
      exact ⟨fun _ => hq, fun hc => absurd (nI_le (Nat.le_refl _) (by omega)) hc⟩
    | succ m ih =>
      intro i hi
      have nx := ih (i + 1) (by omega)
      simp only [smN] at nx
      refine g_X12_hangs_52 hK hs ?_
      rw [e44 I1 hf, nI_z, nI_1, nI_1]
      refine ⟨fun hc => absurd hc (nI_ge (by omega) (by omega)), fun _ => ⟨i, rfl, by omega, ?_⟩⟩
      rw [mkR_z hm (by omega)]
      refine ⟨fun hb => ?_, fun hb => ?_⟩
      · rw [show hg0 T s i = 0 by simp [hg0, hb], Nat.add_zero] at nx
        exact nx
      · rw [Bool.not_eq_false] at hb
        rw [show hg0 T s i = 1 by simp [hg0, hb]] at nx
        exact nx
  have loop1 : ∀ (s k : Nat) (I1 : HI), k < 4 → frA I I1 J J → mkR I1 109 (fwT T (1000 + k)) (T 0 4) → mkR I1 110 (bkT T s) (T 0 4) → Q (nI (smN (hg1 T s k) (T 0 4))) I1 → ∀ m i, i + m = T 0 4 → K 139 [(0, .ref 80), (4, .int (nI (smN (hg1 T s k) i))), (5, .int (nI i))] [] I1 J R := by
    intro s k I1 hk4 hf hm hm2 hq m
    induction m with
    | zero =>
      intro i hi
      have hie : i = T 0 4 := by omega
      subst hie
      refine g_X12_hangs_139 hK hs ?_
      rw [e44 I1 hf]
      exact ⟨fun _ => hq, fun hc => absurd (nI_le (Nat.le_refl _) (by omega)) hc⟩
    | succ m ih =>
      intro i hi
      have nx := ih (i + 1) (by omega)
      simp only [smN] at nx
      refine g_X12_hangs_139 hK hs ?_
      rw [e44 I1 hf, nI_z, nI_1, nI_1]
      refine ⟨fun hc => absurd hc (nI_ge (by omega) (by omega)), fun _ => ⟨i, rfl, by omega, ?_⟩⟩
      have hbit : fwT T (1000 + k) i = (T 18 i).testBit k := fwM_bit hk4 h4 he hF.2.2.2.2.1 (T 0 4) i (Nat.le_refl _) (by omega)
      rw [mkR_z hm (by omega), mkR_z hm2 (by omega), hbit]
      refine ⟨fun hb => ?_, fun hb => ⟨fun hc => ?_, fun hc => ?_⟩⟩
      · rw [show hg1 T s k i = 0 by simp [hg1, hb], Nat.add_zero] at nx
        exact nx
      · rw [show hg1 T s k i = 0 by simp [hg1, hc], Nat.add_zero] at nx
        exact nx
      · rw [Bool.not_eq_false] at hb hc
        rw [show hg1 T s k i = 1 by simp [hg1, hb, hc]] at nx
        exact nx
  have copy : ∀ (s k : Nat) (I1 : HI), k < 4 → x2 = nI k → frA I I1 J J → mkR I1 109 (bkT T s) (T 0 4) → (∀ I', frA I I' J J → Q (nI (smN (hg1 T s k) (T 0 4))) I') → ∀ (m i : Nat) (I2 : HI), i + m = T 0 4 → (∀ a, ¬ a = 110 → I2 a = I1 a) → mkR I2 110 (bkT T s) i → K 98 [(0, .ref 80), (2, .int x2), (4, .int (b2i false)), (5, .int (nI i))] [] I2 J R := by
    intro s k I1 hk4 hx2 hf hm hq m
    induction m with
    | zero =>
      intro i I2 hi hf2 hm2
      have hie : i = T 0 4 := by omega
      subst hie
      have hfr2 := frA_c (c := 110) (by decide) (by decide) hf hf2
      refine g_X12_hangs_98 hK hs ?_
      rw [e44 I2 hfr2]
      refine ⟨fun _ => ?_, fun hc => absurd (nI_le (Nat.le_refl _) (by omega)) hc⟩
      rw [hx2, show (1000 : Int32) + nI k = nI (1000 + k) from nI_add 1000 k]
      refine t_laysOn hs h4 hF (rQ_fr hfr2 hr).2.2.1 (by omega) (fun I3 f3 m3 => ?_)
      have hfr3 := frA_c (c := 109) (by decide) (by decide) hfr2 f3
      exact loop1 s k I3 hk4 hfr3 m3 (mkR_cg (f3 110 (by decide)) hm2) (hq I3 hfr3) (T 0 4) 0 (by omega)
    | succ m ih =>
      intro i I2 hi hf2 hm2
      have hfr2 := frA_c (c := 110) (by decide) (by decide) hf hf2
      have hm' := mkR_cg (hf2 109 (by decide)) hm
      refine g_X12_hangs_98 hK hs ?_
      rw [e44 I2 hfr2, nI_1]
      refine ⟨fun hc => absurd hc (nI_ge (by omega) (by omega)), fun _ => ⟨i, rfl, by omega, mkR_01 hm' (by omega), ?_⟩⟩
      refine ih (i + 1) _ (by omega) (fun a ha => (up_ne _ _ _ _ ha).trans (hf2 a ha)) ?_
      rw [hm' i (by omega)]
      have := mkR_push (b := bkT T s i) hm2
      intro j hj
      rw [this j hj]
      by_cases hji : j = i
      · simp [hji]
      · simp [hji]
  refine g_X12_hangs_0 hK hs ?_
  simp only [hangsV] at h
  refine t_isOut hs hF hr0.2.2.1 ⟨fun hb => ?_, fun hb => ?_⟩
  · rw [hb, if_neg (by decide)] at h
    exact h _ hf0
  · rw [hb, if_pos rfl] at h
    obtain ⟨k, ck, c0, c2⟩ := in_ex (by omega) hb
    rw [c2] at h
    refine ⟨fun e => ?_, fun e => ⟨fun e1 => ?_, fun e1 => ⟨fun e2 => ?_, fun e2 => ?_⟩⟩⟩
    · rw [if_pos e] at h
      exact h _ hf0
    · rw [if_neg e, if_pos e1] at h
      exact h _ hf0
    · rw [if_neg e, if_neg e1, if_neg e2] at h
      refine ⟨fun hz => absurd (x_01 e e1 e2) hz, fun _ => ?_⟩
      rw [ck]
      refine t_laysBack hs h4 hF hr0.2.2.1 c0 (fun I1 f1 mm => ?_)
      have hfr := frA_c (c := 109) (by decide) (by decide) hf0 f1
      exact loop0 (T 8 k) I1 hfr mm (h I1 hfr) (T 0 4) 0 (by omega)
    · rw [if_neg e, if_neg e1, if_pos e2] at h
      have z0 : ¬ x3 = 0 := by rw [e2]; decide
      refine t_isInput hs h4 hr0.2.1.2.2.1 ⟨fun hi => ⟨fun _ => ?_, fun hz => absurd hz z0⟩, fun hi => ?_⟩
      · rw [hi, if_pos rfl] at h
        obtain ⟨k2, ck2, c02, c22⟩ := in_ex (by omega) hi
        rw [c22] at h
        rw [ck]
        refine t_laysBack hs h4 hF hr0.2.2.1 c0 (fun I1 f1 mm => ?_)
        have hfr := frA_c (c := 109) (by decide) (by decide) hf0 f1
        exact copy (T 8 k) k2 I1 (by omega) ck2 hfr mm h (T 0 4) 0 I1 (by omega) (fun _ _ => rfl) (fun j hj => absurd hj (by omega))
      · rw [hi, if_neg (by decide)] at h
        exact h _ hf0
theorem m_back {Q : Int32 → HI → Prop} (hw : wfG G D N) (hF : finT G T) (hr : rQ I J R G T) (h : ∀ I', frA I I' J J → Q (backV T x1 x2) I') : Wc fi (d + 3) M_X12_back [.ref 80, .int x1, .int x2] I J R Q := by
  have hs := hr.1
  have h4 := hw.2.2.2.2.2.1
  have he := hF.1.2.2.2.1
  have h20 := hF.1.2.2.2.2.1
  have hf0 : frA I (up I 80 0 0) J J := frA_0
  have hr0 := rQ_fr hf0 hr
  refine ⟨Nat.le_of_ble_eq_true rfl, fun K hK => ?_⟩
  refine g_X12_back_0 hK hs ?_
  simp only [backV] at h
  refine t_isOut hs hF hr0.2.2.1 ⟨fun hb => ?_, fun hb => ?_⟩
  · rw [hb, if_neg (by decide)] at h
    exact h _ hf0
  · rw [hb, if_pos rfl] at h
    obtain ⟨k, ck, c0, c2⟩ := in_ex (by omega) hb
    rw [c2] at h
    refine ⟨fun e => ?_, fun e => ?_⟩
    · rw [if_pos e] at h
      have hb2 : xN x2 < 2 ^ 31 := by have := x2.toInt_lt; simp only [xN]; omega
      have hx2 : x2 = nI (xN x2) := (x_eqn x2 hb2).mpr (by rw [x_0le] at e; simp only [xN]; omega)
      rw [ck]
      refine t_laysBack hs h4 hF hr0.2.2.1 c0 (fun I1 f1 mm => ?_)
      have hfr := frA_c (c := 109) (by decide) (by decide) hf0 f1
      have hq := h I1 hfr
      have loop : ∀ (i c : Nat), i ≤ T 0 4 → c < 2 ^ 31 → nthD (bkT T (T 8 k)) i c = nthD (bkT T (T 8 k)) (T 0 4) (xN x2) → K 34 [(0, .ref 80), (3, .int (nI c)), (4, .int (nI i - 1))] [] I1 J R := by
        intro i
        induction i with
        | zero =>
          intro c hi hcx hn
          refine g_X12_back_34 hK hs ⟨fun _ => ?_, fun hc => absurd nI_01 hc⟩
          simp only [nthD] at hn
          rw [hn]
          exact hq
        | succ i ih =>
          intro c hi hcx hn
          rw [nI_s1]
          refine g_X12_back_34 hK hs ⟨fun hc => absurd hc (nI_pos (by omega)), fun _ => ⟨i, rfl, by omega, ?_⟩⟩
          simp only [nthD] at hn
          have ce : (nI c = 0) ↔ c = 0 := nI_eq (b := 0) hcx (by decide)
          rw [m1, m1, mkR_z mm (by omega), ce]
          refine ⟨fun hb => ?_, fun hb => ?_⟩
          · rw [Bool.not_eq_false] at hb
            rw [hb, if_pos rfl] at hn
            refine ⟨fun q => ?_, fun q => ?_⟩
            · rw [if_neg q] at hn
              rw [sub1 (by omega)]
              exact ih (c - 1) (by omega) (by omega) hn
            · rw [if_pos q] at hn
              rw [hn]
              exact hq
          · rw [hb, if_neg (by decide)] at hn
            exact ih c (by omega) hcx hn
      rw [(rQ_fr hfr hr).2.2.1.1.1, hx2]
      exact loop (T 0 4) (xN x2) (Nat.le_refl _) hb2 rfl
    · rw [if_neg e] at h
      exact h _ hf0
end AW
