/-! hangs, back: both sides -/
def hg0 (T : SP) (s j : Nat) : Nat := if bkT T s j = true then 1 else 0
def hg1 (T : SP) (s k j : Nat) : Nat := if bkT T s j = true then (if (T 18 j).testBit k = true then 1 else 0) else 0
def hangsV (G T : SP) (x1 x2 x3 : Int32) : Int32 := if inN x1 (T 0 3) = true then (if x3 < 0 then -1 else if 1 < x3 then -1 else if x3 = 1 then (if inN x2 (G 3 2) = true then nI (smN (hg1 T (T 8 (xN x1)) (xN x2)) (T 0 4)) else -1) else nI (smN (hg0 T (T 8 (xN x1))) (T 0 4))) else -1
/-- the c-th that is marked, from above -/
def nthD (M : Nat → Bool) : Nat → Nat → Int32
  | 0, _ => -2
  | i + 1, c => if M i = true then (if c = 0 then nI i else nthD M i (c - 1)) else nthD M i c
def backV (T : SP) (x1 x2 : Int32) : Int32 := if inN x1 (T 0 3) = true then (if 0 ≤ x2 then nthD (bkT T (T 8 (xN x1))) (T 0 4) (xN x2) else -1) else -1
theorem nI_z (a : Nat) : nI a + 0 = nI a := nI_add a 0
theorem x_01 {x : Int32} (h0 : ¬ x < 0) (h1 : ¬ 1 < x) (h2 : ¬ x = 1) : x = 0 := by
  rw [x_lt0] at h0
  rw [show (1 : Int32) = nI 1 from rfl, x_nlt x (by decide)] at h1
  rw [show (1 : Int32) = nI 1 from rfl, x_eqn x (by decide)] at h2
  exact (x_eqn (n := 0) x (by decide)).mpr (by omega)
section AV
variable {d : Nat} {I : HI} {J : HJ} {R : HR} {G T : SP} {D : Nat → Nat} {N : Nat → List Nat} {inp : Nat → Nat} {x1 x2 x3 : Int32}
theorem c_hangs {Q : Int32 → HI → Prop} (hw : wfG G D N) (hF : finT G T) (hc : cQ I R G N T) (h : ∀ I', frC I I' → Q (hangsV G T x1 x2 x3) I') : Wc fi (d + 3) M_X11_hangs [.ref 0, .int x1, .int x2, .int x3] I J R Q := by
  obtain ⟨hs, ⟨p, hp1, hp2, hp3⟩, ⟨n1, n2, n3⟩, v1, v2, v3, v4, v5, v6, v7⟩ := id hc
  have h4 := hw.2.2.2.2.2.1
  have he := hF.1.2.2.2.1
  have h20 := hF.1.2.2.2.2.1
  refine ⟨Nat.le_of_ble_eq_true rfl, fun K hK => ?_⟩
  have loop : ∀ (s : Nat) (f : Nat → Nat) (I1 : HI), (∀ a, ¬ a = 40 → I1 a = I a) → mkR I1 40 (bkT T s) 400 → (∀ j, j < T 0 4 → (bkT T s j = false → f j = 0) ∧ (bkT T s j = true → (x3 = 0 → f j = 1) ∧ (¬ x3 = 0 → ((nI (T 18 j) &&& (1 <<< (x2 &&& 31))) = 0 → f j = 0) ∧ (¬ (nI (T 18 j) &&& (1 <<< (x2 &&& 31))) = 0 → f j = 1)))) → Q (nI (smN f (T 0 4))) I1 → ∀ m i, i + m = T 0 4 → K 59 [(0, .ref 0), (2, .int x2), (3, .int x3), (4, .int (nI (smN f i))), (5, .int (nI i))] [] I1 J R := by
    intro s f I1 hf hm hstep hq m
    induction m with
    | zero =>
      intro i hi
      have hie : i = T 0 4 := by omega
      subst hie
      refine g_X11_hangs_59 hK hs ?_
      rw [hf 30 (by decide), show I 30 0 = nI (T 0 4) from v5.1]
      exact ⟨fun _ => hq, fun hc => absurd (nI_le (Nat.le_refl _) (by omega)) hc⟩
    | succ m ih =>
      intro i hi
      obtain ⟨s1, s2⟩ := hstep i (by omega)
      have nx := ih (i + 1) (by omega)
      simp only [smN] at nx
      refine g_X11_hangs_59 hK hs ?_
      rw [hf 30 (by decide), show I 30 0 = nI (T 0 4) from v5.1, hf 39 (by decide), nI_1, nI_1]
      refine ⟨fun hc => absurd hc (nI_ge (by omega) (by omega)), fun _ => ?_⟩
      refine t_isMarkedN (M := bkT T s) hs (Or.inl rfl) (by omega) hm ⟨fun hb => ?_, fun hb => ?_⟩
      · rw [s1 hb, Nat.add_zero] at nx
        exact nx
      · refine ⟨fun e0 => ?_, fun e0 => ⟨i, rfl, by omega, ?_⟩⟩
        · rw [(s2 hb).1 e0] at nx
          exact nx
        · rw [show I 39 i = nI (T 18 i) from v5.2.2.2.2.2.2.2.2.2 i (by omega)]
          refine ⟨fun z => ?_, fun z => ?_⟩
          · rw [((s2 hb).2 e0).1 z, Nat.add_zero] at nx
            exact nx
          · rw [((s2 hb).2 e0).2 z] at nx
            exact nx
  refine g_X11_hangs_0 hK hs ?_
  simp only [hangsV] at h
  refine t_hasOut (T := T) hs hF v4.1 ⟨fun hb => ?_, fun hb => ?_⟩
  · rw [hb, if_neg (by decide)] at h
    exact h I frC_rf
  · rw [hb, if_pos rfl] at h
    obtain ⟨k, ck, c0, c2⟩ : ∃ k, x1 = nI k ∧ k < T 0 3 ∧ xN x1 = k := by
      rcases xc x1 (T 0 3) (by omega) with ⟨_, c1⟩ | ⟨_, _, _, c3⟩ | ⟨k, ck, c0, c1, c2, _⟩
      · rw [c1] at hb; cases hb
      · rw [c3] at hb; cases hb
      · exact ⟨k, ck, c0, c2⟩
    rw [c2] at h
    have hok := okN_S h4 he (hF.2.2.2.1 k c0).2
    have hsrc : I (27 + 2) k = sI (T 8 k) := v4.2.2 k c0
    refine ⟨fun e => ?_, fun e => ⟨fun e1 => ?_, fun e1 => ⟨fun e2 => ?_, fun e2 => ?_⟩⟩⟩
    · rw [if_pos e] at h
      exact h I frC_rf
    · rw [if_neg e, if_pos e1] at h
      exact h I frC_rf
    · rw [if_neg e, if_neg e1, if_neg e2] at h
      rw [ck]
      refine t_sourceAt (n := T 0 3) hs (Or.inr (Or.inr (Or.inr (Or.inl rfl)))) v4.1 (by omega) c0 ?_
      rw [hsrc]
      refine t_markBack hs (Or.inl rfl) h4 hF v5 hok (fun I1 f1 mm => ?_)
      refine loop (T 8 k) (hg0 T (T 8 k)) I1 f1 mm (fun j hj => ⟨fun z => ?_, fun z => ⟨fun _ => ?_, fun z3 => absurd (x_01 e e1 e2) z3⟩⟩) (h I1 (frC_c (Or.inl rfl) (by decide) frC_rf f1)) (T 0 4) 0 (by omega)
      · simp [hg0, z]
      · simp [hg0, z]
    · rw [if_neg e, if_neg e1, if_pos e2] at h
      refine t_hasInput hs h4 hp1 hp2 hp3.2.2.1 ⟨fun hi => ?_, fun hi => ?_⟩
      · rw [hi, if_pos rfl] at h
        obtain ⟨k2, ck2, c02, c22⟩ : ∃ k, x2 = nI k ∧ k < G 3 2 ∧ xN x2 = k := by
          rcases xc x2 (G 3 2) (by omega) with ⟨_, c1⟩ | ⟨_, _, _, c3⟩ | ⟨k, ck, c0, c1, c2, _⟩
          · rw [c1] at hi; cases hi
          · rw [c3] at hi; cases hi
          · exact ⟨k, ck, c0, c2⟩
        rw [c22] at h
        rw [ck]
        refine t_sourceAt (n := T 0 3) hs (Or.inr (Or.inr (Or.inr (Or.inl rfl)))) v4.1 (by omega) c0 ?_
        rw [hsrc]
        refine t_markBack hs (Or.inl rfl) h4 hF v5 hok (fun I1 f1 mm => ?_)
        have z0 : ¬ x3 = 0 := by rw [e2]; decide
        refine loop (T 8 k) (hg1 T (T 8 k) k2) I1 f1 mm (fun j hj => ⟨fun z => ?_, fun z => ⟨fun z3 => absurd z3 z0, fun _ => ?_⟩⟩) (h I1 (frC_c (Or.inl rfl) (by decide) frC_rf f1)) (T 0 4) 0 (by omega)
        · simp [hg1, z]
        · rw [ck2, shl1 (by omega), and_z (pw16 (by omega)), and_bit]
          refine ⟨fun q => ?_, fun q => ?_⟩
          · simp [hg1, q]
          · simp [hg1, z, q]
      · rw [hi, if_neg (by decide)] at h
        exact h I frC_rf
theorem c_back {Q : Int32 → HI → Prop} (hw : wfG G D N) (hF : finT G T) (hc : cQ I R G N T) (h : ∀ I', frC I I' → Q (backV T x1 x2) I') : Wc fi (d + 3) M_X11_back [.ref 0, .int x1, .int x2] I J R Q := by
  obtain ⟨hs, ⟨p, hp1, hp2, hp3⟩, ⟨n1, n2, n3⟩, v1, v2, v3, v4, v5, v6, v7⟩ := id hc
  have h4 := hw.2.2.2.2.2.1
  have he := hF.1.2.2.2.1
  have h20 := hF.1.2.2.2.2.1
  refine ⟨Nat.le_of_ble_eq_true rfl, fun K hK => ?_⟩
  refine g_X11_back_0 hK hs ?_
  simp only [backV] at h
  refine t_hasOut (T := T) hs hF v4.1 ⟨fun hb => ?_, fun hb => ?_⟩
  · rw [hb, if_neg (by decide)] at h
    exact h I frC_rf
  · rw [hb, if_pos rfl] at h
    obtain ⟨k, ck, c0, c2⟩ : ∃ k, x1 = nI k ∧ k < T 0 3 ∧ xN x1 = k := by
      rcases xc x1 (T 0 3) (by omega) with ⟨_, c1⟩ | ⟨_, _, _, c3⟩ | ⟨k, ck, c0, c1, c2, _⟩
      · rw [c1] at hb; cases hb
      · rw [c3] at hb; cases hb
      · exact ⟨k, ck, c0, c2⟩
    rw [c2] at h
    have hok := okN_S h4 he (hF.2.2.2.1 k c0).2
    have hsrc : I (27 + 2) k = sI (T 8 k) := v4.2.2 k c0
    refine ⟨fun e => ?_, fun e => ?_⟩
    · rw [if_pos e] at h
      have hx2 : x2 = nI (xN x2) := (x_eqn x2 (by have := x2.toInt_lt; simp only [xN]; omega)).mpr (by rw [x_0le] at e; simp only [xN]; omega)
      have hb2 : xN x2 < 2 ^ 31 := by have := x2.toInt_lt; simp only [xN]; omega
      rw [ck]
      refine t_sourceAt (n := T 0 3) hs (Or.inr (Or.inr (Or.inr (Or.inl rfl)))) v4.1 (by omega) c0 ?_
      rw [hsrc]
      refine t_markBack hs (Or.inl rfl) h4 hF v5 hok (fun I1 f1 mm => ?_)
      have hq := h I1 (frC_c (Or.inl rfl) (by decide) frC_rf f1)
      have loop : ∀ (i c : Nat), i ≤ T 0 4 → c ≤ xN x2 → nthD (bkT T (T 8 k)) i (xN x2 - c) = nthD (bkT T (T 8 k)) (T 0 4) (xN x2) → K 51 [(0, .ref 0), (2, .int x2), (3, .int (nI c)), (4, .int (nI i - 1))] [] I1 J R := by
        intro i
        induction i with
        | zero =>
          intro c hi hcx hn
          refine g_X11_back_51 hK hs ⟨fun _ => ?_, fun hc => absurd nI_01 hc⟩
          simp only [nthD] at hn
          rw [hn]
          exact hq
        | succ i ih =>
          intro c hi hcx hn
          rw [nI_s1]
          refine g_X11_back_51 hK hs ⟨fun hc => absurd hc (nI_pos (by omega)), fun _ => ?_⟩
          simp only [nthD] at hn
          rw [m1, nI_1]
          refine t_isMarkedN (M := bkT T (T 8 k)) hs (Or.inl rfl) (by omega) mm ⟨fun hb => ?_, fun hb => ?_⟩
          · rw [hb, if_neg (by decide)] at hn
            exact ih c (by omega) hcx hn
          · rw [hb, if_pos rfl] at hn
            have ce : (nI c = x2) ↔ c = xN x2 := by
              rw [hx2, xN_n hb2]
              exact nI_eq (by omega) (by omega)
            rw [ce]
            refine ⟨fun q => ?_, fun q => ?_⟩
            · rw [if_neg (by omega)] at hn
              exact ih (c + 1) (by omega) (by omega) (by rw [show xN x2 - (c + 1) = xN x2 - c - 1 by omega]; exact hn)
            · rw [if_pos (by omega)] at hn
              rw [hn]
              exact hq
      rw [f1 30 (by decide), show I 30 0 = nI (T 0 4) from v5.1]
      exact loop (T 0 4) 0 (Nat.le_refl _) (Nat.zero_le _) rfl
    · rw [if_neg e] at h
      exact h I frC_rf
end AV
