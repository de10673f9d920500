/-! feed, set, text -/
section AK2
variable {I : HI} {J : HJ} {R : HR} {x1 x2 x3 x4 x5 : Int32}
theorem ask_feed (h : TOP I J R) : asks M_X11_feed M_X12_feed [.int x1, .int x2, .int x3, .int x4, .int x5] I J R := by
  obtain ⟨G, D, N, inp, m, B, fk, fp, hA, hc, hm⟩ := h
  have hs := hc.1.1
  by_cases hm9 : 880 < m
  · refine am_W_mono 64 ?_ (c_feed (d := 62) (Q := fun x I' => x = -1 ∧ I' = I) hA hc (fun _ => ⟨rfl, rfl⟩) (fun z => absurd z (by omega)))
    intro r I1 J1 R1 ⟨x, e1, e3, e4, e5, e6⟩
    subst e3 e4 e5 e6
    refine ⟨-1, e1, hs, rfl, ?_⟩
    refine am_W_mono 64 ?_ (m_feed (d := 63) (Q := fun x I' => x = -1 ∧ I' = up I1 80 0 0) hA hm (fun _ => ⟨rfl, rfl⟩) (fun z => absurd z (by omega)))
    intro r2 I2 J2 R2 ⟨x, e1, e3, e4, e5, e6⟩
    subst e3 e4 e5 e6
    exact ⟨e1, rfl, G, D, N, inp, m, B, fk, fp, hA, CTS_I hc (fun a h _ => up_ne _ _ _ _ (by omega)) (frK_rf hs), MT_A hm frA_z⟩
  · refine am_W_mono 64 ?_ (c_feed (d := 62) (Q := fun x I' => x = nI (m + 20) ∧ CTS I' R G N inp (m + 20) (fdB B m (fdX x1 x2 x3 x4 x5) 20) fk fp ∧ ∀ a, 79 < a → I' a = I a) hA hc (fun z => absurd z hm9) (fun _ I' f g => ⟨rfl, f, g⟩))
    intro r I1 J1 R1 ⟨x, e1, e3, e4, e5, e6, e7⟩
    subst e3 e4 e5
    refine ⟨nI (m + 20), e1, hs, rfl, ?_⟩
    have hm1 := MT_I hA hm e7 hs
    refine am_W_mono 64 ?_ (m_feed (d := 63) (Q := fun x I' => x = nI (m + 20) ∧ MT I' J1 R1 G inp (m + 20) (fdB B m (fdX x1 x2 x3 x4 x5) 20) fk fp ∧ ∀ a, a < 80 → I' a = I1 a) hA hm1 (fun z => absurd z hm9) (fun _ I' f g _ => ⟨rfl, f, g⟩))
    intro r2 I2 J2 R2 ⟨x, e1, e3, e4, e5, g6, g7⟩
    subst e3 e4 e5
    exact ⟨e1, rfl, G, D, N, inp, m + 20, _, fk, fp, ⟨hA.1, hA.2.1, by omega, fdB_lt hA.2.2.2⟩, CTS_I e6 (fun a h _ => g7 a (by omega)) (frK_rf hs), g6⟩
theorem ask_set (h : TOP I J R) : asks M_X11_set M_X12_set [.int x1, .int x2, .int x3] I J R := by
  obtain ⟨G, D, N, inp, m, B, fk, fp, hA, hc, hm⟩ := h
  have hs := hc.1.1
  refine am_W_mono 64 ?_ (c_set (d := 57) (Q := fun x I' R' => x = setV G inp x1 x2 x3 ∧ CTS I' R' G N (setI G inp x1 x2 x3) m B fk fp ∧ ∀ a, 79 < a → I' a = I a) hA hc (fun I' R' f g => ⟨rfl, f, g⟩))
  intro r I1 J1 R1 ⟨x, e1, e3, e4, e5, e6, e7, e8⟩
  subst e3 e6
  refine ⟨_, e1, e4, e5, ?_⟩
  have hm1 := MT_I hA hm e8 e4
  refine am_W_mono 64 ?_ (m_set (d := 58) (Q := fun x I' J' => x = setV G inp x1 x2 x3 ∧ MT I' J' R1 G (setI G inp x1 x2 x3) m B fk fp ∧ ∀ a, a < 80 → I' a = I1 a) hA hm1 (fun I' J' f g _ => ⟨rfl, f, g⟩))
  intro r2 I2 J2 R2 ⟨x, g1, g4, g5, g6, g7⟩
  subst g4 g5
  exact ⟨g1, e5, G, D, N, _, m, B, fk, fp, ⟨hA.1, setI_lt hA.2.1, hA.2.2⟩, CTS_I e7 (fun a h _ => g7 a (by omega)) (frK_rf e4), g6⟩
theorem ask_text (h : TOP I J R) : asks M_X11_text M_X12_text [.int x1] I J R := by
  obtain ⟨G, D, N, inp, m, B, fk, fp, hA, hc, hm⟩ := h
  have hs := hc.1.1
  by_cases hx : x1 < 0 ∨ ¬ x1 ≤ nI m
  · refine am_W_mono 64 ?_ (c_text (d := 31) (Q := fun x I' R' => x = -2 ∧ I' = I ∧ R' = R) hA hc (fun _ => ⟨rfl, rfl, rfl⟩) (fun k P' z0 z1 => absurd hx (by simp [z0, z1])) (fun k P' z0 z1 => absurd hx (by simp [z0, z1])))
    intro r I1 J1 R1 ⟨x, e1, e3, e4, e5, e6, e7, e8⟩
    subst e3 e6 e7 e8
    refine ⟨-2, e1, hs, rfl, ?_⟩
    refine am_W_mono 64 ?_ (m_text (d := 18) (Q := fun x I' J' => x = -2 ∧ I' = up I1 80 0 0 ∧ J' = J1) hA hm (fun _ => ⟨rfl, rfl, rfl⟩) (fun k P' z0 z1 => absurd hx (by simp [z0, z1])) (fun k P' z0 z1 => absurd hx (by simp [z0, z1])))
    intro r2 I2 J2 R2 ⟨x, g1, g4, g5, g6, g7⟩
    subst g4 g5 g6 g7
    exact ⟨g1, rfl, G, D, N, inp, m, B, fk, fp, hA, CTS_I hc (fun a h _ => up_ne _ _ _ _ (by omega)) (frK_rf hs), MT_A hm frA_z⟩
  · have h0 : ¬ x1 < 0 := fun z => hx (Or.inl z)
    have h1 : x1 ≤ nI m := Classical.not_not.mp (fun z => hx (Or.inr z))
    obtain ⟨k, ek, _, hk⟩ := x_nm hA.2.2.1 h0 h1
    have uq : ∀ k', x1 = nI k' → k' ≤ m → k' = k := fun k' e hk' => by
      have h9 := hA.2.2.1
      have e2 := congrArg Int32.toInt (e.symm.trans ek)
      rw [nI_toInt (by omega), nI_toInt (by omega)] at e2
      omega
    cases hpa : paS B k with
    | ok P =>
      obtain ⟨okl, hb0⟩ := paS_ok (B := B) (by have := hA.2.2.1; omega) hpa
      have hwf := wf_P (by have := hA.2.2.1; omega : k ≤ 900) okl hb0
      refine am_W_mono 64 ?_ (c_text (d := 31) (Q := fun x I' R' => x = nI (P 0 5) ∧ CTS I' R' (GP P) (nlF (P 1)) (fun _ => 0) 0 B 0 (-1) ∧ ∀ a, 79 < a → I' a = I a) hA hc (fun z => absurd z hx) (fun k' P' _ _ a1 a2 a3 I' R' f g => by
        have := uq k' a1 a2
        subst this
        rw [hpa] at a3
        cases a3
        exact ⟨rfl, f, g⟩) (fun k' P' _ _ a1 a2 a3 => by
        have := uq k' a1 a2
        subst this
        rw [hpa] at a3
        cases a3))
      intro r I1 J1 R1 ⟨x, e1, e3, e4, e5, e6, e7, e8⟩
      subst e3 e6
      refine ⟨_, e1, e4, e5, ?_⟩
      have hm1 := MT_I hA hm e8 e4
      refine am_W_mono 64 ?_ (m_text (d := 18) (Q := fun x I' J' => x = nI (P 0 5) ∧ MT I' J' R1 (GP P) (fun _ => 0) 0 B 0 (-1) ∧ ∀ a, a < 80 → I' a = I1 a) hA hm1 (fun z => absurd z hx) (fun k' P' _ _ a1 a2 a3 I' J' f g _ => by
        have := uq k' a1 a2
        subst this
        rw [hpa] at a3
        cases a3
        exact ⟨rfl, f, g⟩) (fun k' P' _ _ a1 a2 a3 => by
        have := uq k' a1 a2
        subst this
        rw [hpa] at a3
        cases a3))
      intro r2 I2 J2 R2 ⟨x, g1, g4, g5, g6, g7⟩
      subst g4 g5
      exact ⟨g1, e5, GP P, dpF (P 1), nlF (P 1), _, 0, B, 0, -1, ⟨hwf, fun _ _ => by decide, by omega, hA.2.2.2⟩, CTS_I e7 (fun a h _ => g7 a (by omega)) (frK_rf e4), g6⟩
    | error e =>
      refine am_W_mono 64 ?_ (c_text (d := 31) (Q := fun x I' R' => x = -1 ∧ CTS I' R' G N inp 0 B (nI e.1) (nI e.2) ∧ ∀ a, 79 < a → I' a = I a) hA hc (fun z => absurd z hx) (fun k' P' _ _ a1 a2 a3 => by
        have := uq k' a1 a2
        subst this
        rw [hpa] at a3
        cases a3) (fun k' P' _ _ a1 a2 a3 I' R' f g => by
        have := uq k' a1 a2
        subst this
        rw [hpa] at a3
        cases a3
        exact ⟨rfl, f, g⟩))
      intro r I1 J1 R1 ⟨x, e1, e3, e4, e5, e6, e7, e8⟩
      subst e3 e6
      refine ⟨_, e1, e4, e5, ?_⟩
      have hm1 := MT_I hA hm e8 e4
      refine am_W_mono 64 ?_ (m_text (d := 18) (Q := fun x I' J' => x = -1 ∧ MT I' J' R1 G inp 0 B (nI e.1) (nI e.2) ∧ ∀ a, a < 80 → I' a = I1 a) hA hm1 (fun z => absurd z hx) (fun k' P' _ _ a1 a2 a3 => by
        have := uq k' a1 a2
        subst this
        rw [hpa] at a3
        cases a3) (fun k' P' _ _ a1 a2 a3 I' J' f g _ => by
        have := uq k' a1 a2
        subst this
        rw [hpa] at a3
        cases a3
        exact ⟨rfl, f, g⟩))
      intro r2 I2 J2 R2 ⟨x, g1, g4, g5, g6, g7⟩
      subst g4 g5
      exact ⟨g1, e5, G, D, N, inp, 0, B, _, _, ⟨hA.1, hA.2.1, by omega, hA.2.2.2⟩, CTS_I e7 (fun a h _ => g7 a (by omega)) (frK_rf e4), g6⟩
end AK2
