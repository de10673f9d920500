theorem sbT_upd {G : SP} {e n v s : Nat} {f : Nat → Nat} (he : e ≤ n) (hs : okS G e s) : sbT (fun j => if j = n then v else f j) s = sbT f s := by
  simp only [okS] at hs
  simp only [sbT]
  by_cases h1 : s = 5000
  · simp [h1]
  · by_cases h2 : 1000 ≤ s
    · simp [h1, h2]
    · simp only [h1, h2, if_false]
      rw [if_neg (by omega)]
theorem wf_loop {G : SP} {D : Nat → Nat} {N : Nat → List Nat} {l : Nat} (h : wfI G D N l) (h10 : G 0 l = 10) : G 1 l < G 3 3 ∧ N (l + 1) = l :: N l ∧ 1 ≤ G 2 l ∧ G 2 l ≤ 20 ∧ D l = 0 := by
  rcases h with ⟨q0, -⟩ | ⟨q0, -⟩ | ⟨q0, -⟩ | ⟨q0, q1, -⟩ | ⟨q0, -⟩ | ⟨q0, -⟩ | ⟨q0, -⟩ | ⟨q0, q1, q2, q3, q4, q5, q6⟩ | ⟨q0, -⟩ | ⟨q0, -⟩ | ⟨q0, -⟩
  · omega
  · omega
  · omega
  · omega
  · omega
  · omega
  · omega
  · exact ⟨q3, q4, q5, q6, q1⟩
  · omega
  · omega
  · omega
theorem inv_step {G T : SP} {D : Nat → Nat} {N : Nat → List Nat} (hw : wfG G D N) (hi : invT G D N T) (hat : T 0 0 < G 3 0) (hst : stopR G T = 0) : invT G D N (stepT G T) := by
  obtain ⟨⟨i1, i2, i3, i4, i5, i6, i7, i8⟩, r1, r3, r5, r7, hE, hP, hL⟩ := hi
  obtain ⟨s1, s2, s3, s4, s5, s6⟩ := stopR_0 hst
  obtain ⟨w1, w2, w3, w4, w5, w6, w7, w8, w9, w10, w11, w12⟩ := hw
  have hlen2 : T 0 0 + 1 ≤ G 3 0 := hat
  have e0 := @stepT_at G T
  have e1 := @stepT_done G T
  have e2 := @stepT_0 G T 2 (by decide) (by decide)
  have e3 := @stepT_0 G T 3 (by decide) (by decide)
  have e4 := @stepT_0 G T 4 (by decide) (by decide)
  have e5 := @stepT_0 G T 5 (by decide) (by decide)
  have e6 := @stepT_0 G T 6 (by decide) (by decide)
  have e7 := @stepT_0 G T 7 (by decide) (by decide)
  have f1 := @stepT_c G T 1 (by decide)
  have f2 := @stepT_c G T 2 (by decide)
  have f3 := @stepT_c G T 3 (by decide)
  have f4 := @stepT_c G T 4 (by decide)
  have f5 := @stepT_c G T 5 (by decide)
  have f6 := @stepT_c G T 6 (by decide)
  have f7 := @stepT_c G T 7 (by decide)
  have f8 := @stepT_c G T 8 (by decide)
  have f9 := @stepT_c G T 9 (by decide)
  have f10 := @stepT_c G T 10 (by decide)
  have f11 := @stepT_c G T 11 (by decide)
  have f12 := @stepT_c G T 12 (by decide)
  have f13 := @stepT_c G T 13 (by decide)
  have f14 := @stepT_c G T 14 (by decide)
  have f15 := @stepT_c G T 15 (by decide)
  have f16 := @stepT_c G T 16 (by decide)
  have f17 := @stepT_c G T 17 (by decide)
  have f18 := @stepT_c G T 18 (by decide)
  simp only [invT, okE, e0, e1, e2, e3, e4, e5, e6, e7, f1, f2, f3, f4, f5, f6, f7, f8, f9, f10, f11, f12, f13, f14, f15, f16, f17, f18]
  clear e0 e1 e2 e3 e4 e5 e6 e7 f1 f2 f3 f4 f5 f6 f7 f8 f9 f10 f11 f12 f13 f14 f15 f16 f17 f18
  simp only [okE] at hE
  have hvar : ∀ v, v < 1000 → T 3 v < 1000000007 ∧ okS G (T 0 4) (T 4 v) := r3
  have hcel : ∀ v, v < 1000 → T 5 v < 1000000007 ∧ okS G (T 0 4) (T 6 v) := r5
  have hstk : ∀ v, v < T 0 2 → T 1 v < 1000000007 ∧ okS G (T 0 4) (T 2 v) := r1
  have h5000 : okS G (T 0 4) 5000 := Or.inl rfl
  rcases w1 (T 0 0) hat with ⟨q0, q1, q2, q3⟩ | ⟨q0, q1, q2, q3⟩ | ⟨q0, q1, q2, q3, q4⟩ | ⟨q0, q1, q2, q3, q4⟩ | ⟨q0, q1, q2, q3, q4⟩ | ⟨q0, q1, q2, q3, q4⟩ | ⟨q0, q1, q2, q3⟩ | ⟨q0, q1, q2, q3, q4, q5, q6⟩ | ⟨q0, q1, q2, l, q3, q4, q5, q6, q7, q8⟩ | ⟨q0, q1, q2, q3, q4, q5, q6⟩ | ⟨q0, q1, q2, q3, q4, q5, q6⟩
  · simp [actT, nextT, pushT, q0, upc_ne, upc_eq]
    exact ⟨⟨by omega, by omega, by omega, by omega, by omega, by omega, by omega, i8⟩, okR_push r1 (by omega) h5000, r3, r5, r7, hE, hP, by rw [q3]; exact hL⟩
  · simp [actT, nextT, pushT, q0, upc_ne, upc_eq]
    have hv := hvar (G 1 (T 0 0)) (by omega)
    exact ⟨⟨by omega, by omega, by omega, by omega, by omega, by omega, by omega, i8⟩, okR_push r1 hv.1 hv.2, r3, r5, r7, hE, hP, by rw [q3]; exact hL⟩
  · simp [actT, nextT, pushT, q0, upc_ne, upc_eq]
    have hr := w11 _ q3
    have h3 := s3 q0
    have hv := hcel (G 4 (G 1 (T 0 0)) + T 1 (T 0 2 - 1)) (by omega)
    exact ⟨⟨by omega, by omega, by omega, by omega, by omega, by omega, by omega, i8⟩, okR_set r1 hv.1 hv.2, r3, r5, r7, hE, hP, by rw [q4]; exact hL⟩
  · have n0 : ¬ G 0 (T 0 0) = 0 := by omega
    have n1 : ¬ G 0 (T 0 0) = 1 := by omega
    have n2 : ¬ G 0 (T 0 0) = 2 := by omega
    have n10 : G 0 (T 0 0) ≤ 10 := by omega
    simp [actT, nextT, enterT, n0, n1, n2, n10, q1, upc_ne, upc_eq]
    have h5 := s5 q0 q1
    have ha := hstk (T 0 2 - 2) (by omega)
    have hb := hstk (T 0 2 - 1) (by omega)
    refine ⟨⟨by omega, by omega, by omega, by omega, by omega, by omega, by omega, i8⟩, okR_set (okR_mono (Nat.le_succ _) (by omega) r1) (resO_lt _ _ _) (Or.inr (Or.inl (Nat.lt_succ_self _))), okR_mono (Nat.le_succ _) (Nat.le_refl _) r3, okR_mono (Nat.le_succ _) (Nat.le_refl _) r5, okR_mono (Nat.le_succ _) (Nat.le_refl _) r7, fun e he => ?_, hP, by rw [q4]; exact hL⟩
    by_cases hee : e = T 0 4
    · subst hee
      simp
      refine ⟨q0, q1, hat, ha.1, hb.1, ha.2, hb.2, ?_⟩
      rw [sbT_upd (Nat.le_refl _) ha.2, sbT_upd (Nat.le_refl _) hb.2]
    · have h8 := hE e (by omega)
      simp [hee]
      refine ⟨h8.1, h8.2.1, h8.2.2.1, h8.2.2.2.1, h8.2.2.2.2.1, h8.2.2.2.2.2.1, h8.2.2.2.2.2.2.1, h8.2.2.2.2.2.2.2.1, ?_⟩
      rw [sbT_upd (by omega) h8.2.2.2.2.2.2.1, sbT_upd (by omega) h8.2.2.2.2.2.2.2.1]
      exact h8.2.2.2.2.2.2.2.2
  · simp [actT, nextT, pushT, q0, upc_ne, upc_eq]
    have ha := hstk (T 0 2 - 1) (by omega)
    exact ⟨⟨by omega, by omega, by omega, by omega, by omega, by omega, by omega, i8⟩, okR_mono (Nat.le_refl _) (by omega) r1, okR_set r3 ha.1 ha.2, r5, r7, hE, hP, by rw [q4]; exact hL⟩
  · simp [actT, nextT, pushT, q0, upc_ne, upc_eq]
    have ha := hstk (T 0 2 - 1) (by omega)
    exact ⟨⟨by omega, by omega, by omega, by omega, by omega, by omega, by omega, i8⟩, okR_mono (Nat.le_refl _) (by omega) r1, r3, okR_set r5 ha.1 ha.2, r7, hE, hP, by rw [q4]; exact hL⟩
  · simp [actT, nextT, pushT, q0, upc_ne, upc_eq]
    have ha := hstk (T 0 2 - 1) (by omega)
    have h6 := s6 q0
    exact ⟨⟨by omega, by omega, by omega, by omega, by omega, by omega, by omega, i8⟩, okR_mono (Nat.le_refl _) (by omega) r1, r3, r5, okR_push r7 ha.1 ha.2, hE, hP, by rw [q3]; exact hL⟩
  · simp [actT, nextT, pushT, q0, upc_ne, upc_eq]
    refine ⟨⟨by omega, by omega, by omega, by omega, by omega, by omega, by omega, i8⟩, r1, okR_set r3 (by omega) h5000, r5, r7, hE, hP, ?_⟩
    rw [q4]
    intro l hl
    rcases List.mem_cons.mp hl with rfl | hl
    · simp
      omega
    · have := (w2 (T 0 0) i1).2.2 l hl
      rw [if_neg (by omega)]
      exact hL l hl
  · have hll := hL l (by rw [q6]; exact List.mem_cons_self)
    have hne : ∀ x ∈ N (T 0 0 + 1), ¬ x = l := by
      intro x hx e
      obtain ⟨-, hl2, -⟩ := wf_loop (w1 l (by omega)) q5
      rw [q7, q6] at hl2
      have hl3 := (List.cons.inj hl2).2
      rw [hl3] at hx
      have := (w2 l (by omega)).2.2 x hx
      omega
    by_cases hc : T 17 l + 1 = G 2 l
    · simp [actT, nextT, q0, q3, hc, upc_ne, upc_eq]
      refine ⟨⟨by omega, by omega, by omega, by omega, by omega, by omega, by omega, i8⟩, r1, r3, r5, r7, hE, hP, fun x hx => ?_⟩
      rw [if_neg (hne x hx)]
      exact hL x (by rw [q6]; exact List.mem_cons_of_mem _ hx)
    · simp [actT, nextT, q0, q3, hc, upc_ne, upc_eq]
      refine ⟨⟨by omega, by omega, by omega, by omega, by omega, by omega, by omega, i8⟩, r1, okR_set r3 (by omega) h5000, r5, r7, hE, hP, ?_⟩
      rw [q7, q6]
      intro x hx
      rcases List.mem_cons.mp hx with rfl | hx
      · simp
        omega
      · rw [if_neg (hne x hx)]
        exact hL x (by rw [q6]; exact List.mem_cons_of_mem _ hx)
  · have n10 : ¬ G 0 (T 0 0) ≤ 10 := by omega
    have n11 : ¬ G 0 (T 0 0) = 11 := by omega
    have n13 : G 0 (T 0 0) ≤ 13 := by omega
    have hh : ¬ G 0 (T 0 0) = 0 ∧ ¬ G 0 (T 0 0) = 1 ∧ ¬ G 0 (T 0 0) = 2 ∧ ¬ G 0 (T 0 0) ≤ 6 ∧ ¬ G 0 (T 0 0) = 7 ∧ ¬ G 0 (T 0 0) = 8 ∧ ¬ G 0 (T 0 0) = 9 ∧ ¬ G 0 (T 0 0) = 10 := by omega
    obtain ⟨a0, a1, a2, a6, a7, a8, a9, a10⟩ := hh
    generalize hr : testV (G 0 (T 0 0)) (T 1 (T 0 2 - 2)) (T 1 (T 0 2 - 1)) = r
    simp [actT, nextT, testT, a0, a1, a2, a6, a7, a8, a9, a10, n10, n11, n13, upc_ne, upc_eq, hr]
    have hP2 : ∀ t, t < T 0 5 + 1 → (if t = T 0 5 then (if r = true then 1 else 0) else T 16 t) = 0 ∨ (if t = T 0 5 then (if r = true then 1 else 0) else T 16 t) = 1 := by
      intro t ht
      by_cases hte : t = T 0 5
      · rw [if_pos hte]
        cases r <;> simp
      · rw [if_neg hte]
        exact hP t (by omega)
    cases r
    · simp at hP2 ⊢
      exact ⟨⟨by omega, by omega, by omega, by omega, by omega, by omega, by omega, i8⟩, okR_mono (Nat.le_refl _) (by omega) r1, r3, r5, r7, hE, hP2, by rw [q5]; exact hL⟩
    · simp at hP2 ⊢
      exact ⟨⟨by omega, by omega, by omega, by omega, by omega, by omega, by omega, i8⟩, okR_mono (Nat.le_refl _) (by omega) r1, r3, r5, r7, hE, hP2, by rw [q6]; exact hL⟩
  · simp [actT, nextT, pushT, q0, upc_ne, upc_eq]
    exact ⟨⟨by omega, by omega, by omega, by omega, by omega, by omega, by omega, i8⟩, r1, r3, r5, r7, hE, hP, by rw [q5]; exact hL⟩
theorem inv_start {G : SP} {D : Nat → Nat} {N : Nat → List Nat} {inp : Nat → Nat} (hw : wfG G D N) (hin : ∀ j, j < G 3 2 → inp j < 1000000007) : invT G D N (startT G inp) := by
  obtain ⟨w1, w2, w3, w4, w5, w6, w7, w8, w9, w10, w11, w12⟩ := hw
  refine ⟨⟨by simp [startT], by simp [startT, w3], by simp [startT], by simp [startT], by simp [startT], by simp [startT], by simp [startT], by simp [startT]⟩, ?_, ?_, ?_, ?_, ?_, ?_, ?_⟩
  · intro j hj
    simp [startT] at hj
  · intro j hj
    simp only [startT, okS]
    simp
    by_cases hc : j < G 3 2
    · simp [hc, hin j hc]
    · simp [hc]
  · intro j hj
    simp [startT, okS]
  · intro j hj
    simp [startT] at hj
  · intro j hj
    simp [startT] at hj
  · intro j hj
    simp [startT] at hj
  · simp [startT, w4]
