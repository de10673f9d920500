/-! another INPUT tried: the class -/
section BO
variable {d : Nat} {I : HI} {J : HJ} {R : HR} {o : Nat} {G T : SP} {D : Nat → Nat} {N : Nat → List Nat} {inp : Nat → Nat} {x1 x2 x3 : Int32}
theorem t_onceG {s x : Nat} {Q : Int32 → HI → Prop} (hs : Stat R) (ho : isX9 o) (hao : o + 10 < 73) (h4 : G 3 2 ≤ 4) (hF : finT G T) (hT : tpR I o T (T 0 4)) (hok : okS G (T 0 4) s) (hx : x < 5000) (h : ∀ I', (∀ c, ¬ c = 73 → I' c = I c) → Q (nI (slo (slA T x (T 0 4)) x s)) I') : Wc fi (d + 5) M_X7_once [.ref 72, .ref o, .int (sI s), .int (nI x)] I J R Q := by
  have he := hF.1.2.2.2.1
  refine e_X7_once hs ho ?_
  refine e_X7_fillFirst hs ho ?_
  refine t_sfill hs ho (sc_73 hs) rfl hao h4 hF hT hx (fun I1 f1 g1 => ?_)
  refine t_sof (n := T 0 4) hs (sc_73 hs) rfl he (okS_n h4 hok) hx g1 (slA_no T x (T 0 4)) ?_
  exact h I1 f1
theorem cp_44 {I : HI} {j : Nat} (hj : j < 4) : am_cp I 16 44 0 0 4 44 j = I 16 j := by
  simp only [am_cp, va_cpy]
  simp
  omega
theorem t_tryInput {k v : Nat} {Q : Unit → HI → HR → Prop} (hw : wfG G D N) (hc : cQ I R G N T) (hin : ∀ j, j < 4 → I 16 j = nI (inp j)) (hib : ∀ j, j < 4 → inp j < 1000000007) (hk : k < G 3 2) (hv : v < 1000000007) (h : ∀ I' p, R 0 5 = some p → isX5 p → mR I' 45 G N (theRun G (fun j => if j = k then v else inp j)) → frC I I' → Q () I' (up R 45 0 (some p))) : Wr fv (d + 7) M_X11_tryInput [.ref 0, .int (nI k), .int (nI v)] I J R Q := by
  obtain ⟨hs, ⟨p, hp1, hp2, hp3⟩, hm⟩ := id hc
  have h4 := hw.2.2.2.2.2.1
  refine e_X11_tryInput hs ⟨fun q => absurd q (nI_pos (by omega)), fun _ => ⟨fun q => absurd q (nI_ge (b := 4) (by omega) (by omega)), fun _ => ⟨k, rfl, by omega, p, hp1, hp2, ?_⟩⟩⟩
  have hne : ∀ c, ¬ c = 44 → up (am_cp I 16 44 0 0 4) 44 k (nI v) c = I c := by
    intro c hc
    rw [up_ne _ _ _ _ hc]
    funext j
    simp only [am_cp]
    rw [if_neg hc]
  have hf1 : frC I (up (am_cp I 16 44 0 0 4) 44 k (nI v)) := frC_c (c := 44) (Or.inr (Nat.le_refl _)) (by decide) frC_rf hne
  have hP1 : pR (up (am_cp I 16 44 0 0 4) 44 k (nI v)) p G := by
    rcases hp2 with rfl | rfl
    · simp only [pR, hne 8 (by decide), hne (8 + 1) (by decide), hne (8 + 2) (by decide), hne (8 + 3) (by decide)]
      exact hp3
    · simp only [pR, hne 12 (by decide), hne (12 + 1) (by decide), hne (12 + 2) (by decide), hne (12 + 3) (by decide)]
      exact hp3
  refine t_execute (G := G) (D := D) (N := N) (inp := fun j => if j = k then v else inp j) hs (Or.inr rfl) hp2 hw hP1 (sc_44 hs) rfl (Or.inl (by decide)) (fun j hj => ?_) (fun j hj => ?_) (fun I' g1 g2 => ?_)
  · by_cases hjk : j = k
    · simp [hjk, hv]
    · simp [hjk]
      exact hib j (by omega)
  · by_cases hjk : j = k
    · subst hjk
      rw [up_s]
      simp
    · rw [up_nk hjk, cp_44 (by omega), hin j (by omega)]
      simp [hjk]
  · refine h I' p hp1 hp2 g1 ⟨fun a a1 a2 => (g2 a (Or.inl (by omega))).trans (hf1.1 a a1 a2), fun a a1 => (g2 a (Or.inr (by omega))).trans (hf1.2 a a1)⟩
end BO
