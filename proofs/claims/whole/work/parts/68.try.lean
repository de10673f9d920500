/-! another INPUT tried: the class -/
def inpW (inp : Nat → Nat) (k v : Nat) : Nat → Nat := fun j => if j = k then v else inp j
def changeV (G T : SP) (inp : Nat → Nat) (x1 x2 x3 : Int32) : Int32 := if inN x1 (T 0 3) = true then (if inN x2 (G 3 2) = true then (if x3.toInt < -1000000000 then -1 else if x3.toInt ≤ 1000000000 then (if xN x1 < theRun G (inpW inp (xN x2) (mP (inp (xN x2) + zP x3.toInt))) 0 3 then nI (sP (theRun G (inpW inp (xN x2) (mP (inp (xN x2) + zP x3.toInt))) 7 (xN x1)) (T 7 (xN x1))) else -2) else -1) else -1) else -1
section BO
variable {d : Nat} {I : HI} {J : HJ} {R : HR} {o : Nat} {G T : SP} {D : Nat → Nat} {N : Nat → List Nat} {inp : Nat → Nat} {x1 x2 x3 : Int32}
theorem t_onceG {s x : Nat} {Q : Int32 → HI → Prop} (hs : Stat R) (ho : isX9 o) (hao : o + 10 < 73) (h4 : G 3 2 ≤ 4) (hF : finT G T) (hT : tpR I o T (T 0 4)) (hok : okS G (T 0 4) s) (hx : x < 5000) (h : ∀ I', (∀ c, ¬ c = 73 → I' c = I c) → Q (nI (slo (slA T x (T 0 4)) x s)) I') : Wc fi (d + 5) M_X7_once [.ref 72, .ref o, .int (sI s), .int (nI x)] I J R Q := by
  have he := hF.1.2.2.2.1
  refine e_X7_once hs ho ?_
  refine e_X7_fillFirst hs ho ?_
  refine t_sfill hs ho (sc_73 hs) rfl hao h4 hF hT hx (fun I1 f1 g1 => ?_)
  refine t_sof (n := T 0 4) hs (sc_73 hs) rfl he (okS_n h4 hok) hx g1 (slA_no T x (T 0 4)) ?_
  exact h I1 f1
theorem cp_44 {I : HI} {j : Nat} (hj : j < 4) : am_cp I 16 44 0 0 4 44 j = I 16 j := by
  simp only [am_cp, va_cpy]
  simp
  omega
theorem t_tryInput {k v : Nat} {Q : Unit → HI → HR → Prop} (hw : wfG G D N) (hc : cQ I R G N T) (hin : ∀ j, j < 4 → I 16 j = nI (inp j)) (hib : ∀ j, j < 4 → inp j < 1000000007) (hk : k < G 3 2) (hv : v < 1000000007) (h : ∀ I' p, R 0 5 = some p → isX5 p → mR I' 45 G N (theRun G (fun j => if j = k then v else inp j)) → frC I I' → Q () I' (up R 45 0 (some p))) : Wr fv (d + 7) M_X11_tryInput [.ref 0, .int (nI k), .int (nI v)] I J R Q := by
  obtain ⟨hs, ⟨p, hp1, hp2, hp3⟩, hm⟩ := id hc
  have h4 := hw.2.2.2.2.2.1
  refine e_X11_tryInput hs ⟨fun q => absurd q (nI_pos (by omega)), fun _ => ⟨fun q => absurd q (nI_ge (b := 4) (by omega) (by omega)), fun _ => ⟨k, rfl, by omega, p, hp1, hp2, ?_⟩⟩⟩
  have hne : ∀ c, ¬ c = 44 → up (am_cp I 16 44 0 0 4) 44 k (nI v) c = I c := by
    intro c hc
    rw [up_ne _ _ _ _ hc]
    funext j
    simp only [am_cp]
    rw [if_neg hc]
  have hf1 : frC I (up (am_cp I 16 44 0 0 4) 44 k (nI v)) := frC_c (c := 44) (Or.inr (Nat.le_refl _)) (by decide) frC_rf hne
  have hP1 : pR (up (am_cp I 16 44 0 0 4) 44 k (nI v)) p G := by
    rcases hp2 with rfl | rfl
    · simp only [pR, hne 8 (by decide), hne (8 + 1) (by decide), hne (8 + 2) (by decide), hne (8 + 3) (by decide)]
      exact hp3
    · simp only [pR, hne 12 (by decide), hne (12 + 1) (by decide), hne (12 + 2) (by decide), hne (12 + 3) (by decide)]
      exact hp3
  refine t_execute (G := G) (D := D) (N := N) (inp := fun j => if j = k then v else inp j) hs (Or.inr rfl) hp2 hw hP1 (sc_44 hs) rfl (Or.inl (by decide)) (fun j hj => ?_) (fun j hj => ?_) (fun I' g1 g2 => ?_)
  · by_cases hjk : j = k
    · simp [hjk, hv]
    · simp [hjk]
      exact hib j (by omega)
  · by_cases hjk : j = k
    · subst hjk
      rw [up_s]
      simp
    · rw [up_nk hjk, cp_44 (by omega), hin j (by omega)]
      simp [hjk]
  · refine h I' p hp1 hp2 g1 ⟨fun a a1 a2 => (g2 a (Or.inl (by omega))).trans (hf1.1 a a1 a2), fun a a1 => (g2 a (Or.inr (by omega))).trans (hf1.2 a a1)⟩
theorem c_change {Q : Int32 → HI → HR → Prop} (hw : wfG G D N) (hF : finT G T) (hc : cQ I R G N T) (hin : ∀ j, j < 4 → I 16 j = nI (inp j)) (hib : ∀ j, j < 4 → inp j < 1000000007) (h : ∀ I' R', frC I I' → (R' = R ∨ ∃ p, R 0 5 = some p ∧ isX5 p ∧ R' = up R 45 0 (some p)) → Q (changeV G T inp x1 x2 x3) I' R') : Wr fi (d + 8) M_X11_change [.ref 0, .int x1, .int x2, .int x3] I J R Q := by
  obtain ⟨hs, ⟨p, hp1, hp2, hp3⟩, ⟨n1, n2, n3⟩, v1, v2, v3, v4, v5, v6, v7⟩ := id hc
  have h4 := hw.2.2.2.2.2.1
  have h20 := hF.1.2.2.2.2.1
  have h0 := h I R frC_rf (Or.inl rfl)
  refine e_X11_change hs ?_
  simp only [changeV] at h h0
  refine t_hasOut (T := T) hs hF v4.1 ⟨fun hb => ?_, fun hb => ?_⟩
  · rw [hb, if_neg (by decide)] at h0
    exact h0
  · rw [hb, if_pos rfl] at h h0
    obtain ⟨k, ck, c0, c2⟩ := in_ex (by omega) hb
    refine t_hasInput hs h4 hp1 hp2 hp3.2.2.1 ⟨fun hi => ?_, fun hi => ?_⟩
    · rw [hi, if_neg (by decide)] at h0
      exact h0
    · rw [hi, if_pos rfl] at h h0
      obtain ⟨k2, ck2, c02, c22⟩ := in_ex (by omega) hi
      rw [Int32.lt_iff_toInt_lt, Int32.le_iff_toInt_le, show (-1000000000 : Int32).toInt = -1000000000 from rfl, show (1000000000 : Int32).toInt = 1000000000 from rfl]
      refine ⟨fun q => ?_, fun q => ⟨fun q1 => ⟨k2, ck2, by omega, ?_⟩, fun q1 => ?_⟩⟩
      · rw [if_pos q] at h0
        exact h0
      · rw [if_neg q, if_pos q1, c2, c22] at h
        refine t_of hs ?_
        rw [hin k2 (by omega)]
        refine t_plus hs (hib k2 (by omega)) (zP_lt _) ?_
        rw [ck2, ck]
        refine t_tryInput hw hc hin hib c02 (mP_lt _) (fun I' p' hp' hx' g1 g2 => ?_)
        have hq := h I' (up R 45 0 (some p')) g2 (Or.inr ⟨p', hp', hx', rfl⟩)
        have hT' : finT G (theRun G (inpW inp k2 (mP (inp k2 + zP x3.toInt)))) := theRun_fin hw (fun j hj => by
          simp only [inpW]
          split
          · exact mP_lt _
          · exact hib j (by omega))
        have hs' : Stat (up R 45 0 (some p')) := su_X1_0 hs (Or.inr rfl)
        change mR I' 45 G N (theRun G (inpW inp k2 (mP (inp k2 + zP x3.toInt)))) at g1
        generalize theRun G (inpW inp k2 (mP (inp k2 + zP x3.toInt))) = T' at g1 hq hT'
        have s55 : slR I' 55 (T' 7) (T' 8) (T' 0 3) := g1.2.2.2.2.1
        have s27 : slR I' 27 (T 7) (T 8) (T 0 3) := (cQ_fr g2 hc).2.2.2.2.2.2.1
        have h3' := hT'.1.2.2.2.2.1
        have cl : (nI k < nI (T' 0 3)) ↔ k < T' 0 3 := nI_ltI (by omega) (by omega)
        rw [s55.1, cl]
        refine ⟨fun z => ?_, fun z => ?_⟩
        · rw [if_pos z] at hq
          refine t_valueAt hs' (Or.inr (Or.inr (Or.inr (Or.inr (Or.inr (Or.inr (Or.inr rfl))))))) s55.1 (by omega) z ?_
          refine t_valueAt hs' (Or.inr (Or.inr (Or.inr (Or.inl rfl)))) s27.1 (by omega) c0 ?_
          rw [s55.2.1 k z, s27.2.1 k c0]
          exact t_minus hs' (hT'.2.2.2.1 k z).1 (hF.2.2.2.1 k c0).1 hq
        · rw [if_neg z] at hq
          exact hq
      · rw [if_neg q, if_neg q1] at h0
        exact h0
end BO
