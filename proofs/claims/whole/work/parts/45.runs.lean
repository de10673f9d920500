/-! the reference's RUN; what holds of a RUN that ended -/
def finT (G T : SP) : Prop :=
  (T 0 0 ≤ G 3 0 ∧ T 0 1 ≤ 3000 ∧ 3 * T 0 5 ≤ T 0 1 ∧ T 0 4 ≤ 400 ∧ T 0 3 ≤ 20 ∧ T 0 6 ≤ T 0 5 ∧ T 0 7 ≤ 5)
  ∧ okR G (T 0 4) (T 3) (T 4) 1000 ∧ okR G (T 0 4) (T 5) (T 6) 1000 ∧ okR G (T 0 4) (T 7) (T 8) (T 0 3)
  ∧ (∀ e, e < T 0 4 → okE G T e) ∧ (∀ t, t < T 0 5 → T 16 t = 0 ∨ T 16 t = 1)
theorem stopR_lt (G T : SP) : stopR G T ≤ 5 := by
  simp only [stopR]
  split
  · omega
  · split
    · omega
    · split
      · omega
      · split
        · omega
        · split
          · omega
          · split <;> omega
theorem fin_of {G T : SP} {D : Nat → Nat} {N : Nat → List Nat} {v : Nat} (hv : v ≤ 5) (h : invT G D N T) : finT G (up T 0 7 v) := by
  obtain ⟨⟨i1, i2, i3, i4, i5, i6, i7, i8⟩, r1, r3, r5, r7, hE, hPa, hL⟩ := h
  have n : ∀ k, ¬ k = 7 → up T 0 7 v 0 k = T 0 k := fun k hk => up_nk hk
  have c : ∀ c, ¬ c = 0 → up T 0 7 v c = T c := fun c hc => upc_ne hc
  simp only [finT, okE, n 0 (by decide), n 1 (by decide), n 3 (by decide), n 4 (by decide), n 5 (by decide), n 6 (by decide), c 3 (by decide), c 4 (by decide), c 5 (by decide), c 6 (by decide), c 7 (by decide), c 8 (by decide), c 9 (by decide), c 10 (by decide), c 11 (by decide), c 12 (by decide), c 13 (by decide), c 14 (by decide), c 15 (by decide), c 16 (by decide), c 18 (by decide), up_s]
  exact ⟨⟨i1, i3, by omega, i5, i6, i7, hv⟩, r3, r5, r7, hE, hPa⟩
theorem run_fin {G : SP} {D : Nat → Nat} {N : Nat → List Nat} (hw : wfG G D N) : ∀ (f : Nat) (T : SP), invT G D N T → finT G (runT G f T)
  | 0, T, h => by
    have := fin_of (v := T 0 7) (by have := h.1.2.2.2.2.2.2.2; omega) h
    rw [up_same rfl] at this
    exact this
  | f + 1, T, h => by
    simp only [runT]
    by_cases hat : T 0 0 < G 3 0
    · rw [if_pos hat]
      by_cases hst : stopR G T = 0
      · rw [if_pos hst]
        exact run_fin hw f _ (inv_step hw h hat hst)
      · rw [if_neg hst]
        exact fin_of (stopR_lt G T) h
    · rw [if_neg hat]
      have := fin_of (v := T 0 7) (by have := h.1.2.2.2.2.2.2.2; omega) h
      rw [up_same rfl] at this
      exact this
theorem theRun_fin {G : SP} {D : Nat → Nat} {N : Nat → List Nat} {inp : Nat → Nat} (hw : wfG G D N) (hin : ∀ j, j < G 3 2 → inp j < 1000000007) : finT G (theRun G inp) := run_fin hw _ _ (inv_start hw hin)
theorem qM_stop {I : HI} {J : HJ} {T : SP} {L : List Nat} {v : Nat} (h : qM I J T L) : qM I J (up T 0 7 v) L := by
  have n : ∀ k, ¬ k = 7 → up T 0 7 v 0 k = T 0 k := fun k hk => up_nk hk
  have c : ∀ c, ¬ c = 0 → up T 0 7 v c = T c := fun c hc => upc_ne hc
  simp only [qM, n 1 (by decide), n 2 (by decide), n 3 (by decide), n 4 (by decide), n 5 (by decide), n 6 (by decide), c 1 (by decide), c 2 (by decide), c 3 (by decide), c 4 (by decide), c 5 (by decide), c 6 (by decide), c 7 (by decide), c 8 (by decide), c 9 (by decide), c 10 (by decide), c 11 (by decide), c 12 (by decide), c 13 (by decide), c 14 (by decide), c 15 (by decide), c 16 (by decide), c 17 (by decide)]
  exact h
theorem qM_nil {I : HI} {J : HJ} {T : SP} {L : List Nat} (h : qM I J T L) : qM I J T [] := ⟨h.1, h.2.1, h.2.2.1, h.2.2.2.1, h.2.2.2.2.1, h.2.2.2.2.2.1, h.2.2.2.2.2.2.1, fun l hl => by cases hl⟩
theorem qM_ne {I : HI} {J : HJ} {T : SP} {L : List Nat} {k : Nat} {x : Int32} (hk : k = 59 ∨ k = 60) (h : qM I J T L) : qM (up I 80 k x) J T L := by
  have n : ∀ j, ¬ j = k → up I 80 k x 80 j = I 80 j := fun j hj => up_nk hj
  have c : ∀ c, ¬ c = 80 → up I 80 k x c = I c := fun c hc => up_ne _ _ _ _ hc
  simp only [qM, rS, rN, n 44 (by omega), n 47 (by omega), n 54 (by omega), n 56 (by omega), n 57 (by omega), n 61 (by omega), c 100 (by decide), c 102 (by decide), c 104 (by decide), c 106 (by decide), c 92 (by decide), c 98 (by decide), c 96 (by decide), c 97 (by decide), c 107 (by decide), c 108 (by decide)]
  exact h
theorem qM_step {I : HI} {J : HJ} {G T : SP} {L : List Nat} (h : qM I J (actT G T) L) : qM (up I 80 61 (nI (T 0 1 + 1))) J (stepT G T) L := by
  have n : ∀ j, ¬ j = 61 → up I 80 61 (nI (T 0 1 + 1)) 80 j = I 80 j := fun j hj => up_nk hj
  have c : ∀ c, ¬ c = 80 → up I 80 61 (nI (T 0 1 + 1)) c = I c := fun c hc => up_ne _ _ _ _ hc
  have s0 : ∀ k, ¬ k = 0 → ¬ k = 1 → stepT G T 0 k = actT G T 0 k := fun k h1 h2 => stepT_0 h1 h2
  have sc : ∀ c, ¬ c = 0 → stepT G T c = actT G T c := fun c hc => stepT_c hc
  simp only [qM, rS, rN, n 44 (by omega), n 47 (by omega), n 54 (by omega), n 56 (by omega), n 57 (by omega), up_s, c 100 (by decide), c 102 (by decide), c 104 (by decide), c 106 (by decide), c 92 (by decide), c 98 (by decide), c 96 (by decide), c 97 (by decide), c 107 (by decide), c 108 (by decide),
    s0 2 (by decide) (by decide), s0 3 (by decide) (by decide), s0 4 (by decide) (by decide), s0 5 (by decide) (by decide), s0 6 (by decide) (by decide), stepT_done, sc 1 (by decide), sc 2 (by decide), sc 3 (by decide), sc 4 (by decide), sc 5 (by decide), sc 6 (by decide), sc 7 (by decide), sc 8 (by decide), sc 9 (by decide), sc 10 (by decide), sc 11 (by decide), sc 12 (by decide), sc 13 (by decide), sc 14 (by decide), sc 15 (by decide), sc 16 (by decide), sc 17 (by decide)]
  simp only [qM, rS, rN] at h
  exact ⟨⟨h.1.1, h.1.2.1, h.1.2.2.1, h.1.2.2.2.1, h.1.2.2.2.2.1, trivial⟩, h.2⟩
section MQ
variable {d : Nat} {I : HI} {J : HJ} {R : HR} {G T : SP} {D : Nat → Nat} {N : Nat → List Nat} {inp : Nat → Nat}
/-- the reference's RUN -/
theorem t_runs {Q : Unit → HI → HJ → Prop} (hs : Stat R) (hw : wfG G D N) (hP : pM I G) (hib : ∀ j, j < G 3 2 → inp j < 1000000007) (hin : ∀ j, j < G 3 2 → J 91 j = lN (inp j)) (h : ∀ I' J', qM I' J' (theRun G inp) [] → stM I' (theRun G inp) → frR I I' J J' → Q () I' J') : Wd fv (d + 5) M_X12_runs [.ref 80] I J R Q := by
  refine ⟨Nat.le_of_ble_eq_true rfl, fun K hK => ?_⟩
  have hlen := hw.2.2.2.2.1
  have loop : ∀ (f : Nat) (T : SP) (I1 : HI) (J1 : HJ), T 0 1 + f = 3001 → invT G D N T → qM I1 J1 T (N (T 0 0)) → stM I1 T → frR I I1 J J1 → (∀ I' J', qM I' J' (runT G f T) [] → stM I' (runT G f T) → frR I I' J J' → Q () I' J') → K 6 [(0, .ref 80), (1, .int (nI (T 0 0)))] [] I1 J1 R := by
    intro f
    induction f with
    | zero => intro T I1 J1 h1 h2; have := h2.1.2.2.1; omega
    | succ f ih =>
      intro T I1 J1 h1 h2 h3 h4 h5 h6
      have hP1 := pM_fr h5 hP
      have h2a := h2.1
      have hz : I1 80 59 = 0 := by rw [h4.1, h2a.2.2.2.2.2.2.2]; rfl
      refine g_X12_runs_6 hK hs ?_
      rw [hP1.1]
      simp only [runT] at h6
      refine ⟨fun hc => ?_, fun hc => ⟨fun hc2 => absurd hz hc2, fun _ => ?_⟩⟩
      · have : ¬ T 0 0 < G 3 0 := fun q => nI_ge q (by omega) hc
        rw [if_neg this] at h6
        exact h6 I1 J1 (qM_nil h3) h4 h5
      · have hat : T 0 0 < G 3 0 := by
          rcases Nat.lt_or_ge (T 0 0) (G 3 0) with q | q
          · exact q
          · exact absurd (nI_le q (by omega)) hc
        rw [if_pos hat] at h6
        have c3 : (nI (T 0 1) = (3000 : Int32)) ↔ T 0 1 = 3000 := nI_eq (by omega) (by decide)
        rw [h3.1.2.2.2.2.2, c3]
        have stop : ¬ stopR G T = 0 → Q () (up (up I1 80 59 (nI (stopR G T))) 80 60 (nI (T 0 0))) J1 := by
          intro hst
          rw [if_neg hst] at h6
          refine h6 _ _ (qM_ne (Or.inr rfl) (qM_ne (Or.inl rfl) (qM_nil (qM_stop h3)))) ⟨?_, ?_⟩ (frR_f (by decide) (by decide) (frR_f (by decide) (by decide) h5))
          · rw [up_nk (by decide), up_s, up_s]
          · rw [up_s, up_s, if_neg hst, up_nk (by decide)]
        refine ⟨fun hd => ?_, fun hd => ?_⟩
        · refine t_goes hs hw h2 hP1 h3 hat (by omega) (fun hst I' J' g1 g2 g3 g4 => ?_) (fun hst r => ?_)
          · rw [if_pos hst] at h6
            refine ⟨fun _ => ?_, fun hc2 => absurd (g2.trans hz) hc2⟩
            have hd2 : I' 80 61 = nI (T 0 1) := by rw [g1.1.2.2.2.2.2, act_done]
            rw [hd2, nI_1, show nextT G T = stepT G T 0 0 from stepT_at.symm]
            have e4 : stepT G T 0 1 = T 0 1 + 1 := stepT_done
            have hin7 := inv_step hw h2 hat hst
            refine ih (stepT G T) _ _ (by rw [e4]; omega) hin7 (by rw [stepT_at]; exact qM_step g1) ⟨?_, ?_⟩ (frR_tr h5 (frR_f (by decide) (by decide) g4)) h6
            · rw [up_nk (by decide), g2, hz, hin7.1.2.2.2.2.2.2.2]; rfl
            · rw [up_nk (by decide), g3, h4.2, hin7.1.2.2.2.2.2.2.2, h2a.2.2.2.2.2.2.2, if_pos rfl, if_pos rfl]
          · refine ⟨fun hc2 => ?_, fun _ => stop hst⟩
            rw [up_nk (by decide), up_s] at hc2
            exact absurd ((nI_eq (b := 0) (by have := stopR_lt G T; omega) (by decide)).mp hc2) hst
        · have hst : stopR G T = 3 := by
            simp only [stopR]
            rw [if_pos (by omega)]
          refine t_stops hs ?_
          have := stop (by omega)
          rw [hst] at this
          exact this
  refine g_X12_runs_0 hK hs ?_
  refine t_clears (G := G) (inp := inp) hs hw.2.2.2.2.2.1 hP.2.2.1 hin (fun I' J' g1 g2 g3 => ?_)
  have e0 : startT G inp 0 1 = 0 := by simp [startT]
  have e1 : startT G inp 0 0 = 0 := by simp [startT]
  have hst := inv_start hw hib
  have := loop 3001 (startT G inp) I' J' (by rw [e0]) hst (by rw [e1, hw.2.2.2.1]; exact g1) g2 g3 h
  rw [e1] at this
  exact this
end MQ
