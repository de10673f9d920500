/-! the reference's RUN is theRun -/
def rL (J : HJ) (a : Nat) (f : Nat → Nat) (n : Nat) : Prop := ∀ j, j < n → J a j = lN (f j)
theorem rL_ne {J : HJ} {a b k n : Nat} {x : Int64} {f : Nat → Nat} (h : ¬ a = b) : rL (up J b k x) a f n ↔ rL J a f n := by simp only [rL, up_ne J b k x h]
theorem rL_set {J : HJ} {a k n v : Nat} {f : Nat → Nat} (h : rL J a f n) : rL (up J a k (lN v)) a (fun j => if j = k then v else f j) n := by
  intro j hj
  by_cases hk : j = k
  · simp [up_ap, hk]
  · simp [up_ap, hk, h j hj]
theorem rL_push {J : HJ} {a n v : Nat} {f : Nat → Nat} (h : rL J a f n) : rL (up J a n (lN v)) a (fun j => if j = n then v else f j) (n + 1) := by
  intro j hj
  by_cases hk : j = n
  · simp [up_ap, hk]
  · simp [up_ap, hk, h j (by omega)]
theorem rL_le {J : HJ} {a n m : Nat} {f : Nat → Nat} (hm : m ≤ n) (h : rL J a f n) : rL J a f m := fun j hj => h j (by omega)
/-- the reference's program -/
def pM (I : HI) (G : SP) : Prop := I 80 35 = nI (G 3 0) ∧ I 80 30 = nI (G 3 1) ∧ I 80 31 = nI (G 3 2) ∧ I 80 32 = nI (G 3 3) ∧ I 80 33 = nI (G 3 4) ∧ I 80 34 = nI (G 3 5) ∧ (∀ i, i < G 3 0 → I 86 i = nI (G 0 i) ∧ I 87 i = nI (G 1 i) ∧ I 88 i = nI (G 2 i)) ∧ (∀ r, r < G 3 4 → I 84 r = nI (G 4 r) ∧ I 85 r = nI (G 5 r))
/-- the reference's RUN, but for where it is and why it stops -/
def qM (I : HI) (J : HJ) (T : SP) (L : List Nat) : Prop :=
  (I 80 44 = nI (T 0 4) ∧ I 80 47 = nI (T 0 2) ∧ I 80 54 = nI (T 0 3) ∧ I 80 56 = nI (T 0 5) ∧ I 80 57 = nI (T 0 6) ∧ I 80 61 = nI (T 0 1))
  ∧ (rL J 99 (T 1) (T 0 2) ∧ rS I 100 (T 2) (T 0 2)) ∧ (rL J 101 (T 3) 8 ∧ rS I 102 (T 4) 8) ∧ (rL J 103 (T 5) 48 ∧ rS I 104 (T 6) 48) ∧ (rL J 105 (T 7) (T 0 3) ∧ rS I 106 (T 8) (T 0 3))
  ∧ (rN I 92 (T 9) (T 0 4) ∧ rN I 98 (T 10) (T 0 4) ∧ rL J 93 (T 11) (T 0 4) ∧ rL J 94 (T 12) (T 0 4) ∧ rL J 95 (T 13) (T 0 4) ∧ rS I 96 (T 14) (T 0 4) ∧ rS I 97 (T 15) (T 0 4)) ∧ rN I 107 (T 16) (T 0 5) ∧ (∀ l ∈ L, I 108 l = nI (T 17 l))
def stM (I : HI) (T : SP) : Prop := I 80 59 = nI (T 0 7) ∧ I 80 60 = (if T 0 7 = 0 then (-2) else nI (T 0 0))
/-- nothing but the RUN's own has changed -/
def frR (I I' : HI) (J J' : HJ) : Prop := (∀ a, ¬ a = 80 → (a < 92 ∨ 108 < a) → I' a = I a) ∧ (∀ k, (k < 44 ∨ 61 < k) → I' 80 k = I 80 k) ∧ (∀ a, (a < 92 ∨ 108 < a) → J' a = J a)
theorem frR_rf {I : HI} {J : HJ} : frR I I J J := ⟨fun _ _ _ => rfl, fun _ _ => rfl, fun _ _ => rfl⟩
theorem frR_I {I I' : HI} {J J' : HJ} {c k : Nat} {x : Int32} (hc : 92 ≤ c) (hc2 : c ≤ 108) (h : frR I I' J J') : frR I (up I' c k x) J J' := ⟨fun a a1 a2 => (up_ne _ _ _ _ (by omega)).trans (h.1 a a1 a2), fun j hj => (up_na (by omega)).trans (h.2.1 j hj), h.2.2⟩
theorem frR_f {I I' : HI} {J J' : HJ} {k : Nat} {x : Int32} (hc : 44 ≤ k) (hc2 : k ≤ 61) (h : frR I I' J J') : frR I (up I' 80 k x) J J' := ⟨fun a a1 a2 => (up_ne _ _ _ _ a1).trans (h.1 a a1 a2), fun j hj => (up_nk (by omega)).trans (h.2.1 j hj), h.2.2⟩
theorem frR_J {I I' : HI} {J J' : HJ} {c k : Nat} {x : Int64} (hc : 92 ≤ c) (hc2 : c ≤ 108) (h : frR I I' J J') : frR I I' J (up J' c k x) := ⟨h.1, h.2.1, fun a a1 => (up_ne _ _ _ _ (by omega)).trans (h.2.2 a a1)⟩
theorem frR_tr {I I1 I2 : HI} {J J1 J2 : HJ} (h1 : frR I I1 J J1) (h2 : frR I1 I2 J1 J2) : frR I I2 J J2 := ⟨fun a a1 a2 => (h2.1 a a1 a2).trans (h1.1 a a1 a2), fun k hk => (h2.2.1 k hk).trans (h1.2.1 k hk), fun a ha => (h2.2.2 a ha).trans (h1.2.2 a ha)⟩
theorem pM_fr {I I' : HI} {J J' : HJ} {G : SP} (hf : frR I I' J J') (h : pM I G) : pM I' G := by
  simp only [pM, hf.1 84 (by decide) (by decide), hf.1 85 (by decide) (by decide), hf.1 86 (by decide) (by decide), hf.1 87 (by decide) (by decide), hf.1 88 (by decide) (by decide), hf.2.1 30 (by decide), hf.2.1 31 (by decide), hf.2.1 32 (by decide), hf.2.1 33 (by decide), hf.2.1 34 (by decide), hf.2.1 35 (by decide)]
  exact h
section MR
variable {d : Nat} {I : HI} {J : HJ} {R : HR} {G T : SP} {D : Nat → Nat} {N : Nat → List Nat} {inp : Nat → Nat}
theorem t_mpush {n : Nat} {v : Int64} {s : Int32} {Q : Unit → HI → HJ → Prop} (hs : Stat R) (hn : n < 64) (h0 : I 80 47 = nI n) (h : Q () (up (up I 100 n s) 80 47 (nI (n + 1))) (up J 99 n v)) : Wd fv (d + 1) M_X12_push [.ref 80, .long v, .int s] I J R Q := by
  refine e_X12_push hs ⟨n, h0, hn, ?_⟩
  rw [h0, nI_1]
  exact h
theorem t_stops {a b : Int32} {Q : Unit → HI → Prop} (hs : Stat R) (h : Q () (up (up I 80 59 a) 80 60 b)) : Wc fv (d + 1) M_X12_stops [.ref 80, .int a, .int b] I J R Q := e_X12_stops hs h
theorem t_clears {Q : Unit → HI → HJ → Prop} (hs : Stat R) (h4 : G 3 2 ≤ 4) (hP : I 80 31 = nI (G 3 2)) (hin : ∀ j, j < G 3 2 → J 91 j = lN (inp j)) (h : ∀ I' J', qM I' J' (startT G inp) [] → stM I' (startT G inp) → frR I I' J J' → Q () I' J') : Wd fv (d + 1) M_X12_clears [.ref 80] I J R Q := by
  refine ⟨Nat.le_of_ble_eq_true rfl, fun K hK => ?_⟩
  have fin : ∀ (I1 : HI) (J1 : HJ), frR I I1 J J1 → (I1 80 44 = 0 ∧ I1 80 47 = 0 ∧ I1 80 54 = 0 ∧ I1 80 56 = 0 ∧ I1 80 57 = 0 ∧ I1 80 59 = 0 ∧ I1 80 60 = -2 ∧ I1 80 61 = 0) → rL J1 101 (startT G inp 3) 8 → rS I1 102 (startT G inp 4) 8 → rL J1 103 (startT G inp 5) 48 → rS I1 104 (startT G inp 6) 48 → Q () I1 J1 := by
    intro I1 J1 hf ⟨a1, a2, a3, a4, a5, a6, a7, a8⟩ b1 b2 b3 b4
    have z : ∀ k, startT G inp 0 k = 0 := fun k => by simp [startT]
    refine h I1 J1 ⟨by simp only [z]; exact ⟨a1, a2, a3, a4, a5, a8⟩, ?_, ⟨b1, b2⟩, ⟨b3, b4⟩, ?_, ?_, ?_, fun l hl => by cases hl⟩ ⟨by rw [z]; exact a6, by rw [z, if_pos rfl]; exact a7⟩ hf
    · rw [z]; exact ⟨fun j hj => absurd hj (by omega), fun j hj => absurd hj (by omega)⟩
    · rw [z]; exact ⟨fun j hj => absurd hj (by omega), fun j hj => absurd hj (by omega)⟩
    · rw [z]; exact ⟨fun j hj => absurd hj (by omega), fun j hj => absurd hj (by omega), fun j hj => absurd hj (by omega), fun j hj => absurd hj (by omega), fun j hj => absurd hj (by omega), fun j hj => absurd hj (by omega), fun j hj => absurd hj (by omega)⟩
    · rw [z]; exact fun j hj => absurd hj (by omega)
  have e3 : ∀ j, startT G inp 3 j = if j < G 3 2 then inp j else 0 := fun j => by simp [startT]
  have e4 : ∀ j, startT G inp 4 j = if j < G 3 2 then 1000 + j else 5000 := fun j => by simp [startT]
  have e5 : ∀ j, startT G inp 5 j = 0 := fun j => by simp [startT]
  have e6 : ∀ j, startT G inp 6 j = 5000 := fun j => by simp [startT]
  have k105 : ∀ (m i : Nat) (I1 : HI) (J1 : HJ), i + m = 48 → frR I I1 J J1 → (I1 80 44 = 0 ∧ I1 80 47 = 0 ∧ I1 80 54 = 0 ∧ I1 80 56 = 0 ∧ I1 80 57 = 0 ∧ I1 80 59 = 0 ∧ I1 80 60 = -2 ∧ I1 80 61 = 0) → rL J1 101 (startT G inp 3) 8 → rS I1 102 (startT G inp 4) 8 → rL J1 103 (startT G inp 5) i → rS I1 104 (startT G inp 6) i → K 105 [(0, .ref 80), (1, .int (nI i))] [] I1 J1 R := by
    intro m
    induction m with
    | zero =>
      intro i I1 J1 hi hf ha b1 b2 b3 b4
      have : i = 48 := by omega
      subst this
      exact g_X12_clears_105 hK hs ⟨fun _ => fin I1 J1 hf ha b1 b2 b3 b4, fun hc => absurd (by decide) hc⟩
    | succ m ih =>
      intro i I1 J1 hi hf ha b1 b2 b3 b4
      refine g_X12_clears_105 hK hs ⟨fun hc => absurd hc (nI_ge (b := 48) (by omega) (by omega)), fun _ => ⟨i, rfl, by omega, ?_⟩⟩
      rw [nI_1]
      refine ih (i + 1) _ _ (by omega) (frR_J (by decide) (by decide) (frR_I (by decide) (by decide) hf)) (by simp only [up_na (show ¬ 80 = 104 by decide)]; exact ha) ((rL_ne (by decide)).mpr b1) ((rS_ne (by decide)).mpr b2) ?_ ?_
      · have := rL_push (v := 0) b3
        intro j hj
        have h1 := this j hj
        rw [e5]
        show up J1 103 i (lN 0) 103 j = lN 0
        by_cases hji : j = i
        · simpa [hji] using h1
        · simpa [hji, e5] using h1
      · have := rS_push (v := 5000) b4
        intro j hj
        have h1 := this j hj
        rw [e6]
        show up I1 104 i (sI 5000) 104 j = sI 5000
        by_cases hji : j = i
        · simpa [hji] using h1
        · simpa [hji, e6] using h1
  have k43 : ∀ (m i : Nat) (I1 : HI) (J1 : HJ), i + m = 8 → frR I I1 J J1 → (I1 80 44 = 0 ∧ I1 80 47 = 0 ∧ I1 80 54 = 0 ∧ I1 80 56 = 0 ∧ I1 80 57 = 0 ∧ I1 80 59 = 0 ∧ I1 80 60 = -2 ∧ I1 80 61 = 0) → rL J1 101 (startT G inp 3) i → rS I1 102 (startT G inp 4) i → K 43 [(0, .ref 80), (1, .int (nI i))] [] I1 J1 R := by
    intro m
    induction m with
    | zero =>
      intro i I1 J1 hi hf ha b1 b2
      have : i = 8 := by omega
      subst this
      exact g_X12_clears_43 hK hs ⟨fun _ => k105 48 0 I1 J1 (by omega) hf ha b1 b2 (fun j hj => absurd hj (by omega)) (fun j hj => absurd hj (by omega)), fun hc => absurd (by decide) hc⟩
    | succ m ih =>
      intro i I1 J1 hi hf ha b1 b2
      refine g_X12_clears_43 hK hs ⟨fun hc => absurd hc (nI_ge (b := 8) (by omega) (by omega)), fun _ => ?_⟩
      have h31 : I1 80 31 = nI (G 3 2) := (hf.2.1 31 (by decide)).trans hP
      rw [h31, nI_1]
      have nx : ∀ (v s : Nat), v = startT G inp 3 i → s = startT G inp 4 i → K 43 [(0, .ref 80), (1, .int (nI (i + 1)))] [] (up I1 102 i (sI s)) (up J1 101 i (lN v)) R := by
        intro v s hv hsv
        refine ih (i + 1) _ _ (by omega) (frR_J (by decide) (by decide) (frR_I (by decide) (by decide) hf)) (by simp only [up_na (show ¬ 80 = 102 by decide)]; exact ha) ?_ ?_
        · have := rL_push (v := v) b1
          intro j hj
          have h1 := this j hj
          by_cases hji : j = i
          · subst hji; rw [← hv]; simpa using h1
          · simpa [hji] using h1
        · have := rS_push (v := s) b2
          intro j hj
          have h1 := this j hj
          by_cases hji : j = i
          · subst hji; rw [← hsv]; simpa using h1
          · simpa [hji] using h1
      refine ⟨fun hc => ?_, fun hc => ?_⟩
      · have hge : ¬ i < G 3 2 := fun q => nI_ge q (by omega) hc
        refine ⟨i, rfl, by omega, fun _ => ?_, fun hc2 => absurd hc hc2⟩
        exact nx 0 5000 (by rw [e3, if_neg hge]) (by rw [e4, if_neg hge])
      · have hlt : i < G 3 2 := by
          rcases Nat.lt_or_ge i (G 3 2) with q | q
          · exact q
          · exact absurd (nI_le q (by omega)) hc
        refine ⟨i, rfl, by omega, fun hc2 => absurd hc2 hc, fun _ => ?_⟩
        rw [hf.2.2 91 (by decide), hin i hlt, show (1000 : Int32) + nI i = nI (1000 + i) from nI_add 1000 i, ← sI_n (show 1000 + i ≠ 5000 by omega)]
        exact nx (inp i) (1000 + i) (by rw [e3, if_pos hlt]) (by rw [e4, if_pos hlt])
  refine g_X12_clears_0 hK hs ?_
  refine k43 8 0 _ _ (by omega) ?_ ?_ (fun j hj => absurd hj (by omega)) (fun j hj => absurd hj (by omega))
  · exact frR_f (by decide) (by decide) (frR_f (by decide) (by decide) (frR_f (by decide) (by decide) (frR_f (by decide) (by decide) (frR_f (by decide) (by decide) (frR_f (by decide) (by decide) (frR_f (by decide) (by decide) (frR_f (by decide) (by decide) frR_rf)))))))
  · simp [up_ap]
end MR
