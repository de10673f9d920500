/-! the state between calls; text, set -/
def CTS (I : HI) (R : HR) (G : SP) (N : Nat → List Nat) (inp : Nat → Nat) (m : Nat) (B : Nat → Nat) (fk fp : Int32) : Prop :=
  cQ I R G N (theRun G inp) ∧ (∃ p p', R 0 5 = some p ∧ R 0 6 = some p' ∧ ((p = 8 ∧ p' = 12) ∨ (p = 12 ∧ p' = 8))) ∧ (∀ j, j < 4 → I 16 j = nI (inp j)) ∧ I 0 1 = nI m ∧ (∀ j, j < m → I 1 j = bI (B j)) ∧ I 0 3 = fk ∧ I 0 4 = fp
def MT (I : HI) (J : HJ) (R : HR) (G : SP) (inp : Nat → Nat) (m : Nat) (B : Nat → Nat) (fk fp : Int32) : Prop :=
  rQ I J R G (theRun G inp) ∧ (∀ j, j < 4 → J 91 j = lN (inp j)) ∧ I 80 2 = nI m ∧ (∀ j, j < m → I 81 j = nI (B j)) ∧ I 80 11 = fk ∧ I 80 12 = fp ∧ fewI I
def AB (G : SP) (D : Nat → Nat) (N : Nat → List Nat) (inp : Nat → Nat) (m : Nat) (B : Nat → Nat) : Prop := wfG G D N ∧ (∀ j, j < 4 → inp j < 1000000007) ∧ m ≤ 900 ∧ ∀ j, B j < 256
theorem cQ_R {I : HI} {R R' : HR} {G T : SP} {N : Nat → List Nat} (hs : Stat R') (h5 : R' 0 5 = R 0 5) (h : cQ I R G N T) : cQ I R' G N T := by
  obtain ⟨_, ⟨p, hp1, hp2, hp3⟩, hm⟩ := h
  exact ⟨hs, ⟨p, h5.trans hp1, hp2, hp3⟩, hm⟩
theorem mR_I {I I' : HI} {G T : SP} {N : Nat → List Nat} (h : ∀ a, 17 ≤ a → a ≤ 43 → ¬ a = 40 → I' a = I a) (hm : mR I 17 G N T) : mR I' 17 G N T := by
  obtain ⟨h1, h2, h3, h4, h5, h6, h7, h8⟩ := hm
  refine ⟨?_, slR_cg (h _ (by decide) (by decide) (by decide)) (h _ (by decide) (by decide) (by decide)) (h _ (by decide) (by decide) (by decide)) h2, slR_cg (h _ (by decide) (by decide) (by decide)) (h _ (by decide) (by decide) (by decide)) (h _ (by decide) (by decide) (by decide)) h3, slR_cg (h _ (by decide) (by decide) (by decide)) (h _ (by decide) (by decide) (by decide)) (h _ (by decide) (by decide) (by decide)) h4, slR_cg (h _ (by decide) (by decide) (by decide)) (h _ (by decide) (by decide) (by decide)) (h _ (by decide) (by decide) (by decide)) h5, tpR_cg (fun j hj => h _ (by omega) (by omega) (by omega)) h6, tsR_cg (h _ (by decide) (by decide) (by decide)) (h _ (by decide) (by decide) (by decide)) h7, lpR_cg (congrFun (h 17 (by decide) (by decide) (by decide)) 8) (h _ (by decide) (by decide) (by decide)) h8⟩
  rw [h 17 (by decide) (by decide) (by decide)]
  exact h1
theorem pR_I {I I' : HI} {p : Nat} {G : SP} (h : ∀ a, p ≤ a → a ≤ p + 3 → I' a = I a) (hp : pR I p G) : pR I' p G := by
  simp only [pR, h p (by omega) (by omega), h (p + 1) (by omega) (by omega), h (p + 2) (by omega) (by omega), h (p + 3) (by omega) (by omega)]
  exact hp
theorem pR_S {I : HI} {p n : Nat} {B : Nat → Nat} {P : SP} (h : cS I p n B P) : pR I p (GP P) := by
  obtain ⟨s1, s2, s3, s4, s5, s6, s7, s8⟩ := h
  exact ⟨s3.1, s3.2.1, s3.2.2.1, s3.2.2.2.1, s3.2.2.2.2.1, s3.2.2.2.2.2, s5, fun r hr => ⟨(s6 r hr).1, (s6 r hr).2.1⟩⟩
section TA
variable {d : Nat} {I : HI} {J : HJ} {R : HR} {G : SP} {D : Nat → Nat} {N : Nat → List Nat} {inp : Nat → Nat} {m : Nat} {B : Nat → Nat} {fk fp : Int32} {x1 x2 x3 : Int32}
theorem x_nm {x : Int32} {m : Nat} (hm : m ≤ 900) (h0 : ¬ x < 0) (h1 : x ≤ nI m) : ∃ k, x = nI k ∧ xN x = k ∧ k ≤ m := by
  rw [x_lt0] at h0
  rw [x_len x (by omega)] at h1
  exact ⟨x.toInt.toNat, (x_eqn x (by omega)).mpr (by omega), rfl, by omega⟩
theorem c_text {Q : Int32 → HI → HR → Prop} (hA : AB G D N inp m B) (hc : CTS I R G N inp m B fk fp)
    (h0 : (x1 < 0 ∨ ¬ x1 ≤ nI m) → Q (-2) I R)
    (h1 : ∀ k P', ¬ x1 < 0 → x1 ≤ nI m → x1 = nI k → k ≤ m → paS B k = .ok P' → ∀ I' R', CTS I' R' (GP P') (nlF (P' 1)) (fun _ => 0) 0 B 0 (-1) → (∀ a, 79 < a → I' a = I a) → Q (nI (P' 0 5)) I' R')
    (h2 : ∀ k e, ¬ x1 < 0 → x1 ≤ nI m → x1 = nI k → k ≤ m → paS B k = .error e → ∀ I' R', CTS I' R' G N inp 0 B (nI e.1) (nI e.2) → (∀ a, 79 < a → I' a = I a) → Q (-1) I' R') : Wr fi (d + 33) M_X11_text [.ref 0, .int x1] I J R Q := by
  obtain ⟨hw, hib, hm9, hB⟩ := hA
  obtain ⟨hq, ⟨p, p', hp5, hp6, hpp⟩, hin, hby, hbs, hfk, hfp⟩ := hc
  have hs := hq.1
  have hxp : isX5 p := by rcases hpp with ⟨rfl, _⟩ | ⟨rfl, _⟩ <;> simp [isX5]
  have hxp' : isX5 p' := by rcases hpp with ⟨_, rfl⟩ | ⟨_, rfl⟩ <;> simp [isX5]
  have hpP : pR I p G := by
    obtain ⟨q, hq1, hq2, hq3⟩ := hq.2.1
    rw [hp5] at hq1
    cases hq1
    exact hq3
  refine e_X11_text hs ?_
  rw [hby]
  refine ⟨fun z => h0 (Or.inl z), fun z => ⟨fun z1 => ⟨p', hp6, hxp', ?_⟩, fun z1 => h0 (Or.inr z1)⟩⟩
  obtain ⟨k, ek, _, hk⟩ := x_nm hm9 z z1
  have h1 := h1 k
  have h2 := h2 k
  have hbk : ∀ j, j < k → (up I 0 1 0) 1 j = bI (B j) := fun j hj => by rw [up_na (by decide)]; exact hbs j (by omega)
  have hs1 : Stat (up R 2 1 (some p')) := stat_up hs (by decide +kernel)
  have r5 : (up R 2 1 (some p')) 0 5 = some p := by rw [up_na (by decide)]; exact hp5
  have r6 : (up R 2 1 (some p')) 0 6 = some p' := by rw [up_na (by decide)]; exact hp6
  rw [ek]
  refine t_ccompile (n := k) hs hxp' (by omega) hB hbk ?_
  cases hpa : paS B k with
  | error e =>
    intro I1 e1 e2 f1
    refine ⟨fun w => absurd w (by decide), fun _ => ?_⟩
    rw [e1, e2]
    have fr : ∀ a, ¬ a = 0 → (a < 2 ∨ 7 < a) → (a < p' ∨ p' + 3 < a) → up (up I1 0 3 (nI e.1)) 0 4 (nI e.2) a = I a := fun a a0 a1 a2 => by rw [up_ne _ _ _ _ a0, up_ne _ _ _ _ a0, f1 a a1 a2, up_ne _ _ _ _ a0]
    have f01 : up (up I1 0 3 (nI e.1)) 0 4 (nI e.2) 0 1 = 0 := by
      rw [up_nk (by decide), up_nk (by decide), f1 0 (Or.inl (by decide)) (by rcases hpp with ⟨_, rfl⟩ | ⟨_, rfl⟩ <;> decide), up_s]
    refine h2 e z z1 ek hk hpa _ _ ⟨⟨hs1, ⟨p, r5, hxp, ?_⟩, ?_⟩, ⟨p, p', r5, r6, hpp⟩, ?_, f01, fun j hj => absurd hj (by omega), ?_, ?_⟩ (fun a ha => fr a (by omega) (by omega) (by rcases hpp with ⟨_, rfl⟩ | ⟨_, rfl⟩ <;> omega))
    · exact pR_I (fun a a1 a2 => fr a (by rcases hpp with ⟨rfl, rfl⟩ | ⟨rfl, rfl⟩ <;> omega) (by rcases hpp with ⟨rfl, rfl⟩ | ⟨rfl, rfl⟩ <;> omega) (by rcases hpp with ⟨rfl, rfl⟩ | ⟨rfl, rfl⟩ <;> omega)) hpP
    · exact mR_I (fun a a1 a2 _ => fr a (by omega) (by omega) (by rcases hpp with ⟨rfl, rfl⟩ | ⟨rfl, rfl⟩ <;> omega)) hq.2.2
    · intro j hj
      rw [fr 16 (by decide) (by decide) (by rcases hpp with ⟨rfl, rfl⟩ | ⟨rfl, rfl⟩ <;> decide)]
      exact hin j hj
    · rw [up_nk (by decide), up_s]
    · rw [up_s]
  | ok P' =>
    intro I1 hS1 f1
    obtain ⟨okl, hb0⟩ := paS_ok (B := B) (by omega) hpa
    have hwf := wf_P (by omega : k ≤ 900) okl hb0
    refine ⟨fun _ => ⟨p, r5, hxp, p', r6, hxp', ?_⟩, fun w => absurd w (by decide)⟩
    have s4 := hS1.2.2.2.1
    rw [s4.2.2.1, s4.2.2.2]
    have hs2 : Stat (up (up (up R 2 1 (some p')) 0 5 (some p')) 0 6 (some p)) := stat_up (stat_up hs1 (by decide +kernel)) (by decide +kernel)
    have hP1 : pR I1 p' (GP P') := pR_S hS1
    refine t_fill hs2 (sc_16 hs2) rfl (by decide) ?_
    have fr : ∀ a, ¬ a = 0 → ¬ a = 16 → fillI (up (up I1 0 3 0) 0 4 (-1)) 16 4 0 a = I1 a := fun a a0 a1 => by
      funext j
      simp only [fillI]
      rw [if_neg (by omega), up_na a0, up_na a0]
    have hx := x5_ne hxp'
    have hP2 : pR (fillI (up (up I1 0 3 0) 0 4 (-1)) 16 4 0) p' (GP P') := pR_I (fun a a1 a2 => fr a (by omega) (by rcases hpp with ⟨rfl, rfl⟩ | ⟨rfl, rfl⟩ <;> omega)) hP1
    have i16 : ∀ j, j < 4 → fillI (up (up I1 0 3 0) 0 4 (-1)) 16 4 0 16 j = nI 0 := fun j hj => by
      simp only [fillI]
      rw [if_pos ⟨trivial, hj⟩]
      rfl
    have i0 : ∀ j, fillI (up (up I1 0 3 0) 0 4 (-1)) 16 4 0 0 j = up (up I1 0 3 0) 0 4 (-1) 0 j := fun j => by
      simp only [fillI]
      rw [if_neg (by omega)]
    refine t_execute (d := d + 26) (G := GP P') (D := dpF (P' 1)) (N := nlF (P' 1)) (inp := fun _ => 0) hs2 (Or.inl rfl) hxp' hwf hP2 (sc_16 hs2) rfl (Or.inl (by decide)) (fun j _ => by decide) (fun j hj => i16 j (by have : GP P' 3 2 = P' 0 6 := rfl; have := hwf.2.2.2.2.2.1; omega)) (fun I3 g1 g2 => ?_)
    have hs3 : Stat (up (up (up (up R 2 1 (some p')) 0 5 (some p')) 0 6 (some p)) 17 0 (some p')) := su_X1_0 hs2 (Or.inl rfl)
    have q5 : (up (up (up (up R 2 1 (some p')) 0 5 (some p')) 0 6 (some p)) 17 0 (some p')) 0 5 = some p' := by rw [up_na (by decide), up_nk (by decide), up_s]
    have q6 : (up (up (up (up R 2 1 (some p')) 0 5 (some p')) 0 6 (some p)) 17 0 (some p')) 0 6 = some p := by rw [up_na (by decide), up_s]
    refine ⟨p', q5, hxp', ?_⟩
    have hP3 : pR I3 p' (GP P') := pR_I (fun a a1 a2 => g2 a (by rcases hpp with ⟨rfl, rfl⟩ | ⟨rfl, rfl⟩ <;> omega)) hP2
    have e2 : I3 p' 2 = nI (P' 0 5) := hP3.2.1
    rw [e2]
    have j0 : I3 0 = fillI (up (up I1 0 3 0) 0 4 (-1)) 16 4 0 0 := g2 0 (by decide)
    refine h1 P' z z1 ek hk hpa I3 _ ⟨⟨hs3, ⟨p', q5, hxp', hP3⟩, g1⟩, ⟨p', p, q5, q6, by omega⟩, ?_, ?_, fun j hj => absurd hj (by omega), ?_, ?_⟩ (fun a ha => ?_)
    · intro j hj
      rw [g2 16 (by decide)]
      exact i16 j hj
    · rw [j0, i0, up_nk (by decide), up_nk (by decide), f1 0 (Or.inl (by decide)) (by rcases hpp with ⟨_, rfl⟩ | ⟨_, rfl⟩ <;> decide), up_s]
      rfl
    · rw [j0, i0, up_nk (by decide), up_s]
    · rw [j0, i0, up_s]
    · exact (g2 a (by omega)).trans ((fr a (by omega) (by omega)).trans ((f1 a (by omega) (by rcases hpp with ⟨_, rfl⟩ | ⟨_, rfl⟩ <;> omega)).trans (up_ne _ _ _ _ (by omega))))
theorem rQ_N {I I' : HI} {J : HJ} {R : HR} {G T : SP} {D : Nat → Nat} {N : Nat → List Nat} (hw : wfG G D N) (hc : ∀ a, ¬ a = 80 → 91 ≤ a → I' a = I a) (h84 : ∀ r, r < 6 → I' 84 r = I 84 r ∧ I' 85 r = I 85 r) (h86 : ∀ i, i < 1000 → I' 86 i = I 86 i ∧ I' 87 i = I 87 i ∧ I' 88 i = I 88 i) (hk : ∀ k, 29 < k → I' 80 k = I 80 k) (h : rQ I J R G T) : rQ I' J R G T := by
  have g9 : G 3 0 ≤ 900 := hw.2.2.2.2.1
  have g6 : G 3 4 ≤ 6 := hw.2.2.2.2.2.2.2.2.1
  obtain ⟨h1, ⟨p1, p2, p3, p4, p5, p6, p7, p8⟩, h3, h4⟩ := h
  refine ⟨h1, ⟨?_, ?_, ?_, ?_, ?_, ?_, fun i hi => ?_, fun r hr => ?_⟩, ?_, ?_⟩
  · rw [hk 35 (by decide)]; exact p1
  · rw [hk 30 (by decide)]; exact p2
  · rw [hk 31 (by decide)]; exact p3
  · rw [hk 32 (by decide)]; exact p4
  · rw [hk 33 (by decide)]; exact p5
  · rw [hk 34 (by decide)]; exact p6
  · have := h86 i (by omega)
    rw [this.1, this.2.1, this.2.2]
    exact p7 i hi
  · have := h84 r (by omega)
    rw [this.1, this.2]
    exact p8 r hr
  · simp only [qM, rS, rN, hk 44 (by decide), hk 47 (by decide), hk 54 (by decide), hk 56 (by decide), hk 57 (by decide), hk 61 (by decide), hc 92 (by decide) (by decide), hc 96 (by decide) (by decide), hc 97 (by decide) (by decide), hc 98 (by decide) (by decide), hc 100 (by decide) (by decide), hc 102 (by decide) (by decide), hc 104 (by decide) (by decide), hc 106 (by decide) (by decide), hc 107 (by decide) (by decide), hc 108 (by decide) (by decide)]
    exact h3
  · simp only [stM, hk 59 (by decide), hk 60 (by decide)]
    exact h4
theorem fewI_I {I I' : HI} (h1 : I' 80 73 = I 80 73) (h2 : I' 118 = I 118) (h3 : I' 119 = I 119) (h : fewI I) : fewI I' := by
  simp only [fewI, tabF, h1, h2, h3]
  exact h
theorem m_text {Q : Int32 → HI → HJ → Prop} (hA : AB G D N inp m B) (hc : MT I J R G inp m B fk fp)
    (h0 : (x1 < 0 ∨ ¬ x1 ≤ nI m) → Q (-2) (up I 80 0 0) J)
    (h1 : ∀ k P', ¬ x1 < 0 → x1 ≤ nI m → x1 = nI k → k ≤ m → paS B k = .ok P' → ∀ I' J', MT I' J' R (GP P') (fun _ => 0) 0 B 0 (-1) → (∀ a, a < 80 → I' a = I a) → I' 80 0 = 0 → Q (nI (P' 0 5)) I' J')
    (h2 : ∀ k e, ¬ x1 < 0 → x1 ≤ nI m → x1 = nI k → k ≤ m → paS B k = .error e → ∀ I' J', MT I' J' R G inp 0 B (nI e.1) (nI e.2) → (∀ a, a < 80 → I' a = I a) → I' 80 0 = 0 → Q (-1) I' J') : Wd fi (d + 46) M_X12_text [.ref 80, .int x1] I J R Q := by
  obtain ⟨hw, hib, hm9, hB⟩ := hA
  obtain ⟨hq, hJ, hby, hbs, hfk, hfp, hfew⟩ := hc
  have hs := hq.1
  refine e_X12_text hs ?_
  rw [hby]
  refine ⟨fun z => h0 (Or.inl z), fun z => ⟨fun z1 => ?_, fun z1 => h0 (Or.inr z1)⟩⟩
  obtain ⟨k, ek, _, hk⟩ := x_nm hm9 z z1
  have h1 := h1 k
  have h2 := h2 k
  rw [ek]
  refine t_mreadText (n := k) (d := d) hs (by omega) hB (fun j hj => by rw [up_na (by decide)]; exact hbs j (by omega)) ?_
  cases hpa : paS B k with
  | error e =>
    intro I1 hf f1
    refine ⟨fun _ => ⟨fun w => absurd w hf.2.1, fun _ => ?_⟩, fun w => absurd w hf.2.1⟩
    rw [hf.1, hf.2.2]
    have ef : ∀ j, ¬ j = 2 → ¬ j = 11 → ¬ j = 12 → up (up (up I1 80 2 0) 80 11 (nI e.1)) 80 12 (nI e.2) 80 j = I1 80 j := fun j a1 a2 a3 => by rw [up_nk a3, up_nk a2, up_nk a1]
    have ec : ∀ c, ¬ c = 80 → up (up (up I1 80 2 0) 80 11 (nI e.1)) 80 12 (nI e.2) c = I1 c := fun c hc => by rw [up_ne _ _ _ _ hc, up_ne _ _ _ _ hc, up_ne _ _ _ _ hc]
    have f0 : ∀ c, ¬ c = 80 → (c < 82 ∨ 90 < c) → I1 c = I c := fun c c1 c2 => (f1.1 c c1 c2).trans (up_ne _ _ _ _ c1)
    have fk' : ∀ j, 29 < j → I1 80 j = I 80 j := fun j hj => (f1.2.2.2 j (by omega)).trans (up_nk (by omega))
    refine h2 e z z1 ek hk hpa _ J ⟨?_, hJ, ?_, fun j hj => absurd hj (by omega), ?_, ?_, ?_⟩ (fun a ha => by rw [ec a (by omega)]; exact f0 a (by omega) (by omega)) ?_
    · refine rQ_N hw (fun a a1 a2 => by rw [ec a a1]; exact f0 a a1 (by omega)) (fun r hr => ?_) (fun i hi => ?_) (fun j hj => by rw [ef j (by omega) (by omega) (by omega)]; exact fk' j hj) hq
      · rw [ec 84 (by decide), ec 85 (by decide), (f1.2.1 r hr).1, (f1.2.1 r hr).2, up_na (by decide), up_na (by decide)]
        exact ⟨rfl, rfl⟩
      · rw [ec 86 (by decide), ec 87 (by decide), ec 88 (by decide), (f1.2.2.1 i hi).1, (f1.2.2.1 i hi).2.1, (f1.2.2.1 i hi).2.2, up_na (by decide), up_na (by decide), up_na (by decide)]
        exact ⟨rfl, rfl, rfl⟩
    · rw [up_nk (by decide), up_nk (by decide), up_s]; rfl
    · rw [up_nk (by decide), up_s]
    · rw [up_s]
    · refine fewI_I ?_ ?_ ?_ hfew
      · rw [ef 73 (by decide) (by decide) (by decide)]; exact fk' 73 (by decide)
      · rw [ec 118 (by decide)]; exact f0 118 (by decide) (by decide)
      · rw [ec 119 (by decide)]; exact f0 119 (by decide) (by decide)
    · rw [ef 0 (by decide) (by decide) (by decide), f1.2.2.2 0 (by decide), up_s]
  | ok P' =>
    intro I1 hS1 f1
    obtain ⟨okl, hb0⟩ := paS_ok (B := B) (by omega) hpa
    have hwf := wf_P (by omega : k ≤ 900) okl hb0
    have i9 := hS1.2.1.2.1
    refine ⟨fun w => absurd i9 w, fun _ => ⟨fun _ => ?_, fun w => absurd i9 w⟩⟩
    rw [i9]
    have ef : ∀ j, ¬ j = 2 → ¬ j = 11 → ¬ j = 12 → up (up (up I1 80 2 0) 80 11 0) 80 12 (-1) 80 j = I1 80 j := fun j a1 a2 a3 => by rw [up_nk a3, up_nk a2, up_nk a1]
    have ec : ∀ c, ¬ c = 80 → up (up (up I1 80 2 0) 80 11 0) 80 12 (-1) c = I1 c := fun c hc => by rw [up_ne _ _ _ _ hc, up_ne _ _ _ _ hc, up_ne _ _ _ _ hc]
    have g2 : up (up (up I1 80 2 0) 80 11 0) 80 12 (-1) 80 2 = 0 := by rw [up_nk (by decide), up_nk (by decide), up_s]
    have g11 : up (up (up I1 80 2 0) 80 11 0) 80 12 (-1) 80 11 = 0 := by rw [up_nk (by decide), up_s]
    have g12 : up (up (up I1 80 2 0) 80 11 0) 80 12 (-1) 80 12 = -1 := up_s
    have hS2 : bS (up (up (up I1 80 2 0) 80 11 0) 80 12 (-1)) k B P' := by
      obtain ⟨s1, s2, s3, s4, s5, s6, s7⟩ := hS1
      refine ⟨mtR_I (fun j a1 a2 => ef j (by omega) (by omega) (by omega)) s1, ?_, ?_, ?_, ?_, ?_, ?_⟩
      · rw [ef 4 (by decide) (by decide) (by decide), ef 9 (by decide) (by decide) (by decide), ec 81 (by decide)]; exact s2
      · rw [ef 24 (by decide) (by decide) (by decide), ef 3 (by decide) (by decide) (by decide), ef 15 (by decide) (by decide) (by decide), ef 14 (by decide) (by decide) (by decide), ef 19 (by decide) (by decide) (by decide), ef 20 (by decide) (by decide) (by decide), ef 27 (by decide) (by decide) (by decide), ef 28 (by decide) (by decide) (by decide)]; exact s3
      · rw [ec 86 (by decide), ec 87 (by decide), ec 88 (by decide)]; exact s4
      · rw [ec 84 (by decide), ec 85 (by decide), ec 83 (by decide)]; exact s5
      · rw [ec 82 (by decide)]; exact s6
      · rw [ec 89 (by decide), ec 90 (by decide)]; exact s7
    generalize up (up (up I1 80 2 0) 80 11 0) 80 12 (-1) = I2 at ef ec g2 g11 g12 hS2
    have f0 : ∀ c, ¬ c = 80 → (c < 82 ∨ 90 < c) → I2 c = I c := fun c c1 c2 => (ec c c1).trans ((f1.1 c c1 c2).trans (up_ne _ _ _ _ c1))
    refine t_mbegins (d := d + 39) hs hwf hS2 (fun I3 J3 r1 r2 r3 r4 r5 => ?_)
    rw [r1.2.1.2.1]
    refine h1 P' z z1 ek hk hpa I3 J3 ⟨r1, r2, ?_, fun j hj => absurd hj (by omega), ?_, ?_, ?_⟩ (fun a ha => (r3 a (by omega) (by omega)).trans (f0 a (by omega) (by omega))) ?_
    · rw [r4 2 (by decide)]; exact g2
    · rw [r4 11 (by decide)]; exact g11
    · rw [r4 12 (by decide)]; exact g12
    · refine fewI_I ?_ ?_ ?_ hfew
      · rw [r4 73 (by decide), ef 73 (by decide) (by decide) (by decide), f1.2.2.2 73 (by decide), up_nk (by decide)]
      · rw [r3 118 (by decide) (by decide)]; exact f0 118 (by decide) (by decide)
      · rw [r3 119 (by decide) (by decide)]; exact f0 119 (by decide) (by decide)
    · rw [r4 0 (by decide), ef 0 (by decide) (by decide) (by decide), f1.2.2.2 0 (by decide), up_s]
def setV (G : SP) (inp : Nat → Nat) (x1 x2 x3 : Int32) : Int32 := if inN x1 (G 3 2) = true then (if x2 < -1000000000 then -1 else if 1000000000 < x2 then -1 else if x3 < 1 then -1 else if x3 ≤ 1000000000 then nI (inp (xN x1)) else -1) else -1
def setI (G : SP) (inp : Nat → Nat) (x1 x2 x3 : Int32) : Nat → Nat := if inN x1 (G 3 2) = true then (if x2 < -1000000000 then inp else if 1000000000 < x2 then inp else if x3 < 1 then inp else if x3 ≤ 1000000000 then inpW inp (xN x1) (mP (zP x2.toInt * ivP (zP x3.toInt))) else inp) else inp
theorem setI_lt (hib : ∀ j, j < 4 → inp j < 1000000007) : ∀ j, j < 4 → setI G inp x1 x2 x3 j < 1000000007 := by
  simp only [setI]
  split
  · split
    · exact hib
    · split
      · exact hib
      · split
        · exact hib
        · split
          · exact inpW_lt hib (mP_lt _)
          · exact hib
  · exact hib
theorem c_set {Q : Int32 → HI → HR → Prop} (hA : AB G D N inp m B) (hc : CTS I R G N inp m B fk fp) (h : ∀ I' R', CTS I' R' G N (setI G inp x1 x2 x3) m B fk fp → (∀ a, 79 < a → I' a = I a) → Q (setV G inp x1 x2 x3) I' R') : Wr fi (d + 7) M_X11_set [.ref 0, .int x1, .int x2, .int x3] I J R Q := by
  obtain ⟨hw, hib, hm9, hB⟩ := hA
  obtain ⟨hq, ⟨p, p', hp5, hp6, hpp⟩, hin, hby, hbs, hfk, hfp⟩ := id hc
  have hs := hq.1
  have hxp : isX5 p := by rcases hpp with ⟨rfl, _⟩ | ⟨rfl, _⟩ <;> simp [isX5]
  have hpP : pR I p G := by
    obtain ⟨q, hq1, hq2, hq3⟩ := hq.2.1
    rw [hp5] at hq1
    cases hq1
    exact hq3
  have h4 := hw.2.2.2.2.2.1
  have same : setI G inp x1 x2 x3 = inp → Q (setV G inp x1 x2 x3) I R := fun e => h I R (by rw [e]; exact hc) (fun _ _ => rfl)
  refine e_X11_set hs ?_
  simp only [setI, setV] at h same
  refine t_hasInput hs h4 hp5 hxp hpP.2.2.1 ⟨fun hi => ?_, fun hi => ?_⟩
  · rw [hi, if_neg (by decide)] at same
    rw [if_neg (by decide)] at same
    exact same rfl
  · rw [hi, if_pos rfl, if_pos rfl] at same
    rw [hi, if_pos rfl, if_pos rfl] at h
    refine ⟨fun q => ?_, fun q => ⟨fun q1 => ?_, fun q1 => ⟨fun q2 => ?_, fun q2 => ⟨fun q3 => ?_, fun q3 => ?_⟩⟩⟩⟩
    · rw [if_pos q, if_pos q] at same; exact same rfl
    · rw [if_neg q, if_pos q1, if_neg q, if_pos q1] at same; exact same rfl
    · rw [if_neg q, if_neg q1, if_pos q2, if_neg q, if_neg q1, if_pos q2] at same; exact same rfl
    · rw [if_neg q, if_neg q1, if_neg q2, if_pos q3, if_neg q, if_neg q1, if_neg q2, if_pos q3] at h
      obtain ⟨i, ci, c02, c22⟩ := in_ex (by omega) hi
      rw [c22] at h
      refine ⟨i, ci, by omega, ?_⟩
      refine t_of hs (t_of hs (t_inverse hs (zP_lt _) (t_times hs (zP_lt _) (ivP_lt _) ⟨p, hp5, hxp, ?_⟩)))
      have fr : ∀ a, ¬ a = 16 → up I 16 i (nI (mP (zP x2.toInt * ivP (zP x3.toInt)))) a = I a := fun a ha => up_ne _ _ _ _ ha
      have i16 : ∀ j, j < 4 → up I 16 i (nI (mP (zP x2.toInt * ivP (zP x3.toInt)))) 16 j = nI (inpW inp i (mP (zP x2.toInt * ivP (zP x3.toInt))) j) := by
        intro j hj
        simp only [inpW]
        by_cases hji : j = i
        · rw [if_pos hji, hji, up_s]
        · rw [if_neg hji, up_nk hji]; exact hin j hj
      refine t_execute (d := d) (G := G) (D := D) (N := N) (inp := inpW inp i (mP (zP x2.toInt * ivP (zP x3.toInt)))) hs (Or.inl rfl) hxp hw (pR_I (fun a a1 a2 => fr a (by rcases hpp with ⟨rfl, _⟩ | ⟨rfl, _⟩ <;> omega)) hpP) (sc_16 hs) rfl (Or.inl (by decide)) (fun j hj => inpW_lt hib (mP_lt _) j (by omega)) (fun j hj => i16 j (by omega)) (fun I3 g1 g2 => ?_)
      rw [hin i (by omega)]
      have hP3 : pR I3 p G := pR_I (fun a a1 a2 => (g2 a (by rcases hpp with ⟨rfl, _⟩ | ⟨rfl, _⟩ <;> omega)).trans (fr a (by rcases hpp with ⟨rfl, _⟩ | ⟨rfl, _⟩ <;> omega))) hpP
      have hs3 : Stat (up R 17 0 (some p)) := su_X1_0 hs (Or.inl rfl)
      have q5 : (up R 17 0 (some p)) 0 5 = some p := by rw [up_na (by decide)]; exact hp5
      have q6 : (up R 17 0 (some p)) 0 6 = some p' := by rw [up_na (by decide)]; exact hp6
      have c0 : ∀ a, a < 16 → I3 a = I a := fun a ha => (g2 a (by omega)).trans (fr a (by omega))
      refine h I3 _ ⟨⟨hs3, ⟨p, q5, hxp, hP3⟩, g1⟩, ⟨p, p', q5, q6, hpp⟩, fun j hj => by rw [g2 16 (by decide)]; exact i16 j hj, by rw [c0 0 (by decide)]; exact hby, fun j hj => by rw [c0 1 (by decide)]; exact hbs j hj, by rw [c0 0 (by decide)]; exact hfk, by rw [c0 0 (by decide)]; exact hfp⟩ (fun a ha => (g2 a (by omega)).trans (fr a (by omega)))
    · rw [if_neg q, if_neg q1, if_neg q2, if_neg q3, if_neg q, if_neg q1, if_neg q2, if_neg q3] at same; exact same rfl
theorem zP_self {x : Int32} (h0 : ¬ x < 1) (h1 : x ≤ 1000000000) : Int32.toInt64 x = lN (zP x.toInt) := by
  rw [show (1 : Int32) = nI 1 from rfl, x_ltn x (by decide)] at h0
  rw [show (1000000000 : Int32) = nI 1000000000 from rfl, x_len x (by decide)] at h1
  refine lN_of ?_ ?_
  · have := zP_lt x.toInt; omega
  · rw [i2l]
    simp only [zP]
    omega
theorem m_set {Q : Int32 → HI → HJ → Prop} (hA : AB G D N inp m B) (hc : MT I J R G inp m B fk fp) (h : ∀ I' J', MT I' J' R G (setI G inp x1 x2 x3) m B fk fp → (∀ a, a < 80 → I' a = I a) → I' 80 0 = 0 → Q (setV G inp x1 x2 x3) I' J') : Wd fi (d + 6) M_X12_set [.ref 80, .int x1, .int x2, .int x3] I J R Q := by
  obtain ⟨hw, hib, hm9, hB⟩ := hA
  obtain ⟨hq, hJ, hby, hbs, hfk, hfp, hfew⟩ := id hc
  have hs := hq.1
  have h4 := hw.2.2.2.2.2.1
  have hq0 := rQ_fr (frA_0 (I := I) (J := J)) hq
  have hM0 : MT (up I 80 0 0) J R G inp m B fk fp := ⟨hq0, hJ, by rw [up_nk (by decide)]; exact hby, fun j hj => by rw [up_na (by decide)]; exact hbs j hj, by rw [up_nk (by decide)]; exact hfk, by rw [up_nk (by decide)]; exact hfp, fewI_0 hfew⟩
  have same : setI G inp x1 x2 x3 = inp → Q (setV G inp x1 x2 x3) (up I 80 0 0) J := fun e => h _ J (by rw [e]; exact hM0) (fun a ha => up_ne _ _ _ _ (by omega)) up_s
  refine e_X12_set hs ?_
  simp only [setI, setV] at h same
  rw [hq.2.1.2.2.1]
  rcases xc x1 (G 3 2) (by omega) with ⟨c0, c1⟩ | ⟨c0, c1, c2, c3⟩ | ⟨i, ci, c0, c1, c2, c3, c4, c5⟩
  · rw [c1, if_neg (by decide), if_neg (by decide)] at same
    exact ⟨fun _ => same rfl, fun w => absurd c0 w⟩
  · rw [c3, if_neg (by decide), if_neg (by decide)] at same
    exact ⟨fun _ => same rfl, fun _ => ⟨fun _ => same rfl, fun w => absurd c1 w⟩⟩
  · rw [c1, if_pos rfl, if_pos rfl] at same
    rw [c1, if_pos rfl, if_pos rfl, c2] at h
    refine ⟨fun w => absurd w c3, fun _ => ⟨fun w => absurd w c4, fun _ => ⟨fun q => ?_, fun q => ⟨fun q1 => ?_, fun q1 => ⟨fun q2 => ?_, fun q2 => ⟨fun q3 => ?_, fun q3 => ?_⟩⟩⟩⟩⟩⟩
    · rw [if_pos q, if_pos q] at same; exact same rfl
    · rw [if_neg q, if_pos q1, if_neg q, if_pos q1] at same; exact same rfl
    · rw [if_neg q, if_neg q1, if_pos q2, if_neg q, if_neg q1, if_pos q2] at same; exact same rfl
    · rw [if_neg q, if_neg q1, if_neg q2, if_pos q3, if_neg q, if_neg q1, if_neg q2, if_pos q3] at h
      refine ⟨i, ci, by omega, ?_⟩
      have b1 := Int32.le_toInt x2
      have b2 := Int32.toInt_lt x2
      refine t_left hs (by rw [i2l]; omega) (by rw [i2l]; omega) ?_
      rw [i2l, zP_self q2 q3, hJ i (by omega), lN_i]
      refine t_parted hs (zP_lt _) (zP_lt _) ?_
      refine t_runsB (I := I) (J := J) (J1 := J) (i := i) hs hw hq.2.1 hib hJ (fun _ _ => rfl) (mP_lt _) frB_0 (fun I2 J2 g1 g2 g3 g4 g5 => ?_)
      have e80 : ∀ k, (k < 44 ∨ 61 < k) → ¬ k = 0 → I2 80 k = I 80 k := fun k h1 h2 => g3.2.1 k h2 h1
      refine h I2 J2 ⟨g1, fun j hj => ?_, by rw [e80 2 (by decide) (by decide)]; exact hby, fun j hj => by rw [g3.1 81 (by decide) (by decide)]; exact hbs j hj, by rw [e80 11 (by decide) (by decide)]; exact hfk, by rw [e80 12 (by decide) (by decide)]; exact hfp, fewI_I (e80 73 (by decide) (by decide)) (g3.1 118 (by decide) (by decide)) (g3.1 119 (by decide) (by decide)) hfew⟩ (fun a ha => g3.1 a (by omega) (by omega)) g3.2.2.1
      rw [g4 j]
      simp only [inpW]
      by_cases hji : j = i
      · rw [if_pos hji, if_pos hji]
      · rw [if_neg hji, if_neg hji]; exact hJ j hj
    · rw [if_neg q, if_neg q1, if_neg q2, if_neg q3, if_neg q, if_neg q1, if_neg q2, if_neg q3] at same; exact same rfl
end TA
